/-! own: the reference's record of a run -/
def HM (tm : TM) (L : Nat) (cells heads sts : Nat → Int32) : Prop := ∀ i, i ≤ L → sts i = nI (cf tm i).1 ∧ heads i = iI (cf tm i).2.1 ∧ ∀ c : Nat, c < 403 → cells (403 * i + c) = nI ((cf tm i).2.2.1 ((c : Int) - 201))
theorem idx403 (i : Nat) (h : Int) : (403 : Int32) * nI i + 201 + iI h = iI (403 * (i : Int) + 201 + h) := by
  rw [show (403 : Int32) = iI 403 from rfl, show (201 : Int32) = iI 201 from rfl, iI_nat, iI_mul, iI_add, iI_add]
theorem e403 (i c : Nat) : (403 : Int32) * nI i + nI c = nI (403 * i + c) := by rw [show (403 : Int32) = nI 403 from rfl, pk_mul, nI_add]
theorem m_sym {i : Nat} {z : Int} {cells : Nat → Int32} {t : Int → Nat} {Q : Int32 → Prop} (hi : i ≤ 200) (h1 : -201 ≤ z) (h2 : z ≤ 201) (hc : ∀ c : Nat, c < 403 → cells (403 * i + c) = nI (t ((c : Int) - 201))) (k : Q (nI (t z))) : pX9_symbolAt (nI i) (iI z) cells Q := by
  unfold pX9_symbolAt
  rw [idx403]
  refine ⟨iI_in (by omega) (by omega) (by omega), ?_⟩
  rw [iI_clamp (by omega) (by omega), show (403 * (i : Int) + 201 + z).toNat = 403 * i + (z + 201).toNat by omega, hc _ (by omega), show (((z + 201).toNat : Nat) : Int) - 201 = z by omega]
  exact k
theorem m_haltsAt {cnt i : Nat} {tm : TM} {c0 : Int32} {has wr mv nx cells heads sts : Nat → Int32} {Q : Int32 → Prop} (hW : WF cnt tm) (hM : RMm cnt tm c0 has wr mv nx) (hn : nh tm i) (hi : i ≤ 200) (hH : HM tm i cells heads sts) (k1 : hlt tm (cf tm i) → Q 1) (k0 : ¬ hlt tm (cf tm i) → Q 0) : pX9_haltsAt (nI i) has cells heads sts Q := by
  have hc5 := hW.2.1
  obtain ⟨c1, c2, c3, c4, c5, c6, c7, c8, c9, c10⟩ := CE_cf hW hn (by omega) i (Nat.le_refl _)
  obtain ⟨s1, s2, s3⟩ := hH i (Nat.le_refl _)
  have hin : vp_in (nI i) 201 := vp_in_nI (by omega) (by omega)
  refine ⟨hin, ?_⟩
  rw [nI_clamp (show i < 2 ^ 31 by omega), s1, s2]
  refine ⟨fun c => k1 ?_, fun c => ⟨hin, hin, ?_⟩⟩
  · have e9 : (cf tm i).1 = 9 := (nI_eq (b := 9) (by omega) (by omega)).mp c
    cases hr : rd tm (cf tm i).1 (cf tm i).2.1 (cf tm i).2.2.1 with
    | none => exact hr
    | some x =>
      obtain ⟨a, b, d⟩ := x
      have := (rd_some hW hr).1
      omega
  · have hq' : (cf tm i).1 < cnt := c2.elim id (fun e => absurd (by rw [e]; rfl) c)
    refine m_sym hi (by omega) (by omega) s3 ?_
    have := c9 (cf tm i).2.1
    rw [slot_e, nI_clamp (show 2 * (cf tm i).1 + (cf tm i).2.2.1 (cf tm i).2.1 < 2 ^ 31 by omega)]
    refine ⟨vp_in_nI (by omega) (by omega), ?_⟩
    obtain ⟨g1, g2⟩ := hM.2 (2 * (cf tm i).1 + (cf tm i).2.2.1 (cf tm i).2.1) (by omega)
    cases hr : tm (2 * (cf tm i).1 + (cf tm i).2.2.1 (cf tm i).2.1) with
    | none => rw [g1 hr]; exact ⟨fun g => absurd rfl g, fun _ => k1 hr⟩
    | some x =>
      obtain ⟨a, b, d⟩ := x
      rw [(g2 _ _ _ hr).1]
      refine ⟨fun _ => k0 (fun g => ?_), fun g => absurd g n10⟩
      have g' : tm (2 * (cf tm i).1 + (cf tm i).2.2.1 (cf tm i).2.1) = none := g
      rw [hr] at g'; cases g'
theorem m_layNext {cnt i : Nat} {tm : TM} {c0 : Int32} {has wr mv nx cells heads sts : Nat → Int32} {Q : (Nat → Int32) → (Nat → Int32) → (Nat → Int32) → Prop} (hW : WF cnt tm) (hM : RMm cnt tm c0 has wr mv nx) (hn : nh tm (i + 1)) (hi : i < 200) (hH : HM tm i cells heads sts) (k : ∀ cells' heads' sts' : Nat → Int32, HM tm (i + 1) cells' heads' sts' → Q cells' heads' sts') : pX9_layNext (nI i) wr mv nx cells heads sts Q := by
  have hc5 := hW.2.1
  obtain ⟨c1, c2, c3, c4, c5, c6, c7, c8, c9, c10⟩ := CE_cf hW hn (by omega) i (by omega)
  obtain ⟨s1, s2, s3⟩ := hH i (Nat.le_refl _)
  have hin : vp_in (nI i) 201 := vp_in_nI (by omega) (by omega)
  have hin1 : vp_in (nI (i + 1)) 201 := vp_in_nI (by omega) (by omega)
  obtain ⟨a, b, d, hr⟩ := nhlt (hn i (by omega))
  obtain ⟨hq, ha, hb, hd⟩ := rd_some hW hr
  have hth := c9 (cf tm i).2.1
  obtain ⟨w0, w1, w2, w3⟩ := (hM.2 (2 * (cf tm i).1 + (cf tm i).2.2.1 (cf tm i).2.1) (by omega)).2 a b d hr
  have es := cf_succ hr
  refine Lp.up 403 (fun j v => v.1 = nI j ∧ (∀ m, m < 403 * (i + 1) → v.2 m = cells m) ∧ ∀ m, m < j → v.2 (403 * (i + 1) + m) = cells (403 * i + m)) ?_ (Nat.zero_le _) ⟨rfl, fun _ _ => rfl, fun m hm => absurd hm (Nat.not_lt_zero _)⟩
  rintro j ⟨l2, g⟩ hj ⟨e, g1, g2⟩
  dsimp only at e g1 g2
  subst e
  refine ⟨fun c => ?_, fun c => ?_⟩
  · have hc := (nI_leI (a := 403) (by omega) (by omega)).mp c
    refine ⟨hin, hin, ?_⟩
    rw [nI_clamp (show i < 2 ^ 31 by omega), s1, s2]
    refine m_sym (t := (cf tm i).2.2.1) (by omega) (by omega) (by omega) (fun c hc => by rw [g1 _ (by omega)]; exact s3 c hc) ?_
    intro x6 e6
    rw [slot_e] at e6
    subst e6
    have hin6 : vp_in (nI (2 * (cf tm i).1 + (cf tm i).2.2.1 (cf tm i).2.1)) 10 := vp_in_nI (by omega) (by omega)
    rw [nI_1, idx403, nI_clamp (show 2 * (cf tm i).1 + (cf tm i).2.2.1 (cf tm i).2.1 < 2 ^ 31 by omega), w1, w2, iI_clamp (by omega) (by omega)]
    refine ⟨hin, hin6, iI_in (by omega) (by omega) (by omega), hin, hin6, ?_⟩
    have fin : ∀ s2' : Int32, iI (cf tm i).2.1 + s2' = iI (mvd (cf tm i).2.1 b) → pX9_layNext_j119 (nI i) wr mv nx Q (nI (2 * (cf tm i).1 + (cf tm i).2.2.1 (cf tm i).2.1)) (nI (i + 1)) (iI (cf tm i).2.1) s2' (upd g (403 * ((i + 1 : Nat) : Int) + 201 + (cf tm i).2.1).toNat (nI a)) heads sts := by
      intro s2' e2
      unfold pX9_layNext_j119
      rw [nI_1, e2, nI_clamp (show i + 1 < 2 ^ 31 by omega), nI_clamp (show 2 * (cf tm i).1 + (cf tm i).2.2.1 (cf tm i).2.1 < 2 ^ 31 by omega), w3]
      refine ⟨hin1, hin6, hin1, k _ _ _ (fun m hm => ?_)⟩
      simp only [upd_eq]
      by_cases e : m = i + 1
      · subst e
        simp only [if_true]
        rw [es]
        refine ⟨rfl, rfl, fun c hc => ?_⟩
        show _ = nI (wrt (cf tm i).2.2.1 (cf tm i).2.1 a ((c : Int) - 201))
        unfold wrt
        by_cases e2 : (c : Int) - 201 = (cf tm i).2.1
        · rw [if_pos (by omega), if_pos e2]
        · rw [if_neg (by omega), if_neg e2, g2 c (by omega)]
          exact s3 c hc
      · simp only [if_neg e]
        obtain ⟨u1, u2, u3⟩ := hH m (by omega)
        refine ⟨u1, u2, fun c hc => ?_⟩
        rw [if_neg (by omega), g1 _ (by omega)]
        exact u3 c hc
    refine ⟨fun c => fin (-1) ?_, fun c => fin 1 ?_⟩
    · have : ¬ b = 1 := fun e => c (by rw [e]; rfl)
      rw [iI_m1, iI_add]
      unfold mvd
      rw [if_neg this]
      congr 1
    · have : b = 1 := (nI_eq (b := 1) (by omega) (by omega)).mp c
      rw [iI_1, iI_add]
      unfold mvd
      rw [if_pos this]
  · have hlt' : j < 403 := by
      rcases Nat.lt_or_ge j 403 with q | q
      · exact q
      · exact absurd (nI_le (a := 403) q (by omega)) c
    rw [nI_1, e403, e403, nI_clamp (show 403 * i + j < 2 ^ 31 by omega), nI_clamp (show 403 * (i + 1) + j < 2 ^ 31 by omega)]
    refine ⟨vp_in_nI (by omega) (by omega), vp_in_nI (by omega) (by omega), ?_⟩
    intro x18 e18
    rw [e18, nI_1]
    refine ⟨hlt', rfl, fun m hm => ?_, fun m hm => ?_⟩
    · show upd g (403 * (i + 1) + j) _ m = _
      rw [upd_eq, if_neg (by omega)]; exact g1 m hm
    · show upd g (403 * (i + 1) + j) _ (403 * (i + 1) + m) = _
      rw [upd_eq]
      by_cases e : m = j
      · subst e; rw [if_pos rfl, g1 _ (by omega)]
      · rw [if_neg (by omega)]; exact g2 m (by omega)
/-- what simulate leaves -/
def Sim (tm : TM) (lim L : Nat) (times haltedAt : Int32) : Prop := Ran tm lim L ∧ ((hlt tm (cf tm L) ∧ haltedAt = nI L ∧ times = nI L) ∨ (¬ hlt tm (cf tm L) ∧ haltedAt = -1005 ∧ times = nI (L + 1)))
theorem m_sim {cnt lim : Nat} {tm : TM} {c0 tis hat : Int32} {has wr mv nx cells heads sts : Nat → Int32} {Q : (Nat → Int32) → (Nat → Int32) → (Nat → Int32) → Int32 → Int32 → Prop} (hW : WF cnt tm) (hM : RMm cnt tm c0 has wr mv nx) (hl : lim ≤ 200)
    (k : ∀ (L : Nat) (cells' heads' sts' : Nat → Int32) (ti ha : Int32), HM tm L cells' heads' sts' → Sim tm lim L ti ha → Q cells' heads' sts' ti ha) : pX9_simulate (nI lim) has wr mv nx cells heads sts tis hat Q := by
  refine Lp.up 403 (fun j v => v.1 = nI j ∧ ∀ m, m < j → v.2 m = 0) ?_ (Nat.zero_le _) ⟨rfl, fun m hm => absurd hm (Nat.not_lt_zero _)⟩
  rintro j ⟨l2, g⟩ hj ⟨e, g1⟩
  dsimp only at e g1
  subst e
  refine ⟨fun c => ?_, fun c => ?_⟩
  · have hc := (nI_leI (a := 403) (by omega) (by omega)).mp c
    have hz : vp_in (0 : Int32) 201 := vp_in_nI (n := 0) (by omega) (by omega)
    refine ⟨hz, hz, ?_⟩
    have hH0 : HM tm 0 g (upd heads (0 : Int32).toNatClampNeg 0) (upd sts (0 : Int32).toNatClampNeg 0) := by
      intro i hi
      have : i = 0 := by omega
      subst this
      rw [show (0 : Int32).toNatClampNeg = 0 from rfl, upd_eq, upd_eq, if_pos rfl, if_pos rfl]
      refine ⟨rfl, rfl, fun c hc => ?_⟩
      rw [g1 _ (by omega)]
      rfl
    refine Lp.up (lim + 2) (fun t v => ∃ cells' heads' sts' : Nat → Int32, (t ≤ lim ∧ nh tm t ∧ HM tm t cells' heads' sts' ∧ v = (nI t, cells', heads', sts', nI t, -1005)) ∨ (t = lim + 1 ∧ nh tm t ∧ HM tm lim cells' heads' sts' ∧ v = (nI t, cells', heads', sts', nI t, -1005)) ∨ (∃ s, t = s + 1 ∧ s ≤ lim ∧ nh tm s ∧ hlt tm (cf tm s) ∧ HM tm s cells' heads' sts' ∧ v = (nI t, cells', heads', sts', nI s, nI s))) ?_ (Nat.zero_le _) ⟨g, _, _, Or.inl ⟨by omega, fun j hj => absurd hj (Nat.not_lt_zero _), hH0, rfl⟩⟩
    rintro t v ht ⟨cells', heads', sts', hv⟩
    rcases hv with ⟨t1, t2, t3, rfl⟩ | ⟨t1, t2, t3, rfl⟩ | ⟨s, t1, t2, t3, t4, t5, rfl⟩
    · refine ⟨fun c => absurd c (nI_nlt t1 (by omega)), fun _ => ⟨fun c => absurd c (by decide), fun _ => ?_⟩⟩
      refine m_haltsAt hW hM t2 (by omega) t3 (fun hh => ⟨fun g => absurd g n10, fun _ => ?_⟩) (fun hh => ⟨fun _ => ?_, fun g => absurd rfl g⟩)
      · intro x11 e11
        rw [e11, nI_1]
        exact ⟨by omega, cells', heads', sts', Or.inr (Or.inr ⟨t, rfl, t1, t2, hh, t3, rfl⟩)⟩
      · have hn' : nh tm (t + 1) := by
          intro j hj
          by_cases e : j = t
          · subst e; exact hh
          · exact t2 j (by omega)
        intro x9 e9
        rw [nI_1] at e9
        subst e9
        refine ⟨fun c => ?_, fun c => ?_⟩
        · have := (nI_leI (by omega) (by omega)).mp c
          have et : t = lim := by omega
          intro x11 e11
          rw [e11, nI_1]
          exact ⟨by omega, cells', heads', sts', Or.inr (Or.inl ⟨by omega, hn', by rw [← et]; exact t3, rfl⟩)⟩
        · have hlt' : t < lim := by
            rcases Nat.lt_or_ge t lim with q | q
            · exact q
            · exact absurd (nI_le q (by omega)) c
          refine m_layNext hW hM hn' (by omega) t3 (fun c2 h2 s2 hH2 x11 e11 => ?_)
          rw [e11, nI_1]
          exact ⟨by omega, c2, h2, s2, Or.inl ⟨by omega, hn', hH2, rfl⟩⟩
    · have fin : Q cells' heads' sts' (nI t) (-1005) := by
        refine k lim _ _ _ _ _ t3 ⟨⟨Nat.le_refl _, fun j hj => t2 j (by omega), Or.inl rfl⟩, Or.inr ⟨t2 lim (by omega), rfl, by rw [t1]⟩⟩
      exact ⟨fun _ => fin, fun c => absurd (nI_lt (by omega) (by omega)) c⟩
    · have fin : Q cells' heads' sts' (nI s) (nI s) := k s _ _ _ _ _ t5 ⟨⟨t2, t3, Or.inr t4⟩, Or.inl ⟨t4, rfl, rfl⟩⟩
      exact ⟨fun _ => fin, fun _ => ⟨fun _ => fin, fun c => absurd (nI_pos' (by omega)) c⟩⟩
  · have hlt' : j < 403 := by
      rcases Nat.lt_or_ge j 403 with q | q
      · exact q
      · exact absurd (nI_le (a := 403) q (by omega)) c
    rw [nI_clamp (show j < 2 ^ 31 by omega)]
    refine ⟨vp_in_nI (by omega) (by omega), ?_⟩
    intro x17 e17
    rw [e17, nI_1]
    refine ⟨hlt', rfl, fun m hm => ?_⟩
    show upd g j 0 m = 0
    rw [upd_eq]
    by_cases e : m = j
    · rw [if_pos e]
    · rw [if_neg e]; exact g1 m (by omega)
/-! limits -/
theorem lim_in {l : Nat} (h1 : 1 ≤ l) (h2 : l ≤ 200) {Q : Int32 → Prop} (k : Q 1) : pX8_isLimit (nI l) Q := ⟨fun c => absurd c (nI_nlt (b := 1) h1 (by omega)), fun _ => ⟨fun c => absurd c (nI_nlt (a := 200) h2 (by omega)), fun _ => k⟩⟩
theorem mlim_in {l : Nat} (h1 : 1 ≤ l) (h2 : l ≤ 200) {Q : Int32 → Prop} (k : Q 1) : pX9_isLimit (nI l) Q := in_ok (nI_nlt (b := 1) h1 (by omega)) (nI_nlt (a := 200) h2 (by omega)) ⟨isB_1, k⟩
theorem lim_cases (p : Int32) : (p < 1 ∨ 200 < p) ∨ ∃ l : Nat, 1 ≤ l ∧ l ≤ 200 ∧ p = nI l := by
  by_cases c1 : p < 1
  · exact Or.inl (Or.inl c1)
  · by_cases c2 : (200 : Int32) < p
    · exact Or.inl (Or.inr c2)
    · exact Or.inr (rng (lo := 1) (hi := 200) (by omega) c1 c2 (by omega))
theorem lim_out {p : Int32} (h : p < 1 ∨ 200 < p) {Q : Int32 → Prop} (k : Q 0) : pX8_isLimit p Q := ⟨fun _ => k, fun c => ⟨fun _ => k, fun c2 => by rcases h with h | h; exact absurd h c; exact absurd h c2⟩⟩
theorem mlim_out {p : Int32} (h : p < 1 ∨ 200 < p) {Q : Int32 → Prop} (k : Q 0) : pX9_isLimit p Q := h.elim (fun c => in_lo c ⟨isB_0, k⟩) (fun c => in_hi c ⟨isB_0, k⟩)
theorem O_haltingTime : Ob_haltingTime Iv := by
  intro c wr mv fo words st hd ti lo hi codes len ss has wri mov nex text typ tape on mt ms mh hw' hst hhd hti hlo hhi hsr hhr hrr hlr htr hla hen mc mhe mst mtm mha p1 hI
  obtain ⟨cnt, tm, hW, hX, hM, hC, hT⟩ := id hI
  have ec : c = nI cnt := hX.1
  have es : ss = nI cnt := hM.1
  subst ec es
  rcases lim_cases p1 with h | ⟨l, l1, l2, rfl⟩
  · exact lim_out h ⟨fun g => absurd rfl g, fun _ => mlim_out h ⟨fun g => absurd rfl g, fun _ => ⟨rfl, hI⟩⟩⟩
  · refine lim_in l1 l2 ⟨fun _ => ?_, fun g => absurd g n10⟩
    refine x_record hW hX l2 (fun L w1 a1 a2 a3 a4 a5 sr1 hr1 rr1 lr1 tr1 en1 hR hH he1 he0 => ?_)
    have md : ∀ r : Int32, (hlt tm (cf tm L) → r = nI L) → (¬ hlt tm (cf tm L) → r = -1005) → pX9_haltingTime (nI l) has wri mov nex mc mhe mst mtm mha (fun t _ _ _ _ _ => r = t ∧ Iv (nI cnt) wr mv fo words st hd ti lo hi codes len (nI cnt) has wri mov nex text typ tape on mt ms mh) := by
      intro r r1 r0
      refine mlim_in l1 l2 ⟨fun _ => ?_, fun g => absurd g n10⟩
      refine m_sim hW hM l2 (fun L2 c2 h2 s2 ti2 ha2 hH2 hS => ⟨?_, hI⟩)
      obtain ⟨hR2, hc⟩ := hS
      have := Ran_one hR hR2
      subst this
      rcases hc with ⟨u1, u2, u3⟩ | ⟨u1, u2, u3⟩
      · rw [r1 u1, u2]
      · rw [r0 u1, u2]
    by_cases hh : hlt tm (cf tm L)
    · rw [he1 hh]
      exact ⟨fun g => absurd g n10, fun _ => md _ (fun _ => rfl) (fun g => absurd hh g)⟩
    · rw [he0 hh]
      exact ⟨fun _ => md _ (fun g => absurd g hh) (fun _ => rfl), fun g => absurd rfl g⟩
