/-! own: calls that need a transition; simple questions -/
theorem x_tErr {cnt : Nat} {tm : TM} {wr mv fo : Nat → Int32} {c0 p1 p2 : Int32} {Q : Int32 → Prop} (hW : WF cnt tm) (hX : RMx cnt tm c0 wr mv fo)
    (e1 : ¬ stOK cnt p1 → Q (-1001)) (e2 : stOK cnt p1 → ¬ syOK p2 → Q (-1002)) (e3 : ∀ q s, q < cnt → s < 2 → p1 = nI q → p2 = nI s → tm (2 * q + s) = none → Q (-1003)) (k : ∀ q s x, q < cnt → s < 2 → p1 = nI q → p2 = nI s → tm (2 * q + s) = some x → Q 0) : pX8_transitionError p1 p2 (nI cnt) fo Q := by
  have hc5 := hW.2.1
  rcases st_cases p1 hc5 with h1 | ⟨q, hq, rfl⟩
  · exact st_out h1 ⟨fun h => absurd rfl h, fun _ => e1 (st_no hc5 h1)⟩
  rcases sy_cases p2 with ⟨a0, a1⟩ | ⟨s, hs, rfl⟩
  · exact st_in hc5 hq ⟨fun _ => sy_out a0 a1 ⟨fun h => absurd rfl h, fun _ => e2 ⟨q, hq, rfl⟩ (sy_no a0 a1)⟩, fun h => absurd h n10⟩
  refine st_in hc5 hq ⟨fun _ => sy_in hs ⟨fun _ => ?_, fun h => absurd h n10⟩, fun h => absurd h n10⟩
  exact s_has hW hX hq hs (fun ht => ⟨fun _ => e3 q s hq hs rfl rfl ht, fun h => absurd rfl h⟩) (fun x ht => ⟨fun h => absurd h n10, fun _ => k q s x hq hs rfl rfl ht⟩)
theorem m_wrong {cnt : Nat} {tm : TM} {has wr mv nx : Nat → Int32} {c0 p1 p2 : Int32} {Q : Int32 → Prop} (hW : WF cnt tm) (hM : RMm cnt tm c0 has wr mv nx)
    (e1 : ¬ stOK cnt p1 → Q (-1001)) (e2 : stOK cnt p1 → ¬ syOK p2 → Q (-1002)) (e3 : ∀ q s, q < cnt → s < 2 → p1 = nI q → p2 = nI s → tm (2 * q + s) = none → Q (-1003)) (k : ∀ q s x, q < cnt → s < 2 → p1 = nI q → p2 = nI s → tm (2 * q + s) = some x → Q 0) : pX9_wrong p1 p2 (nI cnt) has Q := by
  have hc5 := hW.2.1
  have hc1 := hW.1
  rcases st_cases p1 hc5 with h1 | ⟨q, hq, rfl⟩
  · exact sm_out hc1 hc5 h1 ⟨fun h => absurd rfl h, fun _ => e1 (st_no hc5 h1)⟩
  rcases sy_cases p2 with ⟨a0, a1⟩ | ⟨s, hs, rfl⟩
  · exact sm_in hc5 hq ⟨fun _ => symb_out a0 a1 ⟨fun h => absurd rfl h, fun _ => e2 ⟨q, hq, rfl⟩ (sy_no a0 a1)⟩, fun h => absurd h n10⟩
  refine sm_in hc5 hq ⟨fun _ => symb_in hs ⟨fun _ => ?_, fun h => absurd h n10⟩, fun h => absurd h n10⟩
  rw [slot_e]
  refine ⟨vp_in_nI (by omega) (by omega), ?_⟩
  rw [nI_clamp (show 2 * q + s < 2 ^ 31 by omega)]
  obtain ⟨g1, g2⟩ := hM.2 (2 * q + s) (by omega)
  cases ht : tm (2 * q + s) with
  | none => rw [g1 ht]; exact ⟨fun _ => e3 q s hq hs rfl rfl ht, fun h => absurd rfl h⟩
  | some x =>
    obtain ⟨x1, x2, x3⟩ := x
    rw [(g2 _ _ _ ht).1]
    exact ⟨fun h => absurd h n10, fun _ => k q s _ hq hs rfl rfl ht⟩
/-- both refusals alike: class and reference, with what each does where the transition is there -/
theorem both_err {cnt : Nat} {tm : TM} {wr mv fo has wri mov nex : Nat → Int32} {c0 c1 p1 p2 : Int32} {X : Int32 → Prop} (hW : WF cnt tm) (hX : RMx cnt tm c0 wr mv fo) (hM : RMm cnt tm c1 has wri mov nex)
    (hx : ∀ r : Int32, (r = -1001 ∨ r = -1002 ∨ r = -1003) → pX9_wrong p1 p2 (nI cnt) has (fun t => t = r) → X r) (h0 : ∀ q s x, q < cnt → s < 2 → p1 = nI q → p2 = nI s → tm (2 * q + s) = some x → X 0) : pX8_transitionError p1 p2 (nI cnt) fo X := by
  have hc5 := hW.2.1
  refine x_tErr hW hX (fun e => ?_) (fun e e' => ?_) (fun q s hq hs f1 f2 ht => ?_) h0
  · exact hx _ (Or.inl rfl) (m_wrong hW hM (fun _ => rfl) (fun h => absurd h e) (fun q s hq hs f1 => absurd ⟨q, hq, f1⟩ e) (fun q s x hq hs f1 => absurd ⟨q, hq, f1⟩ e))
  · exact hx _ (Or.inr (Or.inl rfl)) (m_wrong hW hM (fun h => absurd e h) (fun _ _ => rfl) (fun q s hq hs f1 f2 => absurd ⟨s, hs, f2⟩ e') (fun q s x hq hs f1 f2 => absurd ⟨s, hs, f2⟩ e'))
  · refine hx _ (Or.inr (Or.inr rfl)) (m_wrong hW hM (fun h => absurd ⟨q, hq, f1⟩ h) (fun _ h => absurd ⟨s, hs, f2⟩ h) (fun _ _ _ _ _ _ _ => rfl) (fun q2 s2 x hq2 hs2 g1 g2 ht2 => ?_))
    have i1 : q2 = q := (nI_eq (by omega) (by omega)).mp (g1.symm.trans f1)
    have i2 : s2 = s := (nI_eq (by omega) (by omega)).mp (g2.symm.trans f2)
    subst i1 i2
    rw [ht] at ht2; cases ht2
theorem in_mono {a b c : Int32} {P Q : Int32 → Prop} (h : pX9_in a b c P) (hPQ : ∀ r, P r → Q r) : pX9_in a b c Q := ⟨fun x => hPQ _ (h.1 x), fun x => ⟨fun y => hPQ _ ((h.2 x).1 y), fun y => hPQ _ ((h.2 x).2 y)⟩⟩
theorem wrong_mono {p1 p2 ss : Int32} {has : Nat → Int32} {P Q : Int32 → Prop} (h : pX9_wrong p1 p2 ss has P) (hPQ : ∀ r, P r → Q r) : pX9_wrong p1 p2 ss has Q := by
  unfold pX9_wrong pX9_isState at h ⊢
  refine in_mono h (fun r a => ⟨a.1, fun n => ?_, fun z => hPQ _ (a.2.2 z)⟩)
  refine in_mono (a.2.1 n) (fun r b => ⟨fun n2 => ⟨(b.1 n2).1, fun z => hPQ _ ((b.1 n2).2.1 z), fun z => hPQ _ ((b.1 n2).2.2 z)⟩, fun z => hPQ _ (b.2 z)⟩)
theorem err_ne0 {r : Int32} (h : r = -1001 ∨ r = -1002 ∨ r = -1003) : ¬ r = 0 := by rcases h with rfl | rfl | rfl <;> decide
theorem m_there {cnt : Nat} {tm : TM} {has wr mv nx : Nat → Int32} {c0 : Int32} {q s : Nat} {x : Nat × Nat × Nat} {Q : Int32 → Prop} (hW : WF cnt tm) (hM : RMm cnt tm c0 has wr mv nx) (hq : q < cnt) (hs : s < 2) (ht : tm (2 * q + s) = some x) (k : Q 0) : pX9_wrong (nI q) (nI s) (nI cnt) has Q := by
  have hc5 := hW.2.1
  refine m_wrong hW hM (fun h => absurd ⟨q, hq, rfl⟩ h) (fun _ h => absurd ⟨s, hs, rfl⟩ h) (fun q2 s2 hq2 hs2 g1 g2 ht2 => ?_) (fun _ _ _ _ _ _ _ _ => k)
  have i1 : q = q2 := (nI_eq (by omega) (by omega)).mp g1
  have i2 : s = s2 := (nI_eq (by omega) (by omega)).mp g2
  subst i1 i2
  rw [ht] at ht2; cases ht2
theorem O_writes : Ob_writes Iv := by
  intro c wr mv fo words st hd ti lo hi codes len ss has wri mov nex text typ tape on mt ms mh p1 p2 hI
  obtain ⟨cnt, tm, hW, hX, hM, hC, hT⟩ := id hI
  have ec : c = nI cnt := hX.1
  have es : ss = nI cnt := hM.1
  subst ec es
  refine both_err hW hX hM (fun r hr hm => ⟨fun h => absurd h (err_ne0 hr), fun _ => ?_⟩) (fun q s x hq hs f1 f2 ht => ⟨fun _ => ?_, fun h => absurd rfl h⟩)
  · exact wrong_mono hm (fun t e => by subst e; exact ⟨fun h => absurd h (err_ne0 hr), fun _ => ⟨rfl, hI⟩⟩)
  · subst f1 f2
    have hc5 := hW.2.1
    refine s_wr hc5 hq hs (m_there hW hM hq hs ht ⟨fun _ => ?_, fun h => absurd rfl h⟩)
    rw [slot_e]
    refine ⟨vp_in_nI (by omega) (by omega), ?_, hI⟩
    rw [nI_clamp (show 2 * q + s < 2 ^ 31 by omega)]
    obtain ⟨x1, x2, x3⟩ := x
    rw [((hX.2 _ (by omega)).2 _ _ _ ht).1, ((hM.2 _ (by omega)).2 _ _ _ ht).2.1]
theorem O_moves : Ob_moves Iv := by
  intro c wr mv fo words st hd ti lo hi codes len ss has wri mov nex text typ tape on mt ms mh p1 p2 hI
  obtain ⟨cnt, tm, hW, hX, hM, hC, hT⟩ := id hI
  have ec : c = nI cnt := hX.1
  have es : ss = nI cnt := hM.1
  subst ec es
  refine both_err hW hX hM (fun r hr hm => ⟨fun h => absurd h (err_ne0 hr), fun _ => ?_⟩) (fun q s x hq hs f1 f2 ht => ⟨fun _ => ?_, fun h => absurd rfl h⟩)
  · exact wrong_mono hm (fun t e => by subst e; exact ⟨fun h => absurd h (err_ne0 hr), fun _ => ⟨rfl, hI⟩⟩)
  · subst f1 f2
    have hc5 := hW.2.1
    refine s_mv hc5 hq hs (m_there hW hM hq hs ht ⟨fun _ => ?_, fun h => absurd rfl h⟩)
    rw [slot_e]
    refine ⟨vp_in_nI (by omega) (by omega), ?_, hI⟩
    rw [nI_clamp (show 2 * q + s < 2 ^ 31 by omega)]
    obtain ⟨x1, x2, x3⟩ := x
    rw [((hX.2 _ (by omega)).2 _ _ _ ht).2.1, ((hM.2 _ (by omega)).2 _ _ _ ht).2.2.1]
theorem O_next : Ob_next Iv := by
  intro c wr mv fo words st hd ti lo hi codes len ss has wri mov nex text typ tape on mt ms mh p1 p2 hI
  obtain ⟨cnt, tm, hW, hX, hM, hC, hT⟩ := id hI
  have ec : c = nI cnt := hX.1
  have es : ss = nI cnt := hM.1
  subst ec es
  refine both_err hW hX hM (fun r hr hm => ⟨fun h => absurd h (err_ne0 hr), fun _ => ?_⟩) (fun q s x hq hs f1 f2 ht => ⟨fun _ => ?_, fun h => absurd rfl h⟩)
  · exact wrong_mono hm (fun t e => by subst e; exact ⟨fun h => absurd h (err_ne0 hr), fun _ => ⟨rfl, hI⟩⟩)
  · subst f1 f2
    have hc5 := hW.2.1
    refine s_next hc5 hq hs (m_there hW hM hq hs ht ⟨fun _ => ?_, fun h => absurd rfl h⟩)
    rw [slot_e]
    refine ⟨vp_in_nI (by omega) (by omega), ?_, hI⟩
    rw [nI_clamp (show 2 * q + s < 2 ^ 31 by omega)]
    obtain ⟨x1, x2, x3⟩ := x
    rw [((hX.2 _ (by omega)).2 _ _ _ ht).2.2, ((hM.2 _ (by omega)).2 _ _ _ ht).2.2.2]
theorem O_removeTransition : Ob_removeTransition Iv := by
  intro c wr mv fo words st hd ti lo hi codes len ss has wri mov nex text typ tape on mt ms mh p1 p2 hI
  obtain ⟨cnt, tm, hW, hX, hM, hC, hT⟩ := id hI
  have ec : c = nI cnt := hX.1
  have es : ss = nI cnt := hM.1
  subst ec es
  refine both_err hW hX hM (fun r hr hm => ⟨fun h => absurd h (err_ne0 hr), fun _ => ?_⟩) (fun q s x hq hs f1 f2 ht => ⟨fun _ => ?_, fun h => absurd rfl h⟩)
  · exact wrong_mono hm (fun t e => by subst e; exact ⟨fun h => absurd h (err_ne0 hr), fun _ => ⟨rfl, hI⟩⟩)
  · subst f1 f2
    have hc5 := hW.2.1
    refine s_put hc5 hq hs (sx_begin (by omega) (fun w' hw => m_there hW hM hq hs ht ⟨fun _ => ?_, fun h => absurd rfl h⟩))
    rw [slot_e]
    refine ⟨vp_in_nI (by omega) (by omega), ?_⟩
    rw [nI_clamp (show 2 * q + s < 2 ^ 31 by omega), vnb_0]
    refine sm_begin (fun tape' on' ht' ho => ⟨rfl, cnt, tmset tm (2 * q + s) none, ⟨hW.1, hW.2.1, ?_⟩, ⟨rfl, ?_⟩, ⟨rfl, ?_⟩, CR_0 hW.1 hw ht' ho, hT⟩)
    · intro k x y z hk
      by_cases e : k = 2 * q + s
      · simp only [tmset, if_pos e] at hk; cases hk
      · simp only [tmset, if_neg e] at hk
        exact hW.2.2 _ _ _ _ hk
    · intro k hk
      by_cases e : k = 2 * q + s
      · refine ⟨fun _ => ?_, fun x y z h => ?_⟩
        · simp only [upd_eq, if_pos e]
        · simp only [tmset, if_pos e] at h; cases h
      · simp only [tmset, if_neg e, upd_eq]
        exact hX.2 k hk
    · intro k hk
      by_cases e : k = 2 * q + s
      · refine ⟨fun _ => ?_, fun x y z h => ?_⟩
        · simp only [upd_eq, if_pos e]
        · simp only [tmset, if_pos e] at h; cases h
      · simp only [tmset, if_neg e, upd_eq]
        exact hM.2 k hk
theorem O_time : Ob_time Iv := by
  intro c wr mv fo words st hd ti lo hi codes len ss has wri mov nex text typ tape on mt ms mh hI
  obtain ⟨cnt, tm, hW, hX, hM, ⟨n, q, h, t, l, r, hw, hx, hm⟩, hT⟩ := id hI
  exact ⟨hx.1.trans hm.1.symm, hI⟩
theorem O_state : Ob_state Iv := by
  intro c wr mv fo words st hd ti lo hi codes len ss has wri mov nex text typ tape on mt ms mh hI
  obtain ⟨cnt, tm, hW, hX, hM, ⟨n, q, h, t, l, r, hw, hx, hm⟩, hT⟩ := id hI
  exact ⟨hx.2.1.trans hm.2.1.symm, hI⟩
theorem O_head : Ob_head Iv := by
  intro c wr mv fo words st hd ti lo hi codes len ss has wri mov nex text typ tape on mt ms mh hI
  obtain ⟨cnt, tm, hW, hX, hM, ⟨n, q, h, t, l, r, hw, hx, hm⟩, hT⟩ := id hI
  exact ⟨hx.2.2.1.trans hm.2.2.1.symm, hI⟩
theorem O_restart : Ob_restart Iv := by
  intro c wr mv fo words st hd ti lo hi codes len ss has wri mov nex text typ tape on mt ms mh hI
  obtain ⟨cnt, tm, hW, hX, hM, ⟨n, q, h, t, l, r, hw, hx, hm⟩, hT⟩ := id hI
  exact sx_begin (by omega) (fun w' hw' => sm_begin (fun tape' on' ht' ho => ⟨hx.1.trans hm.1.symm, cnt, tm, hW, hX, hM, CR_0 hW.1 hw' ht' ho, hT⟩))
theorem O_type : Ob_type Iv := by
  intro c wr mv fo words st hd ti lo hi codes len ss has wri mov nex text typ tape on mt ms mh p1 hI
  obtain ⟨cnt, tm, hW, hX, hM, hC, ⟨k, hk, e1, e2, hc⟩⟩ := id hI
  subst e1 e2
  refine ⟨fun c1 => ?_, fun c1 => ⟨fun c2 => ?_, fun c2 => ?_⟩⟩
  · exact in_lo c1 ⟨fun h => absurd rfl h, fun _ => ⟨rfl, hI⟩⟩
  · have c3 := le_nlt c2
    refine ⟨fun h => absurd h (nI_pos (by omega)), fun _ => ⟨fun h40 => ⟨?_, ?_⟩, fun h40 => ?_⟩⟩
    · have := (nI_ltI (by omega) (by omega)).mp h40
      exact vp_in_nI this (by omega)
    · have hlt := (nI_ltI (by omega) (by omega)).mp h40
      intro x4 e4
      rw [e4, nI_1, nI_clamp (show k < 2 ^ 31 by omega)]
      refine ⟨fun h => absurd h n10, fun _ => in_ok c1 c3 ⟨fun _ => ⟨fun _ => ⟨vp_in_nI hlt (by omega), ?_⟩, fun h => absurd h (nI_ne (b := 40) (by omega) (by omega) (by omega))⟩, fun h => absurd h n10⟩⟩
      intro x6 e6
      rw [e6, nI_1, nI_clamp (show k < 2 ^ 31 by omega)]
      refine ⟨rfl, cnt, tm, hW, hX, hM, hC, k + 1, by omega, rfl, rfl, fun j hj => ?_⟩
      rw [upd_eq, upd_eq]
      by_cases e : j = k
      · rw [if_pos e, if_pos e]
      · rw [if_neg e, if_neg e]; exact hc j (by omega)
    · have hge : k = 40 := by
        have : ¬ k < 40 := fun q => h40 (nI_lt q (by omega))
        omega
      subst hge
      exact ⟨fun _ => in_ok c1 c3 ⟨fun _ => ⟨fun h => absurd rfl h, fun _ => ⟨rfl, hI⟩⟩, fun h => absurd h n10⟩, fun h => absurd rfl h⟩
  · exact in_hi (nle_lt c2) ⟨fun h => absurd rfl h, fun _ => ⟨rfl, hI⟩⟩
