/-! own: closed sets, the class -/
def SX (S : Nat → Bool) (marks found : Nat → Int32) (cn : Nat) : Prop := cn = fb_ct S 640 ∧ (∀ j, j < 640 → marks j = if S j = true then 1 else 0) ∧ (∀ i, i < cn → ∃ m, m < 640 ∧ S m = true ∧ found i = nI m) ∧ ∀ m, m < 640 → S m = true → ∃ i, i < cn ∧ found i = nI m
theorem SX_le {S : Nat → Bool} {marks found : Nat → Int32} {cn : Nat} (h : SX S marks found cn) : cn ≤ 640 := by
  rw [h.1]; exact fb_ct_le S 640
theorem vny_1 : vp_nar .byte 1 = 1 := rfl
theorem x_cadd {S : Nat → Bool} {marks found : Nat → Int32} {cn m : Nat} {p1 p2 p3 p4 : Int32} {Q : (Nat → Int32) → (Nat → Int32) → Int32 → Prop} (he : (((((2 * p1) + p2) <<< ((3 : Int32) &&& 31)) ||| p3) <<< ((3 : Int32) &&& 31)) ||| p4 = nI m) (hm : m < 640) (h : SX S marks found cn) (k : ∀ (marks' found' : Nat → Int32) (cn' : Nat), SX (setB S m) marks' found' cn' → cn ≤ cn' → (∀ i, i < cn → found' i = found i) → Q marks' found' (nI cn')) : pX1_add p1 p2 p3 p4 marks found (nI cn) Q := by
  intro x1 e1
  rw [he] at e1
  subst e1
  have hcn := SX_le h
  obtain ⟨h1, h2, h3, h4⟩ := h
  have hin : vp_in (nI m) 640 := vp_in_nI hm (by omega)
  by_cases hS : S m = true
  · have fin : Q marks found (nI cn) := k _ _ _ (by rw [setB_same hS]; exact ⟨h1, h2, h3, h4⟩) (Nat.le_refl _) (fun _ _ => rfl)
    have hmk : marks m = 1 := by rw [h2 m hm, if_pos hS]
    refine ⟨fun _ => fin, fun _ => ⟨fun _ => fin, fun _ => ⟨fun _ => fin, fun _ => ⟨fun _ => fin, fun _ => ⟨hin, fun g => ?_, fun _ => fin⟩⟩⟩⟩⟩
    rw [nI_clamp (show m < 2 ^ 31 by omega), hmk] at g
    exact absurd g n10
  · have hct := ct_set (S := S) hm hS
    have hle2 := fb_ct_le (setB S m) 640
    have hlt' : cn < 640 := by omega
    have hmk : marks m = 0 := by rw [h2 m hm, if_neg hS]
    rw [nI_clamp (show m < 2 ^ 31 by omega), nI_clamp (show cn < 2 ^ 31 by omega), vny_1]
    refine ⟨fun g => absurd g (nI_pos (by omega)), fun _ => ⟨fun g => absurd g (nI_ge (b := 640) hm (by omega)), fun _ => ⟨fun g => absurd g (nI_pos (by omega)), fun _ => ⟨fun g => absurd g (nI_ge (b := 640) hlt' (by omega)), fun _ => ⟨hin, fun _ => ⟨hin, vp_in_nI hlt' (by omega), fun x10 e10 => ?_⟩, fun g => absurd hmk g⟩⟩⟩⟩⟩
    rw [nI_1] at e10
    rw [e10]
    refine k _ _ _ ⟨by omega, fun j hj => ?_, fun i hi => ?_, fun j hj hS2 => ?_⟩ (by omega) (fun i hi => by rw [upd_eq, if_neg (by omega)])
    · rw [upd_eq]
      unfold setB
      by_cases q : j = m
      · rw [if_pos q, if_pos q, if_pos rfl]
      · rw [if_neg q, if_neg q]; exact h2 j hj
    · rw [upd_eq]
      by_cases q : i = cn
      · rw [if_pos q]; exact ⟨m, hm, setB_at _ _, rfl⟩
      · rw [if_neg q]
        obtain ⟨m', a1, a2, a3⟩ := h3 i (by omega)
        exact ⟨m', a1, setB_su _ _ _ a2, a3⟩
    · rcases setB_or hS2 with rfl | hS2
      · exact ⟨cn, by omega, by rw [upd_eq, if_pos rfl]⟩
      · obtain ⟨i, a1, a2⟩ := h4 j hj hS2
        exact ⟨i, by omega, by rw [upd_eq, if_neg (by omega)]; exact a2⟩
/-- the element that follows m, for a symbol x -/
theorem a_nxr {cnt n m a d x : Nat} {tm : TM} (hW : WF cnt tm) (h1 : 1 ≤ n) (h3 : n ≤ 3) (ht : tm (m / 64) = some (a, 1, d)) (hd : d ≠ 9) (hm : WS cnt n m) (hx : x < 2) : nxS n m a 1 d x < 640 ∧ (((((2 * nI d) + nI (rt m % 2)) <<< ((3 : Int32) &&& 31)) ||| nI (psh n (lf m) a)) <<< ((3 : Int32) &&& 31)) ||| nI (ppo n (rt m) x) = nI (nxS n m a 1 d x) := by
  obtain ⟨w1, w2, w3, w4⟩ := hW.2.2 _ _ _ _ ht
  have hc5 := hW.2.1
  have hd' : d < cnt := w4.elim id (fun e => absurd e hd)
  have := p8 h3
  have e1 := psh_lt n (lf m) a
  have e2 := ppo_lt h1 h3 hm.2.2 hx
  constructor
  · have := (WS_nx hW h1 h3 ht hd hm hx).1
    omega
  · rw [a_loc d (by omega) _ (by omega) _ (by omega) _ (by omega)]
    unfold nxS
    rw [if_pos rfl]
theorem a_nxl {cnt n m a b d x : Nat} {tm : TM} (hW : WF cnt tm) (h1 : 1 ≤ n) (h3 : n ≤ 3) (ht : tm (m / 64) = some (a, b, d)) (hb : b ≠ 1) (hd : d ≠ 9) (hm : WS cnt n m) (hx : x < 2) : nxS n m a b d x < 640 ∧ (((((2 * nI d) + nI (lf m % 2)) <<< ((3 : Int32) &&& 31)) ||| nI (ppo n (lf m) x)) <<< ((3 : Int32) &&& 31)) ||| nI (psh n (rt m) a) = nI (nxS n m a b d x) := by
  obtain ⟨w1, w2, w3, w4⟩ := hW.2.2 _ _ _ _ ht
  have hc5 := hW.2.1
  have hd' : d < cnt := w4.elim id (fun e => absurd e hd)
  have := p8 h3
  have e1 := psh_lt n (rt m) a
  have e2 := ppo_lt h1 h3 hm.2.1 hx
  constructor
  · have := (WS_nx hW h1 h3 ht hd hm hx).1
    omega
  · rw [a_loc d (by omega) _ (by omega) _ (by omega) _ (by omega)]
    unfold nxS
    rw [if_neg hb]
theorem x_right {cnt n m a d cn : Nat} {tm : TM} {S L R : Nat → Bool} {marks found : Nat → Int32} {right : Int32} {Q : (Nat → Int32) → (Nat → Int32) → Int32 → Prop} (hW : WF cnt tm) (h1 : 1 ≤ n) (h3 : n ≤ 3) (ht : tm (m / 64) = some (a, 1, d)) (hd : d ≠ 9) (hS : S m = true) (hI : Inv cnt tm n S L R) (hX : SX S marks found cn) (hR : RMw right R)
    (k : ∀ (S' : Nat → Bool) (marks' found' : Nat → Int32) (cn' : Nat), SX S' marks' found' cn' → Inv cnt tm n S' L R → Su S S' → cn ≤ cn' → (∀ i, i < cn → found' i = found i) → (∀ x, x < 2 → R (ppo n (rt m) x) = true → S' (nxS n m a 1 d x) = true) → Q marks' found' (nI cn')) : pX1_addRightMoves (nI d) (nI (psh n (lf m) a)) (nI (rt m)) marks found (nI cn) (nI n) right Q := by
  have hm := (hI.2.1 m hS).2
  have h8 := p8 h3
  refine Lp.up 2 (fun x (v : Int32 × (Nat → Int32) × (Nat → Int32) × Int32) => v.1 = nI x ∧ ∃ (S' : Nat → Bool) (cn' : Nat), v.2.2.2 = nI cn' ∧ SX S' v.2.1 v.2.2.1 cn' ∧ Inv cnt tm n S' L R ∧ Su S S' ∧ cn ≤ cn' ∧ (∀ i, i < cn → v.2.2.1 i = found i) ∧ ∀ y, y < x → R (ppo n (rt m) y) = true → S' (nxS n m a 1 d y) = true) ?_ (Nat.zero_le _) ⟨rfl, S, cn, rfl, hX, hI, Su_r _, Nat.le_refl _, fun _ _ => rfl, fun y hy => absurd hy (Nat.not_lt_zero _)⟩
  rintro x ⟨l4, mk, fd, co⟩ hx ⟨e, S', cn', e2, u1, u2, u3, u4, u5, u6⟩
  dsimp only at e e2 u1 u5
  subst e; subst e2
  refine ⟨fun c => ?_, fun c => ?_⟩
  · have hc := (nI_ltI (a := 1) (by omega) (by omega)).mp c
    exact k S' _ _ cn' u1 u2 u3 u4 u5 (fun y hy => u6 y (by omega))
  · have hx2 : x < 2 := by
      have : ¬ 1 < x := fun q => c (nI_lt (a := 1) q (by omega))
      omega
    unfold pX1_popped
    have hr := hm.2.2
    rw [a_ppo n (by omega) h1 _ (by omega) hr x hx2, a_and1 (rt m) (by omega)]
    have hp := ppo_lt h1 h3 hr hx2
    dsimp only
    rw [ssh1 _ (show ppo n (rt m) x < 32 by omega), hR _ (by omega)]
    refine ⟨fun g => ?_, fun g => ?_⟩
    · have hn : ¬ R (ppo n (rt m) x) = true := fun q => g (by rw [if_pos q]; rfl)
      intro x5 e5
      rw [e5, nI_1]
      refine ⟨hx2, rfl, S', cn', rfl, u1, u2, u3, u4, u5, fun y hy hyR => ?_⟩
      by_cases q : y = x
      · subst q; exact absurd hyR hn
      · exact u6 y (by omega) hyR
    · have hp1 : R (ppo n (rt m) x) = true := by
        by_cases q : R (ppo n (rt m) x) = true
        · exact q
        · rw [if_neg q] at g; exact absurd g (by decide)
      obtain ⟨z1, z2⟩ := a_nxr hW h1 h3 ht hd hm hx2
      refine x_cadd z2 z1 u1 (fun mk' fd' cn2 t1 t2 t3 x5 e5 => ?_)
      rw [e5, nI_1]
      refine ⟨hx2, rfl, _, cn2, rfl, t1, Inv_S hW h1 h3 u2 ht hd (u3 m hS) hx2 (fun _ => hp1) (fun q => absurd rfl q), Su_t u3 (setB_su _ _), Nat.le_trans u4 t2, fun i hi => ?_, fun y hy hyR => ?_⟩
      · exact (t3 i (by omega)).trans (u5 i hi)
      · by_cases q : y = x
        · subst q; exact setB_at _ _
        · exact setB_su _ _ _ (u6 y (by omega) hyR)
theorem x_left {cnt n m a b d cn : Nat} {tm : TM} {S L R : Nat → Bool} {marks found : Nat → Int32} {left : Int32} {Q : (Nat → Int32) → (Nat → Int32) → Int32 → Prop} (hW : WF cnt tm) (h1 : 1 ≤ n) (h3 : n ≤ 3) (ht : tm (m / 64) = some (a, b, d)) (hb : b ≠ 1) (hd : d ≠ 9) (hS : S m = true) (hI : Inv cnt tm n S L R) (hX : SX S marks found cn) (hR : RMw left L)
    (k : ∀ (S' : Nat → Bool) (marks' found' : Nat → Int32) (cn' : Nat), SX S' marks' found' cn' → Inv cnt tm n S' L R → Su S S' → cn ≤ cn' → (∀ i, i < cn → found' i = found i) → (∀ x, x < 2 → L (ppo n (lf m) x) = true → S' (nxS n m a b d x) = true) → Q marks' found' (nI cn')) : pX1_addLeftMoves (nI d) (nI (lf m)) (nI (psh n (rt m) a)) marks found (nI cn) (nI n) left Q := by
  have hm := (hI.2.1 m hS).2
  have h8 := p8 h3
  refine Lp.up 2 (fun x (v : Int32 × (Nat → Int32) × (Nat → Int32) × Int32) => v.1 = nI x ∧ ∃ (S' : Nat → Bool) (cn' : Nat), v.2.2.2 = nI cn' ∧ SX S' v.2.1 v.2.2.1 cn' ∧ Inv cnt tm n S' L R ∧ Su S S' ∧ cn ≤ cn' ∧ (∀ i, i < cn → v.2.2.1 i = found i) ∧ ∀ y, y < x → L (ppo n (lf m) y) = true → S' (nxS n m a b d y) = true) ?_ (Nat.zero_le _) ⟨rfl, S, cn, rfl, hX, hI, Su_r _, Nat.le_refl _, fun _ _ => rfl, fun y hy => absurd hy (Nat.not_lt_zero _)⟩
  rintro x ⟨l4, mk, fd, co⟩ hx ⟨e, S', cn', e2, u1, u2, u3, u4, u5, u6⟩
  dsimp only at e e2 u1 u5
  subst e; subst e2
  refine ⟨fun c => ?_, fun c => ?_⟩
  · have hc := (nI_ltI (a := 1) (by omega) (by omega)).mp c
    exact k S' _ _ cn' u1 u2 u3 u4 u5 (fun y hy => u6 y (by omega))
  · have hx2 : x < 2 := by
      have : ¬ 1 < x := fun q => c (nI_lt (a := 1) q (by omega))
      omega
    unfold pX1_popped
    have hr := hm.2.1
    rw [a_ppo n (by omega) h1 _ (by omega) hr x hx2, a_and1 (lf m) (by omega)]
    have hp := ppo_lt h1 h3 hr hx2
    dsimp only
    rw [ssh1 _ (show ppo n (lf m) x < 32 by omega), hR _ (by omega)]
    refine ⟨fun g => ?_, fun g => ?_⟩
    · have hn : ¬ L (ppo n (lf m) x) = true := fun q => g (by rw [if_pos q]; rfl)
      intro x5 e5
      rw [e5, nI_1]
      refine ⟨hx2, rfl, S', cn', rfl, u1, u2, u3, u4, u5, fun y hy hyR => ?_⟩
      by_cases q : y = x
      · subst q; exact absurd hyR hn
      · exact u6 y (by omega) hyR
    · have hp1 : L (ppo n (lf m) x) = true := by
        by_cases q : L (ppo n (lf m) x) = true
        · exact q
        · rw [if_neg q] at g; exact absurd g (by decide)
      obtain ⟨z1, z2⟩ := a_nxl hW h1 h3 ht hb hd hm hx2
      refine x_cadd z2 z1 u1 (fun mk' fd' cn2 t1 t2 t3 x5 e5 => ?_)
      rw [e5, nI_1]
      refine ⟨hx2, rfl, _, cn2, rfl, t1, Inv_S hW h1 h3 u2 ht hd (u3 m hS) hx2 (fun q => absurd q hb) (fun _ => hp1), Su_t u3 (setB_su _ _), Nat.le_trans u4 t2, fun i hi => ?_, fun y hy hyR => ?_⟩
      · exact (t3 i (by omega)).trans (u5 i hi)
      · by_cases q : y = x
        · subst q; exact setB_at _ _
        · exact setB_su _ _ _ (u6 y (by omega) hyR)
theorem x_handle {cnt n m cn : Nat} {tm : TM} {c0 left right : Int32} {wr mv fo : Nat → Int32} {S L R : Nat → Bool} {marks found : Nat → Int32} {Q : Int32 → (Nat → Int32) → (Nat → Int32) → Int32 → Int32 → Int32 → Prop} (hW : WF cnt tm) (hXm : RMx cnt tm c0 wr mv fo) (h1 : 1 ≤ n) (h3 : n ≤ 3) (hS : S m = true) (hI : Inv cnt tm n S L R) (hX : SX S marks found cn) (hL : RMw left L) (hR : RMw right R)
    (k0 : hal tm (m / 64) → Q 0 marks found (nI cn) left right)
    (k1 : ∀ (S' L' R' : Nat → Bool) (marks' found' : Nat → Int32) (cn' : Nat) (left' right' : Int32), SX S' marks' found' cn' → Inv cnt tm n S' L' R' → RMw left' L' → RMw right' R' → Su S S' → Su L L' → Su R R' → cn ≤ cn' → (∀ i, i < cn → found' i = found i) → Hd tm n m L R S' L' R' → Q 1 marks' found' (nI cn') left' right') : pX1_handle (nI m) marks found (nI cn) (nI n) left right (nI cnt) wr mv fo Q := by
  have hc5 := hW.2.1
  have hm := (hI.2.1 m hS).2
  have h8 := p8 h3
  have hm1 := hm.1
  have hm640 : m < 640 := by omega
  obtain ⟨am1, am2, am3⟩ := a_m m hm640
  obtain ⟨ak1, ak2⟩ := a_k (m / 64) (by omega)
  intro x1 e1 x2 e2 x3 e3 x4 e4' x5 e5
  rw [am1] at e1
  rw [am2] at e2
  rw [am3] at e3
  subst e1; subst e2; subst e3
  rw [ak1] at e4'
  rw [ak2] at e5
  subst e4'; subst e5
  have ek : 2 * (m / 64 / 2) + m / 64 % 2 = m / 64 := by omega
  refine x_ends hW hXm (by omega) (by omega) (fun hh => ⟨fun g => absurd g n10, fun _ => ?_⟩) (fun hh => ⟨fun _ => ?_, fun g => absurd rfl g⟩)
  · rw [ek] at hh
    exact k0 hh
  · rw [ek] at hh
    refine s_next hc5 (by omega) (by omega) (s_wr hc5 (by omega) (by omega) (s_mv hc5 (by omega) (by omega) ?_))
    rw [ek]
    obtain ⟨g1, g2⟩ := hXm.2 (m / 64) (by omega)
    cases ht : tm (m / 64) with
    | none => exact absurd (Or.inl ht) hh
    | some x =>
      obtain ⟨a, b, d⟩ := x
      obtain ⟨w1, w2, w3⟩ := g2 a b d ht
      have hd : d ≠ 9 := fun q => hh (Or.inr ⟨a, b, by rw [ht, q]⟩)
      obtain ⟨v1, v2, v3, v4⟩ := hW.2.2 _ _ _ _ ht
      rw [w1, w2, w3]
      have hlf := hm.2.1
      have hrt := hm.2.2
      refine ⟨fun g x16 e16 => ?_, fun g x23 e23 => ?_⟩
      · have hb : b ≠ 1 := fun q => g (by rw [q]; rfl)
        unfold pX1_pushed
        rw [a_psh n (by omega) _ (by omega) a v2]
        refine x_left hW h1 h3 ht hb hd hS hI hX hL (fun S' mk fd cn' t1 t2 t3 t4 t5 t6 => ?_)
        have := RMw_set (c := rt m) (by omega) hR
        rw [← e16] at this
        exact k1 S' L (setB R (rt m)) mk fd cn' left x16 t1 (Inv_R t2 ht hd (t3 m hS) hb) hL this t3 (Su_r _) (setB_su _ _) t4 t5 ⟨a, b, d, ht, hd, fun q => absurd q hb, fun _ => setB_at _ _, fun x hx _ q => t6 x hx (q hb)⟩
      · have hb : b = 1 := (nI_eq (b := 1) (by omega) (by omega)).mp g
        subst hb
        unfold pX1_pushed
        rw [a_psh n (by omega) _ (by omega) a v2]
        refine x_right hW h1 h3 ht hd hS hI hX hR (fun S' mk fd cn' t1 t2 t3 t4 t5 t6 => ?_)
        have := RMw_set (c := lf m) (by omega) hL
        rw [← e23] at this
        exact k1 S' (setB L (lf m)) R mk fd cn' x23 right t1 (Inv_L t2 ht hd (t3 m hS) rfl) this hR t3 (setB_su _ _) (Su_r _) t4 t5 ⟨a, 1, d, ht, hd, fun _ => setB_at _ _, fun q => absurd rfl q, fun x hx q _ => t6 x hx (q rfl)⟩
theorem x_pass {cnt n cn : Nat} {tm : TM} {c0 left right : Int32} {wr mv fo : Nat → Int32} {S L R : Nat → Bool} {marks found : Nat → Int32} {Q : Int32 → (Nat → Int32) → (Nat → Int32) → Int32 → Int32 → Int32 → Prop} (hW : WF cnt tm) (hXm : RMx cnt tm c0 wr mv fo) (h1 : 1 ≤ n) (h3 : n ≤ 3) (hI : Inv cnt tm n S L R) (hX : SX S marks found cn) (hL : RMw left L) (hR : RMw right R)
    (k0 : ∀ (marks' found' : Nat → Int32) (cn' left' right' : Int32), (∃ m, rS tm n m ∧ hal tm (m / 64)) → Q 0 marks' found' cn' left' right')
    (k1 : ∀ (S' L' R' : Nat → Bool) (marks' found' : Nat → Int32) (cn' : Nat) (left' right' : Int32), SX S' marks' found' cn' → Inv cnt tm n S' L' R' → RMw left' L' → RMw right' R' → Su L L' → Su R R' → (∀ m, S' m = true → Hd tm n m L R S' L' R') → Q 1 marks' found' (nI cn') left' right') : pX1_handleAll marks found (nI cn) (nI n) left right (nI cnt) wr mv fo Q := by
  have hc5 := hW.2.1
  refine Lp.up 640 (fun i (v : Int32 × (Nat → Int32) × (Nat → Int32) × Int32 × Int32 × Int32) => v.1 = nI i ∧ ∃ (S' L' R' : Nat → Bool) (cn' : Nat), v.2.2.2.1 = nI cn' ∧ i ≤ cn' ∧ SX S' v.2.1 v.2.2.1 cn' ∧ Inv cnt tm n S' L' R' ∧ RMw v.2.2.2.2.1 L' ∧ RMw v.2.2.2.2.2 R' ∧ Su L L' ∧ Su R R' ∧ ∀ j m, j < i → m < 640 → v.2.2.1 j = nI m → Hd tm n m L R S' L' R') ?_ (Nat.zero_le _) ⟨rfl, S, L, R, cn, rfl, Nat.zero_le _, hX, hI, hL, hR, Su_r _, Su_r _, fun j m hj => absurd hj (Nat.not_lt_zero _)⟩
  rintro i ⟨l2, mk, fd, co, le, ri⟩ hi ⟨e, S', L', R', cn', e2, u1, u2, u3, u4, u5, u6, u7, u8⟩
  dsimp only at e e2 u2 u4 u5 u8
  subst e; subst e2
  have hcn := SX_le u2
  refine ⟨fun c => ?_, fun c => ?_⟩
  · have hc := (nI_leI (by omega) (by omega)).mp c
    refine k1 S' L' R' mk fd cn' le ri u2 u3 u4 u5 u6 u7 (fun m hm => ?_)
    have hm1 := (u3.2.1 m hm).2.1
    obtain ⟨j, j1, j2⟩ := u2.2.2.2 m (by omega) hm
    exact u8 j m (by omega) (by omega) j2
  · have hlt' : i < cn' := by
      rcases Nat.lt_or_ge i cn' with q | q
      · exact q
      · exact absurd (nI_le q (by omega)) c
    refine ⟨fun g => absurd g (nI_ge (b := 640) (by omega) (by omega)), fun _ => ⟨vp_in_nI (by omega) (by omega), ?_⟩⟩
    obtain ⟨m, m1, m2, m3⟩ := u2.2.2.1 i hlt'
    rw [nI_clamp (show i < 2 ^ 31 by omega), m3]
    refine x_handle hW hXm h1 h3 m2 u3 u2 u4 u5 (fun hh => ⟨fun g => absurd rfl g, fun _ => k0 _ _ _ _ _ ⟨m, (u3.2.1 m m2).1, hh⟩⟩) (fun S2 L2 R2 mk2 fd2 cn2 le2 ri2 t1 t2 t3 t4 t5 t6 t7 t8 t9 t10 => ⟨fun _ x12 e12 => ?_, fun g => absurd g n10⟩)
    rw [e12, nI_1]
    refine ⟨by omega, rfl, S2, L2, R2, cn2, rfl, by omega, t1, t2, t3, t4, Su_t u6 t6, Su_t u7 t7, fun j m' hj hm' hf => ?_⟩
    have hf' : fd j = nI m' := (t9 j (by omega)).symm.trans hf
    by_cases q : j = i
    · subst q
      rw [m3] at hf'
      have : m = m' := (nI_eq (by omega) (by omega)).mp hf'
      subst this
      exact Hd_mono t10 (Su_r _) (Su_r _) (Su_r _) u6 u7
    · exact Hd_mono (u8 j m' (by omega) hm' hf') t5 t6 t7 (Su_r _) (Su_r _)
theorem s_fillb (n : Nat) (hn : n < 2147483648) (f : Nat → Int32) (Q : (Nat → Int32) → Prop) (h : ∀ g : Nat → Int32, (∀ j, j < n → g j = 0) → Q g) : pJ7_fill_031fb n 0 f Q := by
  intro x1 e1
  refine Lp.up n (fun i (v : Int32 × (Nat → Int32)) => v.1 = nI i ∧ ∀ j, j < i → v.2 j = 0) ?_ (Nat.zero_le _) ⟨rfl, fun j hj => absurd hj (Nat.not_lt_zero _)⟩
  rintro i ⟨l2, g⟩ hi ⟨e, hg⟩
  dsimp only at e hg
  subst e; subst e1
  refine ⟨fun c => h g ?_, fun c => ?_⟩
  · have hc := (nI_leI (by omega) (by omega)).mp c
    intro j hj
    exact hg j (by omega)
  · have hc : ¬ n ≤ i := fun q => c (nI_le q (by omega))
    refine ⟨vp_in_nI (by omega) hn, ?_⟩
    intro x4 e4'
    rw [e4', nI_1, nI_clamp (show i < 2 ^ 31 by omega)]
    refine ⟨by omega, rfl, ?_⟩
    intro j hj
    show upd g i 0 j = 0
    rw [upd_eq]
    by_cases q : j = i
    · rw [if_pos q]
    · rw [if_neg q]; exact hg j (by omega)
theorem clamp3 : ∀ n, n < 4 → 1 ≤ n → (if (3 : Int32) < (if nI n < (1 : Int32) then (1 : Int32) else nI n) then (3 : Int32) else (if nI n < (1 : Int32) then (1 : Int32) else nI n)) = nI n := by decide +kernel
theorem w1 : RMw 1 oneB := by
  intro i hi
  rw [b_1 i hi]
  unfold oneB setB
  by_cases g : i = 0
  · simp [g]
  · simp [g]
theorem grow {L L' : Nat → Bool} {W W' : Int32} (h : RMw W L) (h' : RMw W' L') (hf : ∀ i, L i = true → i < 8) (hg : ∀ i, L' i = true → i < 8) (hs : Su L L') (hn : ¬ W' = W) : fb_ct L 8 < fb_ct L' 8 := by
  have : ∃ i, L' i = true ∧ ¬ L i = true := by
    apply Classical.byContradiction
    intro q
    apply hn
    rw [RMw_one h' h hg hf]
    funext i
    by_cases u : L' i = true
    · by_cases u2 : L i = true
      · rw [u, u2]
      · exact absurd ⟨i, u, u2⟩ q
    · have : ¬ L i = true := fun z => u (hs i z)
      simp at u this
      rw [u, this]
  obtain ⟨i, i1, i2⟩ := this
  exact ct_lt hs (hg i i1) i2 i1
theorem x_clos {cnt n : Nat} {tm : TM} {c0 cn0 w0 left right : Int32} {wr mv fo marks found : Nat → Int32} {Q : Int32 → (Nat → Int32) → (Nat → Int32) → Int32 → Int32 → Int32 → Int32 → Prop} (hW : WF cnt tm) (hXm : RMx cnt tm c0 wr mv fo) (h1 : 1 ≤ n) (h3 : n ≤ 3)
    (k : ∀ r : Int32, Clo tm n r → ∀ (a1 a2 : Nat → Int32) (a3 a4 a5 a6 : Int32), Q r a1 a2 a3 a4 a5 a6) : pX1_countElements (nI n) marks found cn0 w0 left right (nI cnt) wr mv fo Q := by
  have h8 := p8 h3
  intro x1 e1
  rw [clamp3 n (by omega) h1] at e1
  subst e1
  refine s_fillb 640 (by omega) _ _ (fun mk hmk => ?_)
  have hz : fb_ct (fun _ => false) 640 = 0 := fb_ct_zero.mpr (fun _ _ => rfl)
  refine x_cadd (S := fun _ => false) (m := 0) (cn := 0) rfl (by omega) ⟨hz.symm, fun j hj => by rw [hmk j hj]; rfl, fun i hi => absurd hi (Nat.not_lt_zero _), fun m _ hm => by cases hm⟩ (fun mk1 fd1 cn1 t1 _ _ => ?_)
  have hct8 : fb_ct oneB 8 = 1 := by decide
  refine Lp.up 17 (fun p (v : Int32 × (Nat → Int32) × (Nat → Int32) × Int32 × Int32 × Int32) => v.1 = nI p ∧ ∃ (S L R : Nat → Bool) (cn : Nat), v.2.2.2.1 = nI cn ∧ SX S v.2.1 v.2.2.1 cn ∧ Inv cnt tm n S L R ∧ RMw v.2.2.2.2.1 L ∧ RMw v.2.2.2.2.2 R ∧ p + 2 ≤ fb_ct L 8 + fb_ct R 8) ?_ (Nat.zero_le _) ⟨rfl, oneB, oneB, oneB, cn1, rfl, t1, Inv_0 hW.1, w1, w1, by omega⟩
  rintro p ⟨l3, mk2, fd2, co, le, ri⟩ hp ⟨e, S, L, R, cn, e2, u1, u2, u3, u4, u5⟩
  dsimp only at e e2 u1 u3 u4
  subst e; subst e2
  have b1 := fb_ct_le L 8
  have b2 := fb_ct_le R 8
  refine ⟨fun c => absurd c (nI_ge (b := 17) (by omega) (by omega)), fun _ => ?_⟩
  refine x_pass hW hXm h1 h3 u2 u1 u3 u4 (fun _ _ _ _ _ hh => ⟨fun g => absurd rfl g, fun _ => k _ (Or.inl ⟨rfl, hh⟩) _ _ _ _ _ _⟩) (fun S' L' R' mk' fd' cn' le' ri' t1 t2 t3 t4 t5 t6 t7 => ⟨fun _ => ?_, fun g => absurd g n10⟩)
  have f1 : ∀ i, L i = true → i < 8 := fun i hi => by have := (u2.2.2.1 i hi).2; omega
  have f2 : ∀ i, L' i = true → i < 8 := fun i hi => by have := (t2.2.2.1 i hi).2; omega
  have f3 : ∀ i, R i = true → i < 8 := fun i hi => by have := (u2.2.2.2 i hi).2; omega
  have f4 : ∀ i, R' i = true → i < 8 := fun i hi => by have := (t2.2.2.2 i hi).2; omega
  have s1 := ct_su 8 t5
  have s2 := ct_su 8 t6
  have more : p + 1 + 2 ≤ fb_ct L' 8 + fb_ct R' 8 → pX1_countElements_j99 (nI n) (nI cnt) wr mv fo Q (fun (v : Int32 × (Nat → Int32) × (Nat → Int32) × Int32 × Int32 × Int32) => p < 17 ∧ v.1 = nI (p + 1) ∧ ∃ (S L R : Nat → Bool) (cn : Nat), v.2.2.2.1 = nI cn ∧ SX S v.2.1 v.2.2.1 cn ∧ Inv cnt tm n S L R ∧ RMw v.2.2.2.2.1 L ∧ RMw v.2.2.2.2.2 R ∧ p + 1 + 2 ≤ fb_ct L 8 + fb_ct R 8) (nI n) (nI p) mk' fd' (nI cn') le' ri' := by
    intro hm x17 e17
    rw [e17, nI_1]
    exact ⟨by omega, rfl, S', L', R', cn', rfl, t1, t2, t3, t4, hm⟩
  refine ⟨fun g => more ?_, fun g => ⟨fun g2 => more ?_, fun g2 => ?_⟩⟩
  · have := grow u3 t3 f1 f2 t5 g
    omega
  · have := grow u4 t4 f3 f4 t6 g2
    omega
  · have eL : L' = L := (RMw_one t3 u3 f2 f1).mp g
    have eR : R' = R := (RMw_one t4 u4 f4 f3).mp g2
    rw [eL, eR] at t2 t7
    rw [t1.1]
    exact k _ (Clo_fin t2 t7) _ _ _ _ _ _
