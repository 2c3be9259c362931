/-! own: closed sets, the reference -/
def BM (N : Nat) (S : Nat → Bool) (f : Nat → Int32) : Prop := ∀ j, j < N → f j = if S j = true then 1 else 0
theorem BM_set {N m : Nat} {S : Nat → Bool} {f : Nat → Int32} (h : BM N S f) : BM N (setB S m) (upd f m 1) := by
  intro j hj
  rw [upd_eq]
  unfold setB
  by_cases q : j = m
  · rw [if_pos q, if_pos q, if_pos rfl]
  · rw [if_neg q, if_neg q]; exact h j hj
theorem BM_at {N m : Nat} {S : Nat → Bool} {f : Nat → Int32} (h : BM N S f) (hm : m < N) : f m = 0 ↔ ¬ S m = true := by
  rw [h m hm]
  by_cases q : S m = true
  · rw [if_pos q]; exact ⟨fun e => absurd e n10, fun e => absurd q e⟩
  · rw [if_neg q]; exact ⟨fun _ => q, fun _ => rfl⟩
def tot (S L R : Nat → Bool) : Nat := fb_ct S 640 + fb_ct L 8 + fb_ct R 8
def MG (S0 L0 R0 S L R : Nat → Bool) (g : Int32) : Prop := Su S0 S ∧ Su L0 L ∧ Su R0 R ∧ ((g = 0 ∧ S = S0 ∧ L = L0 ∧ R = R0) ∨ (g = 1 ∧ tot S0 L0 R0 < tot S L R))
theorem MG_le {S0 L0 R0 S L R : Nat → Bool} {g : Int32} (h : MG S0 L0 R0 S L R g) : tot S0 L0 R0 ≤ tot S L R := by
  have a := ct_su 640 h.1
  have b := ct_su 8 h.2.1
  have c := ct_su 8 h.2.2.1
  unfold tot
  omega
theorem MG_S {S0 L0 R0 S L R : Nat → Bool} {g g' : Int32} {m : Nat} (h : MG S0 L0 R0 S L R g) (hm : m < 640) (h0 : g = 0 → S m = true → g' = 0) (h1 : (¬ g = 0 ∨ ¬ S m = true) → g' = 1) : MG S0 L0 R0 (setB S m) L R g' := by
  have hle := MG_le h
  obtain ⟨a, b, c, d⟩ := h
  by_cases q : S m = true
  · rw [setB_same q]
    refine ⟨a, b, c, ?_⟩
    rcases d with ⟨d1, d2⟩ | ⟨d1, d2⟩
    · exact Or.inl ⟨h0 d1 q, d2⟩
    · exact Or.inr ⟨h1 (Or.inl (by rw [d1]; exact n10)), d2⟩
  · refine ⟨Su_t a (setB_su _ _), b, c, Or.inr ⟨h1 (Or.inr q), ?_⟩⟩
    have := ct_set (S := S) hm q
    unfold tot at *
    omega
theorem MG_L {S0 L0 R0 S L R : Nat → Bool} {g g' : Int32} {m : Nat} (h : MG S0 L0 R0 S L R g) (hm : m < 8) (h0 : g = 0 → L m = true → g' = 0) (h1 : (¬ g = 0 ∨ ¬ L m = true) → g' = 1) : MG S0 L0 R0 S (setB L m) R g' := by
  have hle := MG_le h
  obtain ⟨a, b, c, d⟩ := h
  by_cases q : L m = true
  · rw [setB_same q]
    refine ⟨a, b, c, ?_⟩
    rcases d with ⟨d1, d2⟩ | ⟨d1, d2⟩
    · exact Or.inl ⟨h0 d1 q, d2⟩
    · exact Or.inr ⟨h1 (Or.inl (by rw [d1]; exact n10)), d2⟩
  · refine ⟨a, Su_t b (setB_su _ _), c, Or.inr ⟨h1 (Or.inr q), ?_⟩⟩
    have := ct_set (S := L) hm q
    unfold tot at *
    omega
theorem MG_R {S0 L0 R0 S L R : Nat → Bool} {g g' : Int32} {m : Nat} (h : MG S0 L0 R0 S L R g) (hm : m < 8) (h0 : g = 0 → R m = true → g' = 0) (h1 : (¬ g = 0 ∨ ¬ R m = true) → g' = 1) : MG S0 L0 R0 S L (setB R m) g' := by
  have hle := MG_le h
  obtain ⟨a, b, c, d⟩ := h
  by_cases q : R m = true
  · rw [setB_same q]
    refine ⟨a, b, c, ?_⟩
    rcases d with ⟨d1, d2⟩ | ⟨d1, d2⟩
    · exact Or.inl ⟨h0 d1 q, d2⟩
    · exact Or.inr ⟨h1 (Or.inl (by rw [d1]; exact n10)), d2⟩
  · refine ⟨a, b, Su_t c (setB_su _ _), Or.inr ⟨h1 (Or.inr q), ?_⟩⟩
    have := ct_set (S := R) hm q
    unfold tot at *
    omega
theorem m_addLocal {S0 L0 R0 S L R : Nat → Bool} {g : Int32} {m : Nat} {f : Nat → Int32} {Q : (Nat → Int32) → Int32 → Prop} (hm : m < 640) (hB : BM 640 S f) (hG : MG S0 L0 R0 S L R g) (k : ∀ (f' : Nat → Int32) (g' : Int32), BM 640 (setB S m) f' → MG S0 L0 R0 (setB S m) L R g' → Q f' g') : pX9_addLocal (nI m) f g Q := by
  have hin : vp_in (nI m) 640 := vp_in_nI hm (by omega)
  unfold pX9_addLocal pX9_addLocal_j17
  rw [nI_clamp (show m < 2 ^ 31 by omega), vnb_1]
  refine ⟨fun c => ⟨hin, k _ _ (BM_set hB) (MG_S hG hm (fun q => absurd q c) (fun _ => rfl))⟩, fun c => ⟨hin, fun c2 => ⟨hin, ?_⟩, fun c2 => ⟨hin, ?_⟩⟩⟩
  · have hS : S m = true := by
      apply Classical.byContradiction
      intro q; exact c2 ((BM_at hB hm).mpr q)
    exact k _ _ (BM_set hB) (MG_S hG hm (fun _ _ => rfl) (fun q => by rcases q with q | q; exact absurd c q; exact absurd hS q))
  · have hS := (BM_at hB hm).mp c2
    exact k _ _ (BM_set hB) (MG_S hG hm (fun _ q => absurd q hS) (fun _ => rfl))
theorem b_loc (q s l r : Nat) : (((((2 : Int32) * nI q) + nI s) * 8) + nI l) * 8 + nI r = nI (lcl q s l r) := by
  rw [show (2 : Int32) = nI 2 from rfl, show (8 : Int32) = nI 8 from rfl, pk_mul, nI_add, pk_mul, nI_add, pk_mul, nI_add]
  rfl
theorem m_right {cnt n m a d : Nat} {tm : TM} {S0 L0 R0 S L R : Nat → Bool} {wr nx fl fL fR : Nat → Int32} {g : Int32} {Q : (Nat → Int32) → (Nat → Int32) → Int32 → Prop} (hW : WF cnt tm) (h1 : 1 ≤ n) (h3 : n ≤ 3) (ht : tm (m / 64) = some (a, 1, d)) (hd : d ≠ 9) (hwr : wr (m / 64) = nI a) (hnx : nx (m / 64) = nI d) (hS : S m = true) (hI : Inv cnt tm n S L R) (hBS : BM 640 S fl) (hBL : BM 8 L fL) (hBR : BM 8 R fR) (hG : MG S0 L0 R0 S L R g)
    (k : ∀ (S' : Nat → Bool) (fl' fL' : Nat → Int32) (g' : Int32), BM 640 S' fl' → BM 8 (setB L (lf m)) fL' → Inv cnt tm n S' (setB L (lf m)) R → MG S0 L0 R0 S' (setB L (lf m)) R g' → Su S S' → (∀ x, x < 2 → R (ppo n (rt m) x) = true → S' (nxS n m a 1 d x) = true) → Q fl' fL' g') : pX9_goRight (nI (m / 64)) (nI (lf m)) (nI (rt m)) (nI n) wr nx fl fL fR g Q := by
  have hm := (hI.2.1 m hS).2
  have h8 := p8 h3
  have hc5 := hW.2.1
  have hm1 := hm.1
  have hlf := hm.2.1
  have hrt := hm.2.2
  obtain ⟨v1, v2, v3, v4⟩ := hW.2.2 _ _ _ _ ht
  have hinl : vp_in (nI (lf m)) 8 := vp_in_nI (by omega) (by omega)
  have hink : vp_in (nI (m / 64)) 10 := vp_in_nI (by omega) (by omega)
  have j22 : ∀ s1 : Int32, isB s1 → MG S0 L0 R0 S (setB L (lf m)) R s1 → pX9_goRight_j22 (nI (m / 64)) (nI (lf m)) (nI (rt m)) (nI n) wr nx fR Q s1 fl fL g := by
    intro s1 hs1 hG1
    refine ⟨hs1, hinl, hink, fun x5 e5 => ?_⟩
    rw [nI_clamp (show m / 64 < 2 ^ 31 by omega), hwr, a_psh n (by omega) _ (by omega) a v2] at e5
    subst e5
    rw [nI_clamp (show lf m < 2 ^ 31 by omega), vnb_1]
    refine Lp.up 2 (fun x (v : Int32 × (Nat → Int32) × Int32) => v.1 = nI x ∧ ∃ S' : Nat → Bool, BM 640 S' v.2.1 ∧ Inv cnt tm n S' (setB L (lf m)) R ∧ MG S0 L0 R0 S' (setB L (lf m)) R v.2.2 ∧ Su S S' ∧ ∀ y, y < x → R (ppo n (rt m) y) = true → S' (nxS n m a 1 d y) = true) ?_ (Nat.zero_le _) ⟨rfl, S, hBS, Inv_L hI ht hd hS rfl, hG1, Su_r _, fun y hy => absurd hy (Nat.not_lt_zero _)⟩
    rintro x ⟨l6, f2, g2⟩ hx ⟨e, S', u1, u2, u3, u4, u5⟩
    dsimp only at e u1 u3
    subst e
    refine ⟨fun c => ?_, fun c => ?_⟩
    · have hc := (nI_leI (a := 2) (by omega) (by omega)).mp c
      exact k S' _ _ _ u1 (BM_set hBL) u2 u3 u4 (fun y hy => u5 y (by omega))
    · have hx2 : x < 2 := by
        rcases Nat.lt_or_ge x 2 with q | q
        · exact q
        · exact absurd (nI_le (a := 2) q (by omega)) c
      intro x7 e7
      rw [a_ppo n (by omega) h1 _ (by omega) hrt x hx2] at e7
      subst e7
      have hp := ppo_lt h1 h3 hrt hx2
      rw [nI_clamp (show ppo n (rt m) x < 2 ^ 31 by omega), nI_clamp (show m / 64 < 2 ^ 31 by omega), hnx, a_and1 (rt m) (by omega)]
      refine ⟨vp_in_nI (by omega) (by omega), fun c2 => ?_, fun c2 => ⟨hink, ?_⟩⟩
      · have hn := (BM_at hBR (show ppo n (rt m) x < 8 by omega)).mp c2
        intro x10 e10
        rw [e10, nI_1]
        refine ⟨hx2, rfl, S', u1, u2, u3, u4, fun y hy hyR => ?_⟩
        by_cases q : y = x
        · subst q; exact absurd hyR hn
        · exact u5 y (by omega) hyR
      · have hp1 : R (ppo n (rt m) x) = true := by
          apply Classical.byContradiction
          intro q; exact c2 ((BM_at hBR (show ppo n (rt m) x < 8 by omega)).mpr q)
        unfold pX9_local
        rw [b_loc]
        have en : lcl d (rt m % 2) (psh n (lf m) a) (ppo n (rt m) x) = nxS n m a 1 d x := by unfold nxS; rw [if_pos rfl]
        rw [en]
        have z1 := (a_nxr hW h1 h3 ht hd hm hx2).1
        refine m_addLocal z1 u1 u3 (fun f3 g3 t1 t2 x10 e10 => ?_)
        rw [e10, nI_1]
        refine ⟨hx2, rfl, _, t1, Inv_S hW h1 h3 u2 ht hd (u4 m hS) hx2 (fun _ => hp1) (fun q => absurd rfl q), t2, Su_t u4 (setB_su _ _), fun y hy hyR => ?_⟩
        by_cases q : y = x
        · subst q; exact setB_at _ _
        · exact setB_su _ _ _ (u5 y (by omega) hyR)
  have e31 := nI_clamp (show lf m < 2 ^ 31 by omega)
  refine ⟨fun c => j22 1 isB_1 (MG_L hG (by omega) (fun q => absurd q c) (fun _ => rfl)), fun c => ⟨hinl, fun c2 => j22 0 isB_0 ?_, fun c2 => j22 1 isB_1 ?_⟩⟩
  · rw [e31] at c2
    have hL : L (lf m) = true := by
      apply Classical.byContradiction
      intro q; exact c2 ((BM_at hBL (by omega)).mpr q)
    exact MG_L hG (by omega) (fun _ _ => rfl) (fun q => by rcases q with q | q; exact absurd c q; exact absurd hL q)
  · rw [e31] at c2
    have hL := (BM_at hBL (show lf m < 8 by omega)).mp c2
    exact MG_L hG (by omega) (fun _ q => absurd q hL) (fun _ => rfl)
theorem m_left {cnt n m a b d : Nat} {tm : TM} {S0 L0 R0 S L R : Nat → Bool} {wr nx fl fL fR : Nat → Int32} {g : Int32} {Q : (Nat → Int32) → (Nat → Int32) → Int32 → Prop} (hW : WF cnt tm) (h1 : 1 ≤ n) (h3 : n ≤ 3) (ht : tm (m / 64) = some (a, b, d)) (hb : b ≠ 1) (hd : d ≠ 9) (hwr : wr (m / 64) = nI a) (hnx : nx (m / 64) = nI d) (hS : S m = true) (hI : Inv cnt tm n S L R) (hBS : BM 640 S fl) (hBL : BM 8 L fL) (hBR : BM 8 R fR) (hG : MG S0 L0 R0 S L R g)
    (k : ∀ (S' : Nat → Bool) (fl' fR' : Nat → Int32) (g' : Int32), BM 640 S' fl' → BM 8 (setB R (rt m)) fR' → Inv cnt tm n S' L (setB R (rt m)) → MG S0 L0 R0 S' L (setB R (rt m)) g' → Su S S' → (∀ x, x < 2 → L (ppo n (lf m) x) = true → S' (nxS n m a b d x) = true) → Q fl' fR' g') : pX9_goLeft (nI (m / 64)) (nI (lf m)) (nI (rt m)) (nI n) wr nx fl fL fR g Q := by
  have hm := (hI.2.1 m hS).2
  have h8 := p8 h3
  have hc5 := hW.2.1
  have hm1 := hm.1
  have hlf := hm.2.1
  have hrt := hm.2.2
  obtain ⟨v1, v2, v3, v4⟩ := hW.2.2 _ _ _ _ ht
  have hinl : vp_in (nI (rt m)) 8 := vp_in_nI (by omega) (by omega)
  have hink : vp_in (nI (m / 64)) 10 := vp_in_nI (by omega) (by omega)
  have j22 : ∀ s1 : Int32, isB s1 → MG S0 L0 R0 S L (setB R (rt m)) s1 → pX9_goLeft_j22 (nI (m / 64)) (nI (lf m)) (nI (rt m)) (nI n) wr nx fL Q s1 fl fR g := by
    intro s1 hs1 hG1
    refine ⟨hs1, hinl, hink, fun x5 e5 => ?_⟩
    rw [nI_clamp (show m / 64 < 2 ^ 31 by omega), hwr, a_psh n (by omega) _ (by omega) a v2] at e5
    subst e5
    rw [nI_clamp (show rt m < 2 ^ 31 by omega), vnb_1]
    refine Lp.up 2 (fun x (v : Int32 × (Nat → Int32) × Int32) => v.1 = nI x ∧ ∃ S' : Nat → Bool, BM 640 S' v.2.1 ∧ Inv cnt tm n S' L (setB R (rt m)) ∧ MG S0 L0 R0 S' L (setB R (rt m)) v.2.2 ∧ Su S S' ∧ ∀ y, y < x → L (ppo n (lf m) y) = true → S' (nxS n m a b d y) = true) ?_ (Nat.zero_le _) ⟨rfl, S, hBS, Inv_R hI ht hd hS hb, hG1, Su_r _, fun y hy => absurd hy (Nat.not_lt_zero _)⟩
    rintro x ⟨l6, f2, g2⟩ hx ⟨e, S', u1, u2, u3, u4, u5⟩
    dsimp only at e u1 u3
    subst e
    refine ⟨fun c => ?_, fun c => ?_⟩
    · have hc := (nI_leI (a := 2) (by omega) (by omega)).mp c
      exact k S' _ _ _ u1 (BM_set hBR) u2 u3 u4 (fun y hy => u5 y (by omega))
    · have hx2 : x < 2 := by
        rcases Nat.lt_or_ge x 2 with q | q
        · exact q
        · exact absurd (nI_le (a := 2) q (by omega)) c
      intro x7 e7
      rw [a_ppo n (by omega) h1 _ (by omega) hlf x hx2] at e7
      subst e7
      have hp := ppo_lt h1 h3 hlf hx2
      rw [nI_clamp (show ppo n (lf m) x < 2 ^ 31 by omega), nI_clamp (show m / 64 < 2 ^ 31 by omega), hnx, a_and1 (lf m) (by omega)]
      refine ⟨vp_in_nI (by omega) (by omega), fun c2 => ?_, fun c2 => ⟨hink, ?_⟩⟩
      · have hn := (BM_at hBL (show ppo n (lf m) x < 8 by omega)).mp c2
        intro x10 e10
        rw [e10, nI_1]
        refine ⟨hx2, rfl, S', u1, u2, u3, u4, fun y hy hyR => ?_⟩
        by_cases q : y = x
        · subst q; exact absurd hyR hn
        · exact u5 y (by omega) hyR
      · have hp1 : L (ppo n (lf m) x) = true := by
          apply Classical.byContradiction
          intro q; exact c2 ((BM_at hBL (show ppo n (lf m) x < 8 by omega)).mpr q)
        unfold pX9_local
        rw [b_loc]
        have en : lcl d (lf m % 2) (ppo n (lf m) x) (psh n (rt m) a) = nxS n m a b d x := by unfold nxS; rw [if_neg hb]
        rw [en]
        have z1 := (a_nxl hW h1 h3 ht hb hd hm hx2).1
        refine m_addLocal z1 u1 u3 (fun f3 g3 t1 t2 x10 e10 => ?_)
        rw [e10, nI_1]
        refine ⟨hx2, rfl, _, t1, Inv_S hW h1 h3 u2 ht hd (u4 m hS) hx2 (fun q => absurd q hb) (fun _ => hp1), t2, Su_t u4 (setB_su _ _), fun y hy hyR => ?_⟩
        by_cases q : y = x
        · subst q; exact setB_at _ _
        · exact setB_su _ _ _ (u5 y (by omega) hyR)
  have e31 := nI_clamp (show rt m < 2 ^ 31 by omega)
  refine ⟨fun c => j22 1 isB_1 (MG_R hG (by omega) (fun q => absurd q c) (fun _ => rfl)), fun c => ⟨hinl, fun c2 => j22 0 isB_0 ?_, fun c2 => j22 1 isB_1 ?_⟩⟩
  · rw [e31] at c2
    have hL : R (rt m) = true := by
      apply Classical.byContradiction
      intro q; exact c2 ((BM_at hBR (by omega)).mpr q)
    exact MG_R hG (by omega) (fun _ _ => rfl) (fun q => by rcases q with q | q; exact absurd c q; exact absurd hL q)
  · rw [e31] at c2
    have hL := (BM_at hBR (show rt m < 8 by omega)).mp c2
    exact MG_R hG (by omega) (fun _ q => absurd q hL) (fun _ => rfl)
theorem m_handle {cnt n m : Nat} {tm : TM} {c0 g fa : Int32} {has wr mv nx fl fL fR : Nat → Int32} {S0 L0 R0 S L R : Nat → Bool} {Q : (Nat → Int32) → (Nat → Int32) → (Nat → Int32) → Int32 → Int32 → Prop} (hW : WF cnt tm) (hM : RMm cnt tm c0 has wr mv nx) (h1 : 1 ≤ n) (h3 : n ≤ 3) (hS : S m = true) (hI : Inv cnt tm n S L R) (hBS : BM 640 S fl) (hBL : BM 8 L fL) (hBR : BM 8 R fR) (hG : MG S0 L0 R0 S L R g)
    (k0 : hal tm (m / 64) → Q fl fL fR g 1)
    (k1 : ∀ (S' L' R' : Nat → Bool) (fl' fL' fR' : Nat → Int32) (g' : Int32), BM 640 S' fl' → BM 8 L' fL' → BM 8 R' fR' → Inv cnt tm n S' L' R' → MG S0 L0 R0 S' L' R' g' → Su S S' → Su L L' → Su R R' → Hd tm n m L R S' L' R' → Q fl' fL' fR' g' fa) : pX9_handle (nI m) (nI n) has wr mv nx fl fL fR g fa Q := by
  have hc5 := hW.2.1
  have hm := (hI.2.1 m hS).2
  have hm1 := hm.1
  intro x1 e1 x2 e2 x3 e3
  have d64 : nI m / 64 = nI (m / 64) := pk_div (d := 64) (by omega) (by omega) (by omega)
  have d8 : nI m / 8 = nI (m / 8) := pk_div (d := 8) (by omega) (by omega) (by omega)
  have r8 : nI m - nI m / 8 * 8 = nI (rt m) := pk_rem (d := 8) (by omega) (by omega) (by omega)
  have l8 : nI (m / 8) - nI (m / 8) / 8 * 8 = nI (lf m) := pk_rem (d := 8) (by omega) (by omega) (by omega)
  rw [d64] at e1
  rw [d8, l8] at e2
  rw [r8] at e3
  subst e1; subst e2; subst e3
  have hink : vp_in (nI (m / 64)) 10 := vp_in_nI (by omega) (by omega)
  rw [nI_clamp (show m / 64 < 2 ^ 31 by omega)]
  refine ⟨hink, ?_⟩
  obtain ⟨g1, g2⟩ := hM.2 (m / 64) (by omega)
  cases ht : tm (m / 64) with
  | none =>
    rw [g1 ht]
    exact ⟨fun _ => k0 (Or.inl ht), fun q => absurd rfl q⟩
  | some x =>
    obtain ⟨a, b, d⟩ := x
    obtain ⟨w0, w1', w2, w3⟩ := g2 a b d ht
    obtain ⟨v1, v2, v3, v4⟩ := hW.2.2 _ _ _ _ ht
    rw [w0, w2, w3]
    refine ⟨fun q => absurd q n10, fun _ => ⟨hink, fun q => ⟨hink, fun q2 => ?_, fun q2 => ?_⟩, fun q => k0 (Or.inr ⟨a, b, ?_⟩)⟩⟩
    · have hd : d ≠ 9 := fun z => q (by rw [z]; rfl)
      have hb : b ≠ 1 := fun z => q2 (by rw [z]; rfl)
      refine m_left hW h1 h3 ht hb hd w1' w3 hS hI hBS hBL hBR hG (fun S' f1 f2 g' t1 t2 t3 t4 t5 t6 => ?_)
      exact k1 S' L _ _ _ _ _ t1 hBL t2 t3 t4 t5 (Su_r _) (setB_su _ _) ⟨a, b, d, ht, hd, fun z => absurd z hb, fun _ => setB_at _ _, fun x hx _ z => t6 x hx (z hb)⟩
    · have hd : d ≠ 9 := fun z => q (by rw [z]; rfl)
      have hb : b = 1 := (nI_eq (b := 1) (by omega) (by omega)).mp q2
      subst hb
      refine m_right hW h1 h3 ht hd w1' w3 hS hI hBS hBL hBR hG (fun S' f1 f2 g' t1 t2 t3 t4 t5 t6 => ?_)
      exact k1 S' _ R _ _ _ _ t1 t2 hBR t3 t4 t5 (setB_su _ _) (Su_r _) ⟨a, 1, d, ht, hd, fun _ => setB_at _ _, fun z => absurd rfl z, fun x hx z _ => t6 x hx (z rfl)⟩
    · rw [ht, (nI_eq (b := 9) (by omega) (by omega)).mp q]
theorem m_pass {cnt n : Nat} {tm : TM} {c0 : Int32} {has wr mv nx fl fL fR : Nat → Int32} {S L R : Nat → Bool} {Q : Int32 → (Nat → Int32) → (Nat → Int32) → (Nat → Int32) → Int32 → Int32 → Prop} {X : ((Nat → Int32) × (Nat → Int32) × (Nat → Int32) × Int32 × Int32) → Prop} (hW : WF cnt tm) (hM : RMm cnt tm c0 has wr mv nx) (h1 : 1 ≤ n) (h3 : n ≤ 3) (hI : Inv cnt tm n S L R) (hBS : BM 640 S fl) (hBL : BM 8 L fL) (hBR : BM 8 R fR)
    (k0 : ∀ (fl' fL' fR' : Nat → Int32) (g' : Int32), (∃ m, rS tm n m ∧ hal tm (m / 64)) → X (fl', fL', fR', g', 1))
    (k1 : ∀ (S' L' R' : Nat → Bool) (fl' fL' fR' : Nat → Int32) (g' : Int32), BM 640 S' fl' → BM 8 L' fL' → BM 8 R' fR' → Inv cnt tm n S' L' R' → MG S L R S' L' R' g' → (∀ m, m < 640 → S m = true → Hd tm n m L R S' L' R') → X (fl', fL', fR', g', 0)) : Lp (pX9_closedFor_B105 (nI n) has wr mv nx Q X) (0, fl, fL, fR, 0, 0) := by
  refine Lp.up 640 (fun i (v : Int32 × (Nat → Int32) × (Nat → Int32) × (Nat → Int32) × Int32 × Int32) => v.1 = nI i ∧ ((v.2.2.2.2.2 = 1 ∧ ∃ m, rS tm n m ∧ hal tm (m / 64)) ∨ (v.2.2.2.2.2 = 0 ∧ ∃ S' L' R' : Nat → Bool, BM 640 S' v.2.1 ∧ BM 8 L' v.2.2.1 ∧ BM 8 R' v.2.2.2.1 ∧ Inv cnt tm n S' L' R' ∧ MG S L R S' L' R' v.2.2.2.2.1 ∧ ∀ m, m < i → S m = true → Hd tm n m L R S' L' R'))) ?_ (Nat.zero_le _) ⟨rfl, Or.inr ⟨rfl, S, L, R, hBS, hBL, hBR, hI, ⟨Su_r _, Su_r _, Su_r _, Or.inl ⟨rfl, rfl, rfl, rfl⟩⟩, fun m hm => absurd hm (Nat.not_lt_zero _)⟩⟩
  rintro i ⟨l2, f1, f2, f3, g, fa⟩ hi ⟨e, hv⟩
  dsimp only at e hv
  subst e
  refine ⟨fun c => ?_, fun c => ?_⟩
  · have hc := (nI_leI (a := 640) (by omega) (by omega)).mp c
    rcases hv with ⟨rfl, hh⟩ | ⟨rfl, S', L', R', t1, t2, t3, t4, t5, t6⟩
    · exact k0 _ _ _ _ hh
    · exact k1 S' L' R' _ _ _ _ t1 t2 t3 t4 t5 (fun m hm => t6 m (by omega))
  · have hlt' : i < 640 := by
      rcases Nat.lt_or_ge i 640 with q | q
      · exact q
      · exact absurd (nI_le (a := 640) q (by omega)) c
    rcases hv with ⟨rfl, hh⟩ | ⟨rfl, S', L', R', t1, t2, t3, t4, t5, t6⟩
    · exact ⟨fun _ => k0 _ _ _ _ hh, fun q => absurd q n10⟩
    · refine ⟨fun q => absurd rfl q, fun _ => ⟨vp_in_nI hlt' (by omega), ?_⟩⟩
      rw [nI_clamp (show i < 2 ^ 31 by omega)]
      refine ⟨fun q x15 e15 => ?_, fun q => ?_⟩
      · rw [e15, nI_1]
        refine ⟨hlt', rfl, Or.inr ⟨rfl, S', L', R', t1, t2, t3, t4, t5, fun m hm hS => ?_⟩⟩
        by_cases z : m = i
        · subst z
          exact absurd (t5.1 m hS) ((BM_at t1 hlt').mp q)
        · exact t6 m (by omega) hS
      · have hSi : S' i = true := by
          apply Classical.byContradiction
          intro z; exact q ((BM_at t1 hlt').mpr z)
        refine m_handle hW hM h1 h3 hSi t4 t1 t2 t3 t5 (fun hh x15 e15 => ?_) (fun S2 L2 R2 f4 f5 f6 g' u1 u2 u3 u4 u5 u6 u7 u8 u9 x15 e15 => ?_)
        · rw [e15, nI_1]
          exact ⟨hlt', rfl, Or.inl ⟨rfl, i, (t4.2.1 i hSi).1, hh⟩⟩
        · rw [e15, nI_1]
          refine ⟨hlt', rfl, Or.inr ⟨rfl, S2, L2, R2, u1, u2, u3, u4, u5, fun m hm hS => ?_⟩⟩
          by_cases z : m = i
          · subst z
            exact Hd_mono u9 (Su_r _) (Su_r _) (Su_r _) t5.2.1 t5.2.2.1
          · exact Hd_mono (t6 m (by omega) hS) u6 u7 u8 (Su_r _) (Su_r _)
theorem m_cnt {n : Nat} {has wr mv nx fl fL fR : Nat → Int32} {g fa : Int32} {Q : Int32 → (Nat → Int32) → (Nat → Int32) → (Nat → Int32) → Int32 → Int32 → Prop} (k0 : fa = 0 → Q (nI (fb_ct (fun j => decide (¬ fl j = 0)) 640)) fl fL fR g fa) (k1 : ¬ fa = 0 → Q (-1005) fl fL fR g fa) : pX9_closedFor_j143 (nI n) has wr mv nx Q fl fL fR g fa := by
  refine Lp.up 640 (fun i (v : Int32 × Int32) => v.2 = nI i ∧ v.1 = nI (fb_ct (fun j => decide (¬ fl j = 0)) i)) ?_ (Nat.zero_le _) ⟨rfl, rfl⟩
  rintro i ⟨l2, l3⟩ hi ⟨e, e2⟩
  dsimp only at e e2
  subst e; subst e2
  refine ⟨fun c => ?_, fun c => ?_⟩
  · have hc := (nI_leI (a := 640) (by omega) (by omega)).mp c
    rw [show i = 640 by omega]
    exact ⟨k0, k1⟩
  · have hlt' : i < 640 := by
      rcases Nat.lt_or_ge i 640 with q | q
      · exact q
      · exact absurd (nI_le (a := 640) q (by omega)) c
    refine ⟨vp_in_nI hlt' (by omega), ?_⟩
    rw [nI_clamp (show i < 2 ^ 31 by omega)]
    refine ⟨fun q x8 e8 x9 e9 => ?_, fun q x8 e8 x9 e9 => ?_⟩
    · rw [e8, e9, nI_1]
      refine ⟨hlt', rfl, ?_⟩
      rw [fb_ct_succ]
      simp [q]
    · rw [e8, e9, nI_1, nI_1]
      refine ⟨hlt', rfl, ?_⟩
      rw [fb_ct_succ]
      simp [q]
theorem m_clos {cnt n : Nat} {tm : TM} {c0 g fa : Int32} {has wr mv nx fl fL fR : Nat → Int32} {Q : Int32 → (Nat → Int32) → (Nat → Int32) → (Nat → Int32) → Int32 → Int32 → Prop} (hW : WF cnt tm) (hM : RMm cnt tm c0 has wr mv nx) (h1 : 1 ≤ n) (h3 : n ≤ 3)
    (k : ∀ r : Int32, Clo tm n r → ∀ (a1 a2 a3 : Nat → Int32) (a4 a5 : Int32), Q r a1 a2 a3 a4 a5) : pX9_closedFor (nI n) has wr mv nx fl fL fR g fa Q := by
  have one0 : ∀ j, ¬ j = 0 → ¬ oneB j = true := fun j hj h => by
    rcases setB_or h with q | q
    · exact hj q
    · cases q
  have putB : ∀ (f : Nat → Int32) (i : Nat) (s : Int32), (∀ j, j < i → f j = if oneB j = true then 1 else 0) → (i = 0 → s = 1) → (¬ i = 0 → s = 0) → ∀ j, j < i + 1 → upd f i s j = if oneB j = true then 1 else 0 := by
    intro f i s hf s1 s0 j hj
    rw [upd_eq]
    by_cases q : j = i
    · rw [if_pos q]
      by_cases z : i = 0
      · rw [s1 z, q, z]; rfl
      · rw [s0 z, q, if_neg (one0 i z)]
    · rw [if_neg q]; exact hf j (by omega)
  refine Lp.up 640 (fun i (v : Int32 × (Nat → Int32)) => v.1 = nI i ∧ ∀ j, j < i → v.2 j = if oneB j = true then 1 else 0) ?_ (Nat.zero_le _) ⟨rfl, fun j hj => absurd hj (Nat.not_lt_zero _)⟩
  rintro i ⟨l2, f1⟩ hi ⟨e, hf⟩
  dsimp only at e hf
  subst e
  refine ⟨fun c => ?_, fun c => ?_⟩
  · have hc := (nI_leI (a := 640) (by omega) (by omega)).mp c
    have hBS : BM 640 oneB f1 := fun j hj => hf j (by omega)
    refine Lp.up 8 (fun i (v : Int32 × (Nat → Int32) × (Nat → Int32)) => v.1 = nI i ∧ (∀ j, j < i → v.2.1 j = if oneB j = true then 1 else 0) ∧ ∀ j, j < i → v.2.2 j = if oneB j = true then 1 else 0) ?_ (Nat.zero_le _) ⟨rfl, fun j hj => absurd hj (Nat.not_lt_zero _), fun j hj => absurd hj (Nat.not_lt_zero _)⟩
    rintro i2 ⟨l2, f2, f3⟩ hi2 ⟨e, hf2, hf3⟩
    dsimp only at e hf2 hf3
    subst e
    refine ⟨fun c => ?_, fun c => ?_⟩
    · have hc := (nI_leI (a := 8) (by omega) (by omega)).mp c
      have hBL : BM 8 oneB f2 := fun j hj => hf2 j (by omega)
      have hBR : BM 8 oneB f3 := fun j hj => hf3 j (by omega)
      refine Lp.up 700 (fun p (v : (Nat → Int32) × (Nat → Int32) × (Nat → Int32) × Int32 × Int32) => (v.2.2.2.2 = 1 ∧ ∃ m, rS tm n m ∧ hal tm (m / 64)) ∨ (v.2.2.2.2 = 0 ∧ ∃ S L R : Nat → Bool, BM 640 S v.1 ∧ BM 8 L v.2.1 ∧ BM 8 R v.2.2.1 ∧ Inv cnt tm n S L R ∧ ((v.2.2.2.1 = 0 ∧ ∀ m, S m = true → Hd tm n m L R S L R) ∨ (v.2.2.2.1 = 1 ∧ p ≤ tot S L R)))) ?_ (Nat.zero_le _) (Or.inr ⟨rfl, oneB, oneB, oneB, hBS, hBL, hBR, Inv_0 hW.1, Or.inr ⟨rfl, Nat.zero_le _⟩⟩)
      rintro p ⟨g1, g2, g3, gr, fa'⟩ hp hv
      dsimp only at hv
      rcases hv with ⟨rfl, hh⟩ | ⟨rfl, S, L, R, t1, t2, t3, t4, t5⟩
      · have fin : pX9_closedFor_j143 (nI n) has wr mv nx Q g1 g2 g3 gr 1 := m_cnt (fun q => absurd q n10) (fun _ => k _ (Or.inl ⟨rfl, hh⟩) _ _ _ _ _)
        exact ⟨fun _ => fin, fun _ => ⟨fun _ => fin, fun q => absurd q n10⟩⟩
      · rcases t5 with ⟨rfl, t6⟩ | ⟨rfl, t6⟩
        · refine ⟨fun _ => m_cnt (fun _ => ?_) (fun q => absurd rfl q), fun q => absurd rfl q⟩
          have : fb_ct (fun j => decide (¬ g1 j = 0)) 640 = fb_ct S 640 := by
            apply fb_ct_cong
            intro j hj
            have := BM_at t1 hj
            by_cases z : S j = true
            · have : ¬ g1 j = 0 := fun y => this.mp y z
              rw [z]; simp [this]
            · have y := this.mpr z
              simp at z
              rw [z]; simp [y]
          rw [this]
          exact k _ (Clo_fin t4 t6) _ _ _ _ _
        · refine ⟨fun q => absurd q n10, fun _ => ⟨fun q => absurd rfl q, fun _ => ?_⟩⟩
          have b1 := fb_ct_le S 640
          have b2 := fb_ct_le L 8
          have b3 := fb_ct_le R 8
          have hp' : p < 700 := by unfold tot at t6; omega
          refine m_pass hW hM h1 h3 t4 t1 t2 t3 (fun _ _ _ _ hh => ⟨hp', Or.inl ⟨rfl, hh⟩⟩) (fun S' L' R' f4 f5 f6 g' u1 u2 u3 u4 u5 u6 => ⟨hp', Or.inr ⟨rfl, S', L', R', u1, u2, u3, u4, ?_⟩⟩)
          rcases u5.2.2.2 with ⟨rfl, rfl, rfl, rfl⟩ | ⟨rfl, z⟩
          · refine Or.inl ⟨rfl, fun m hm => u6 m ?_ hm⟩
            have := (u4.2.1 m hm).2.1
            have := hW.2.1
            omega
          · exact Or.inr ⟨rfl, by omega⟩
    · have hlt' : i2 < 8 := by
        rcases Nat.lt_or_ge i2 8 with q | q
        · exact q
        · exact absurd (nI_le (a := 8) q (by omega)) c
      have hin : vp_in (nI i2) 8 := vp_in_nI hlt' (by omega)
      refine ⟨fun q => ⟨hin, fun q2 => ⟨hin, fun x26 e26 => ?_⟩, fun q2 => absurd q2 q⟩, fun q => ⟨hin, fun q2 => absurd q q2, fun q2 => ⟨hin, fun x26 e26 => ?_⟩⟩⟩
      · have z : ¬ i2 = 0 := fun y => q (by rw [y]; rfl)
        rw [e26, nI_1, nI_clamp (show i2 < 2 ^ 31 by omega), vnb_0]
        exact ⟨hlt', rfl, putB _ _ _ hf2 (fun y => absurd y z) (fun _ => rfl), putB _ _ _ hf3 (fun y => absurd y z) (fun _ => rfl)⟩
      · have z : i2 = 0 := (nI_eq (b := 0) (by omega) (by omega)).mp q
        rw [e26, nI_1, nI_clamp (show i2 < 2 ^ 31 by omega), vnb_1]
        exact ⟨hlt', rfl, putB _ _ _ hf2 (fun _ => rfl) (fun y => absurd z y), putB _ _ _ hf3 (fun _ => rfl) (fun y => absurd z y)⟩
  · have hlt' : i < 640 := by
      rcases Nat.lt_or_ge i 640 with q | q
      · exact q
      · exact absurd (nI_le (a := 640) q (by omega)) c
    have hin : vp_in (nI i) 640 := vp_in_nI hlt' (by omega)
    refine ⟨fun q => ⟨hin, fun x29 e29 => ?_⟩, fun q => ⟨hin, fun x29 e29 => ?_⟩⟩
    · have z : ¬ i = 0 := fun y => q (by rw [y]; rfl)
      rw [e29, nI_1, nI_clamp (show i < 2 ^ 31 by omega), vnb_0]
      exact ⟨hlt', rfl, putB _ _ _ hf (fun y => absurd y z) (fun _ => rfl)⟩
    · have z : i = 0 := (nI_eq (b := 0) (by omega) (by omega)).mp q
      rw [e29, nI_1, nI_clamp (show i < 2 ^ 31 by omega), vnb_1]
      exact ⟨hlt', rfl, putB _ _ _ hf (fun _ => rfl) (fun y => absurd z y)⟩
theorem O_closedSet : Ob_closedSet Iv := by
  rintro c wr mv fo words st hd ti lo hi codes len states has write move next text typed tape on mt ms mh c1 c2 c3 c4 c5 c6 d1 d2 d3 d4 d5 p ⟨cnt, tm, hW, hX, hM, hC, hT⟩
  have hI : Iv c wr mv fo words st hd ti lo hi codes len states has write move next text typed tape on mt ms mh := ⟨cnt, tm, hW, hX, hM, hC, hT⟩
  have hXc := hX.1
  refine ⟨fun g => in_lo g ⟨fun _ => ⟨rfl, hI⟩, fun q => absurd rfl q⟩, fun g => ⟨fun g2 => ?_, fun g2 => in_hi (nle_lt g2) ⟨fun _ => ⟨rfl, hI⟩, fun q => absurd rfl q⟩⟩⟩
  obtain ⟨j, j1, j2, rfl⟩ := rng (lo := 1) (hi := 3) (by omega) g (le_nlt g2) (by omega)
  subst hXc
  refine x_clos hW hX j1 j2 (fun r hr a1 a2 a3 a4 a5 a6 => ?_)
  refine in_ok g (le_nlt g2) ⟨fun q => absurd q n10, fun _ => ?_⟩
  exact m_clos hW hM j1 j2 (fun r' hr' a1 a2 a3 a5 a6 => ⟨Clo_one hr hr', hI⟩)
