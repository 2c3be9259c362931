/-! own: the verdict -/
theorem m1005 : (-1005 : Int32) < 0 := by decide
noncomputable def vd (cnt : Nat) (tm : TM) (L : Nat) : Int32 :=
  @ite Int32 (hlt tm (cf tm L)) (Classical.propDecidable _) 1
    (@ite Int32 (¬ ∀ j, j < L → ¬ c3 tm j = c3 tm L) (Classical.propDecidable _) 2
      (@ite Int32 (¬ ∀ w a b, a < b → b ≤ L → ¬ Df tm w a b) (Classical.propDecidable _) 3
        (@ite Int32 (¬ Dep tm (2 * cnt) 8 (-1005)) (Classical.propDecidable _) 4
          (@ite Int32 (∃ n, 1 ≤ n ∧ n ≤ 3 ∧ ¬ Clo tm n (-1005)) (Classical.propDecidable _) 5 0))))
theorem vd1 {cnt L : Nat} {tm : TM} (h1 : hlt tm (cf tm L)) : vd cnt tm L = 1 := by
  unfold vd
  rw [if_pos h1]
theorem vd2 {cnt L : Nat} {tm : TM} (h1 : ¬ hlt tm (cf tm L)) (h2 : ¬ ∀ j, j < L → ¬ c3 tm j = c3 tm L) : vd cnt tm L = 2 := by
  unfold vd
  rw [if_neg h1, if_pos h2]
theorem vd3 {cnt L : Nat} {tm : TM} (h1 : ¬ hlt tm (cf tm L)) (h2 : ∀ j, j < L → ¬ c3 tm j = c3 tm L) (h3 : ¬ ∀ w a b, a < b → b ≤ L → ¬ Df tm w a b) : vd cnt tm L = 3 := by
  unfold vd
  rw [if_neg h1, if_neg (fun q => q h2), if_pos h3]
theorem vd4 {cnt L : Nat} {tm : TM} (h1 : ¬ hlt tm (cf tm L)) (h2 : ∀ j, j < L → ¬ c3 tm j = c3 tm L) (h3 : ∀ w a b, a < b → b ≤ L → ¬ Df tm w a b) (h4 : ¬ Dep tm (2 * cnt) 8 (-1005)) : vd cnt tm L = 4 := by
  unfold vd
  rw [if_neg h1, if_neg (fun q => q h2), if_neg (fun q => q h3), if_pos h4]
theorem vd5 {cnt L : Nat} {tm : TM} (h1 : ¬ hlt tm (cf tm L)) (h2 : ∀ j, j < L → ¬ c3 tm j = c3 tm L) (h3 : ∀ w a b, a < b → b ≤ L → ¬ Df tm w a b) (h4 : Dep tm (2 * cnt) 8 (-1005)) (h5 : ∃ n, 1 ≤ n ∧ n ≤ 3 ∧ ¬ Clo tm n (-1005)) : vd cnt tm L = 5 := by
  unfold vd
  rw [if_neg h1, if_neg (fun q => q h2), if_neg (fun q => q h3), if_neg (fun q => q h4), if_pos h5]
theorem vd0 {cnt L : Nat} {tm : TM} (h1 : ¬ hlt tm (cf tm L)) (h2 : ∀ j, j < L → ¬ c3 tm j = c3 tm L) (h3 : ∀ w a b, a < b → b ≤ L → ¬ Df tm w a b) (h4 : Dep tm (2 * cnt) 8 (-1005)) (h5 : ∀ n, 1 ≤ n → n ≤ 3 → Clo tm n (-1005)) : vd cnt tm L = 0 := by
  unfold vd
  rw [if_neg h1, if_neg (fun q => q h2), if_neg (fun q => q h3), if_neg (fun q => q h4), if_neg]
  rintro ⟨n, n1, n2, n3⟩
  exact n3 (h5 n n1 n2)
theorem Dep_neg {tm : TM} {n lim : Nat} {r : Int32} (hl : lim ≤ 8) (h : Dep tm n lim r) : r < 0 ↔ r = -1005 := by
  rcases h with ⟨d, d1, -, -, rfl⟩ | ⟨rfl, -⟩
  · refine ⟨fun q => absurd q (nI_pos (by omega)), fun q => ?_⟩
    rw [q]; exact m1005
  · exact ⟨fun _ => rfl, fun _ => m1005⟩
theorem Clo_neg {tm : TM} {n : Nat} {r : Int32} (h : Clo tm n r) : r < 0 ↔ r = -1005 := by
  rcases h with ⟨rfl, -⟩ | ⟨-, S, -, rfl⟩
  · exact ⟨fun _ => rfl, fun _ => m1005⟩
  · have := fb_ct_le S 640
    refine ⟨fun q => absurd q (nI_pos (by omega)), fun q => ?_⟩
    rw [q]; exact m1005
theorem x_has {cnt : Nat} {tm : TM} {c0 c3' c4 c5 c6 : Int32} {wr mv fo c1 c2 : Nat → Int32} {Q : Int32 → (Nat → Int32) → (Nat → Int32) → Int32 → Int32 → Int32 → Int32 → Prop} (hW : WF cnt tm) (hX : RMx cnt tm c0 wr mv fo)
    (k0 : (∀ n, 1 ≤ n → n ≤ 3 → Clo tm n (-1005)) → ∀ (a1 a2 : Nat → Int32) (a3 a4 a5 a6 : Int32), Q 0 a1 a2 a3 a4 a5 a6) (k1 : (∃ n, 1 ≤ n ∧ n ≤ 3 ∧ ¬ Clo tm n (-1005)) → ∀ (a1 a2 : Nat → Int32) (a3 a4 a5 a6 : Int32), Q 1 a1 a2 a3 a4 a5 a6) : pX8_hasClosedSet (nI cnt) wr mv fo c1 c2 c3' c4 c5 c6 Q := by
  refine Lp.up 4 (fun i (v : Int32 × (Nat → Int32) × (Nat → Int32) × Int32 × Int32 × Int32 × Int32) => v.1 = nI i ∧ 1 ≤ i ∧ ∀ n, 1 ≤ n → n < i → Clo tm n (-1005)) ?_ (i0 := 1) (by omega) ⟨rfl, Nat.le_refl _, fun n n1 n2 => absurd n1 (by omega)⟩
  rintro i ⟨l1, a1, a2, a3, a4, a5, a6⟩ hi ⟨e, h1, hc⟩
  dsimp only at e
  subst e
  refine ⟨fun c => ?_, fun c => ?_⟩
  · have h4 := (nI_ltI (a := 3) (by omega) (by omega)).mp c
    exact k0 (fun n n1 n2 => hc n n1 (by omega)) _ _ _ _ _ _
  · have h4 : i ≤ 3 := by
      rcases Nat.lt_or_ge 3 i with q | q
      · exact absurd (nI_lt (a := 3) q (by omega)) c
      · exact q
    refine x_clos hW hX h1 h4 (fun r hr b1 b2 b3 b4 b5 b6 => ⟨fun g x11 e11 => ?_, fun g => k1 ⟨i, h1, h4, fun q => g (Clo_one hr q)⟩ _ _ _ _ _ _⟩)
    rw [e11, nI_1]
    refine ⟨by omega, rfl, by omega, fun n n1 n2 => ?_⟩
    by_cases q : n = i
    · rw [q, ← g]; exact hr
    · exact hc n n1 (by omega)
theorem m_cyc2 {cnt lim L : Nat} {tm : TM} {cells heads sts : Nat → Int32} {ti ha e0 l0 : Int32} {Q : Int32 → Int32 → Prop} (hW : WF cnt tm) (hl : lim ≤ 200) (hH : HM tm L cells heads sts) (hS : Sim tm lim L ti ha) (k : ∀ a b : Int32, (a < 0 ↔ ∀ j, j < L → ¬ c3 tm j = c3 tm L) → Q a b) : pX9_findCycle cells heads sts ti e0 l0 Q := by
  have hL := hS.1.1
  refine m_cyc hW hl hH hS (fun hno => k _ _ ⟨fun _ => hno, fun _ => m1005⟩) (fun s1 s2 hm => k _ _ ⟨fun q => ?_, fun hno => ?_⟩)
  · have := hm.1
    have := hm.2.1
    exact absurd q (nI_pos (by omega))
  · exact absurd hm.2.2.1 (cyc_no hno _ _ hm.1 (by have := hm.2.1; omega))
theorem m_drift2 {cnt lim L : Nat} {tm : TM} {cells heads sts : Nat → Int32} {ti ha e0 l0 : Int32} {Q : Int32 → Int32 → Prop} (hW : WF cnt tm) (hl : lim ≤ 200) (hH : HM tm L cells heads sts) (hS : Sim tm lim L ti ha) (k : ∀ a b : Int32, (a < 0 ↔ ∀ w a b, a < b → b ≤ L → ¬ Df tm w a b) → Q a b) : pX9_findDrift cells heads sts ti e0 l0 Q := by
  have hL := hS.1.1
  refine m_drift hW hl hH hS (fun hno => k _ _ ⟨fun _ => hno, fun _ => m1005⟩) (fun w t1 t2 h1 hx => k _ _ ⟨fun q => ?_, fun hno => ?_⟩)
  · exact absurd q (nI_pos (by omega))
  · exact absurd hx.2.1 (hno _ _ _ hx.1 h1)
theorem m_dec {cnt l L : Nat} {tm : TM} {c0 mtm mha e1 e2 e3 e4' ps bs g fa : Int32} {has wr mv nx mc mhe mst pa bf fl fL fR : Nat → Int32} {Q : Int32 → (Nat → Int32) → (Nat → Int32) → (Nat → Int32) → Int32 → Int32 → Int32 → Int32 → Int32 → Int32 → (Nat → Int32) → (Nat → Int32) → Int32 → Int32 → (Nat → Int32) → (Nat → Int32) → (Nat → Int32) → Int32 → Int32 → Prop} (hW : WF cnt tm) (hM : RMm cnt tm c0 has wr mv nx) (l1 : 1 ≤ l) (l2 : l ≤ 200) (hR : Ran tm l L)
    (k : ∀ (t : Int32), t = vd cnt tm L → ∀ (a1 a2 a3 : Nat → Int32) (a4 a5 a6 a7 a8 a9 : Int32) (b1 b2 : Nat → Int32) (b3 b4 : Int32) (d1 d2 d3 : Nat → Int32) (d4 d5 : Int32), Q t a1 a2 a3 a4 a5 a6 a7 a8 a9 b1 b2 b3 b4 d1 d2 d3 d4 d5) : pX9_decide (nI l) (nI cnt) has wr mv nx mc mhe mst mtm mha e1 e2 e3 e4' pa bf ps bs fl fL fR g fa Q := by
  refine mlim_in l1 l2 ⟨fun _ => ?_, fun g => absurd g n10⟩
  refine m_sim hW hM l2 (fun L2 c2 h2 s2 ti2 ha2 hH2 hS => ?_)
  have := Ran_one hR hS.1
  subst this
  refine m_cyc2 hW l2 hH2 hS (fun w10 w11 h10 => m_drift2 hW l2 hH2 hS (fun w13 w14 h13 => ?_))
  have h8 : ha2 < 0 ↔ ¬ hlt tm (cf tm L) := by
    have := hR.1
    rcases hS.2 with ⟨u1, u2, -⟩ | ⟨u1, u2, -⟩
    · rw [u2]; exact ⟨fun q => absurd q (nI_pos (by omega)), fun q => absurd u1 q⟩
    · rw [u2]; exact ⟨fun _ => u1, fun _ => m1005⟩
  refine ⟨fun g8 => ⟨fun g10 => ⟨fun g13 => ?_, fun g13 => k _ (vd3 (h8.mp g8) (h10.mp g10) (fun q => g13 (h13.mpr q))).symm _ _ _ _ _ _ _ _ _ _ _ _ _ _ _ _ _ _⟩, fun g10 => k _ (vd2 (h8.mp g8) (fun q => g10 (h10.mpr q))).symm _ _ _ _ _ _ _ _ _ _ _ _ _ _ _ _ _ _⟩, fun g8 => k _ (vd1 (Classical.byContradiction (fun q => g8 (h8.mpr q)))).symm _ _ _ _ _ _ _ _ _ _ _ _ _ _ _ _ _ _⟩
  refine m_depth (lim := 8) hW hM (by omega) (fun r19 hr19 a1 a2 a5 a6 => ⟨fun g19 => ?_, fun g19 => ?_⟩)
  · have e19 := (Dep_neg (by omega) hr19).mp g19
    rw [e19] at hr19
    have five : ∀ n r, 1 ≤ n → n ≤ 3 → Clo tm n r → ¬ r < 0 → (5 : Int32) = vd cnt tm L := fun n r n1 n2 hr hn => (vd5 (h8.mp g8) (h10.mp g10) (h13.mp g13) hr19 ⟨n, n1, n2, fun q => hn ((Clo_neg hr).mpr (Clo_one hr q))⟩).symm
    have neg : ∀ r : Int32, ¬ (0 : Int32) ≤ r → r < 0 := fun r q => nle_lt q
    refine m_clos (n := 1) hW hM (by omega) (by omega) (fun r26 h26 b1 b2 b3 b4 b5 => ⟨fun g26 => k _ (five 1 r26 (by omega) (by omega) h26 (le_nlt g26)) _ _ _ _ _ _ _ _ _ _ _ _ _ _ _ _ _ _, fun g26 => ?_⟩)
    refine m_clos (n := 2) hW hM (by omega) (by omega) (fun r34 h34 b1 b2 b3 b4 b5 => ⟨fun g34 => k _ (five 2 r34 (by omega) (by omega) h34 (le_nlt g34)) _ _ _ _ _ _ _ _ _ _ _ _ _ _ _ _ _ _, fun g34 => ?_⟩)
    refine m_clos (n := 3) hW hM (by omega) (by omega) (fun r42 h42 b1 b2 b3 b4 b5 => ⟨fun g42 => k _ ?_ _ _ _ _ _ _ _ _ _ _ _ _ _ _ _ _ _ _, fun g42 => k _ (five 3 r42 (by omega) (by omega) h42 g42) _ _ _ _ _ _ _ _ _ _ _ _ _ _ _ _ _ _⟩)
    refine (vd0 (h8.mp g8) (h10.mp g10) (h13.mp g13) hr19 (fun n n1 n2 => ?_)).symm
    have e1 := (Clo_neg h26).mp (neg _ g26)
    have e2 := (Clo_neg h34).mp (neg _ g34)
    have e3 := (Clo_neg h42).mp g42
    rw [e1] at h26
    rw [e2] at h34
    rw [e3] at h42
    rcases (show n = 1 ∨ n = 2 ∨ n = 3 by omega) with rfl | rfl | rfl
    · exact h26
    · exact h34
    · exact h42
  · exact k _ (vd4 (h8.mp g8) (h10.mp g10) (h13.mp g13) (fun q => g19 ((Dep_neg (by omega) hr19).mpr (Dep_one hr19 q)))).symm _ _ _ _ _ _ _ _ _ _ _ _ _ _ _ _ _ _
theorem O_decide : Ob_decide Iv := by
  intro c wr mv fo words st hd ti lo hi codes len ss has wri mov nex text typ tape on mt ms mh hw' hst hhd hti hlo hhi hsr hhr hrr hlr htr hla hen hea hlat e1 e2 e3 e4' e5 e6 o1 o2 o3 o4 o5 o6 c1 c2 c3' c4 c5 c6 mc mhe mst mtm mha mcf mcl mdl mdb pa bf ps bs fl fL fR gr fa p1 hI
  obtain ⟨cnt, tm, hW, hX, hM, hC, hT⟩ := id hI
  have ec : c = nI cnt := hX.1
  have es : ss = nI cnt := hM.1
  subst ec es
  rcases lim_cases p1 with h | ⟨l, l1, l2, rfl⟩
  · exact lim_out h ⟨fun g => absurd rfl g, fun _ => mlim_out h ⟨fun g => absurd rfl g, fun _ => ⟨rfl, hI⟩⟩⟩
  · refine lim_in l1 l2 ⟨fun _ => ?_, fun g => absurd g n10⟩
    refine x_record hW hX l2 (fun L w1 a1 a2 a3 a4 a5 sr1 hr1 rr1 lr1 tr1 en1 hR hH he1 he0 => ?_)
    have hR' := hR
    obtain ⟨hR1, hR2, hR3⟩ := hR'
    have md : ∀ r : Int32, r = vd cnt tm L → pX9_decide (nI l) (nI cnt) has wri mov nex mc mhe mst mtm mha mcf mcl mdl mdb pa bf ps bs fl fL fR gr fa (fun t _ _ _ _ _ _ _ _ _ _ _ _ _ _ _ _ _ _ => r = t ∧ Iv (nI cnt) wr mv fo words st hd ti lo hi codes len (nI cnt) has wri mov nex text typ tape on mt ms mh) := fun r hr => m_dec hW hM l1 l2 hR (fun t ht => fun _ _ _ _ _ _ _ _ _ _ _ _ _ _ _ _ _ _ => ⟨hr.trans ht.symm, hI⟩)
    by_cases hh : hlt tm (cf tm L)
    · rw [he1 hh]
      exact ⟨fun g => absurd g n10, fun _ => md _ (vd1 hh).symm⟩
    · rw [he0 hh]
      refine ⟨fun _ => ?_, fun g => absurd rfl g⟩
      refine x_findCycle hW hR2 (by omega) hH (fun hno => ⟨fun _ => ?_, fun g => absurd rfl g⟩) (fun b t1 hx => ⟨fun g => absurd g n10, fun _ => md _ (vd2 hh (fun hno => absurd hx.2.1 (hno _ hx.1))).symm⟩)
      refine x_findDrift hW hR2 (by omega) hH (fun hnd => ⟨fun _ => ?_, fun g => absurd rfl g⟩) (fun w t1 t2 ht2 hx => ⟨fun g => absurd g n10, fun _ => md _ (vd3 hh hno (fun q => absurd hx.2.1 (q _ _ _ hx.1 ht2))).symm⟩)
      refine x_findDepth (lim := 8) hW hX (by omega) (fun r hr f1 f2 f3 f4 f5 f6 f7 f8 f9 f10 f11 f12 => ⟨fun g => ?_, fun g => md _ (vd4 hh hno hnd (fun q => g (Dep_one hr q))).symm⟩)
      rw [g] at hr
      exact x_has hW hX (fun hc _ _ _ _ _ _ => ⟨fun _ => md _ (vd0 hh hno hnd hr hc).symm, fun q => absurd rfl q⟩) (fun hc _ _ _ _ _ _ => ⟨fun q => absurd q n10, fun _ => md _ (vd5 hh hno hnd hr hc).symm⟩)
