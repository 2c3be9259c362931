/-! own: the machine's own calls -/
theorem s_reset {c : Nat} (h : c ≤ 5) {v : Int32} {f : Nat → Int32} {Q : Int32 → (Nat → Int32) → Prop} (k : ∀ f' : Nat → Int32, (∀ j, j < 10 → f' j = -1) → Q (nI c) f') : pX5_reset (nI c) v f Q := by
  intro x1 e1
  rw [show (5 : Int32) = nI 5 from rfl, if_neg (nI_nlt (by omega) (by omega))] at e1
  subst e1
  exact s_fill 10 (by omega) _ _ _ (fun g hg => k g hg)
theorem m_clear {c : Nat} {v : Int32} {f : Nat → Int32} {Q : Int32 → (Nat → Int32) → Prop} (k : ∀ f' : Nat → Int32, (∀ j, j < 10 → f' j = 0) → Q (nI c) f') : pX9_clearMachine (nI c) v f Q := by
  refine Lp.up 10 (fun i v => v.1 = nI i ∧ ∀ j, j < i → v.2 j = 0) ?_ (Nat.zero_le _) ⟨rfl, fun j hj => absurd hj (Nat.not_lt_zero _)⟩
  rintro i ⟨l2, g⟩ hi ⟨e, hg⟩
  dsimp only at e hg
  subst e
  refine ⟨fun c => ?_, fun c => ?_⟩
  · have hc := (nI_leI (a := 10) (by omega) (by omega)).mp c
    exact k g (fun j hj => hg j (by omega))
  · have hc : ¬ 10 ≤ i := fun q => c (nI_le (a := 10) q (by omega))
    refine ⟨vp_in_nI (by omega) (by omega), ?_⟩
    intro x4 e4
    rw [e4, nI_1, nI_clamp (show i < 2 ^ 31 by omega), vnb_0]
    refine ⟨by omega, rfl, ?_⟩
    intro j hj
    show upd g i 0 j = 0
    rw [upd_eq]
    by_cases q : j = i
    · rw [if_pos q]
    · rw [if_neg q]; exact hg j (by omega)
theorem MI_new {j : Nat} {wr mv fo has wri mov nex : Nat → Int32} (h1 : 1 ≤ j) (h5 : j ≤ 5) (hf : ∀ k, k < 10 → fo k = -1) (hh : ∀ k, k < 10 → has k = 0) : WF j (fun _ => none) ∧ RMx j (fun _ => none) (nI j) wr mv fo ∧ RMm j (fun _ => none) (nI j) has wri mov nex :=
  ⟨⟨h1, h5, fun k a b c h => by cases h⟩, ⟨rfl, fun k hk => ⟨fun _ => hf k hk, fun a b c h => by cases h⟩⟩, ⟨rfl, fun k hk => ⟨fun _ => hh k hk, fun a b c h => by cases h⟩⟩⟩
theorem O_setStates : Ob_setStates Iv := by
  intro c wr mv fo words st hd ti lo hi codes len ss has wri mov nex text typ tape on mt ms mh p1 hI
  obtain ⟨cnt, tm, hW, hX, hM, hC, hT⟩ := id hI
  refine ⟨fun c1 => ?_, fun c1 => ⟨fun c2 => ?_, fun c2 => ?_⟩⟩
  · exact in_lo c1 ⟨fun h => absurd rfl h, fun _ => ⟨rfl, hI⟩⟩
  · have c3 := le_nlt c2
    obtain ⟨j, j1, j2, rfl⟩ := rng (lo := 1) (hi := 5) (by omega) c1 c3 (by omega)
    refine s_reset j2 (fun f' hf => sx_begin (by omega) (fun w' hw => ?_))
    refine in_ok c1 c3 ⟨fun _ => m_clear (fun h' hh => sm_begin (fun tape' on' ht ho => ⟨hX.1.trans hM.1.symm, ?_⟩)), fun h => absurd h n10⟩
    obtain ⟨a1, a2, a3⟩ := MI_new (wr := wr) (mv := mv) (wri := wri) (mov := mov) (nex := nex) j1 j2 hf hh
    exact ⟨j, _, a1, a2, a3, CR_0 j1 hw ht ho, hT⟩
  · exact in_hi (nle_lt c2) ⟨fun h => absurd rfl h, fun _ => ⟨rfl, hI⟩⟩
theorem O_states : Ob_states Iv := by
  intro c wr mv fo words st hd ti lo hi codes len ss has wri mov nex text typ tape on mt ms mh hI
  obtain ⟨cnt, tm, hW, hX, hM, hC, hT⟩ := id hI
  exact ⟨hX.1.trans hM.1.symm, hI⟩
def stOK (cnt : Nat) (p : Int32) : Prop := ∃ q, q < cnt ∧ p = nI q
def nxOK (cnt : Nat) (p : Int32) : Prop := ∃ d, (d < cnt ∨ d = 9) ∧ p = nI d
def syOK (p : Int32) : Prop := ∃ s, s < 2 ∧ p = nI s
theorem st_no {cnt : Nat} {p : Int32} (hc : cnt ≤ 5) (h : p < 0 ∨ nI cnt ≤ p) : ¬ stOK cnt p := by
  rintro ⟨q, hq, rfl⟩
  rcases h with h | h
  · exact nI_pos (by omega) h
  · exact nI_ge hq (by omega) h
theorem sy_no {p : Int32} (h0 : ¬ p = 0) (h1 : ¬ p = 1) : ¬ syOK p := by
  rintro ⟨s, hs, rfl⟩
  rcases (show s = 0 ∨ s = 1 by omega) with rfl | rfl
  · exact h0 rfl
  · exact h1 rfl
theorem nx_no {cnt : Nat} {p : Int32} (hc : cnt ≤ 5) (h : p < 0 ∨ nI cnt ≤ p) (h9 : ¬ p = 9) : ¬ nxOK cnt p := by
  rintro ⟨d, hd | rfl, rfl⟩
  · exact st_no hc h ⟨d, hd, rfl⟩
  · exact h9 rfl
theorem x_setT {cnt : Nat} {tm : TM} {wr mv fo words : Nat → Int32} {c0 st hd ti lo hi p1 p2 p3 p4 p5 : Int32} {Q : Int32 → (Nat → Int32) → (Nat → Int32) → (Nat → Int32) → (Nat → Int32) → Int32 → Int32 → Int32 → Int32 → Int32 → Prop} (hW : WF cnt tm) (hX : RMx cnt tm c0 wr mv fo)
    (e1 : ¬ (stOK cnt p1 ∧ nxOK cnt p5) → Q (-1001) wr mv fo words st hd ti lo hi) (e2 : (stOK cnt p1 ∧ nxOK cnt p5) → ¬ (syOK p2 ∧ syOK p3 ∧ syOK p4) → Q (-1002) wr mv fo words st hd ti lo hi)
    (k : ∀ q s a b d, q < cnt → s < 2 → a < 2 → b < 2 → (d < cnt ∨ d = 9) → p1 = nI q → p2 = nI s → p3 = nI a → p4 = nI b → p5 = nI d → ∀ w' : Nat → Int32, (∀ j, j < 313 → w' j = 0) → ∀ r : Int32, (tm (2 * q + s) = none → r = 0) → ((∃ x, tm (2 * q + s) = some x) → r = 1) → Q r (upd wr (2 * q + s) (nI a)) (upd mv (2 * q + s) (nI b)) (upd fo (2 * q + s) (nI d)) w' 0 0 0 0 0) :
    pX8_setTransition p1 p2 p3 p4 p5 (nI cnt) wr mv fo words st hd ti lo hi Q := by
  have hc5 := hW.2.1
  rcases st_cases p1 hc5 with h1 | ⟨q, hq, rfl⟩
  · exact st_out h1 ⟨fun _ => e1 (fun h => st_no hc5 h1 h.1), fun h => absurd rfl h⟩
  have main : nxOK cnt p5 → pX8_setTransition_j34 (nI q) p2 p3 p4 p5 (nI cnt) Q wr mv fo words st hd ti lo hi := by
    rintro ⟨d, hd', rfl⟩
    have ok1 : stOK cnt (nI q) ∧ nxOK cnt (nI d) := ⟨⟨q, hq, rfl⟩, d, hd', rfl⟩
    rcases sy_cases p2 with ⟨a0, a1⟩ | ⟨s, hs, rfl⟩
    · exact sy_out a0 a1 ⟨fun _ => e2 ok1 (fun h => sy_no a0 a1 h.1), fun h => absurd rfl h⟩
    refine sy_in hs ⟨fun h => absurd h n10, fun _ => ?_⟩
    rcases sy_cases p3 with ⟨a0, a1⟩ | ⟨a, ha, rfl⟩
    · exact sy_out a0 a1 ⟨fun _ => e2 ok1 (fun h => sy_no a0 a1 h.2.1), fun h => absurd rfl h⟩
    refine sy_in ha ⟨fun h => absurd h n10, fun _ => ?_⟩
    have m2 : ∀ b, b < 2 → p4 = nI b → pX8_setTransition_j63 (nI q) (nI s) (nI a) p4 (nI d) (nI cnt) Q wr mv fo words st hd ti lo hi := by
      rintro b hb rfl
      refine s_has hW hX hq hs (fun ht => ⟨fun _ => ?_, fun h => absurd rfl h⟩) (fun x ht => ⟨fun h => absurd h n10, fun _ => ?_⟩)
      · exact s_put hc5 hq hs (sx_begin (by omega) (fun w' hw => k q s a b d hq hs ha hb hd' rfl rfl rfl rfl rfl w' hw 0 (fun _ => rfl) (fun h => by obtain ⟨y, hy⟩ := h; rw [ht] at hy; cases hy)))
      · exact s_put hc5 hq hs (sx_begin (by omega) (fun w' hw => k q s a b d hq hs ha hb hd' rfl rfl rfl rfl rfl w' hw 1 (fun h => by rw [ht] at h; cases h) (fun _ => rfl)))
    refine ⟨fun h => m2 0 (by omega) h, fun h0 => ⟨fun h => m2 1 (by omega) h, fun h1 => e2 ok1 (fun h => sy_no h0 h1 h.2.2)⟩⟩
  rcases st_cases p5 hc5 with h5 | ⟨d, hd', e5⟩
  · refine st_in hc5 hq ⟨fun h => absurd h n10, fun _ => st_out h5 ⟨fun h => absurd rfl h, fun _ => ⟨fun h9 => main ⟨9, Or.inr rfl, h9⟩, fun h9 => e1 (fun h => nx_no hc5 h5 h9 h.2)⟩⟩⟩
  · subst e5
    exact st_in hc5 hq ⟨fun h => absurd h n10, fun _ => st_in hc5 hd' ⟨fun _ => main ⟨d, Or.inl hd', rfl⟩, fun h => absurd h n10⟩⟩
theorem m_setT {cnt : Nat} {tm : TM} {has wr mv nx tape on : Nat → Int32} {c0 mt ms mh p1 p2 p3 p4 p5 : Int32} {Q : Int32 → (Nat → Int32) → (Nat → Int32) → (Nat → Int32) → (Nat → Int32) → (Nat → Int32) → (Nat → Int32) → Int32 → Int32 → Int32 → Prop} (hW : WF cnt tm) (hM : RMm cnt tm c0 has wr mv nx)
    (e1 : ¬ (stOK cnt p1 ∧ nxOK cnt p5) → Q (-1001) has wr mv nx tape on mt ms mh) (e2 : (stOK cnt p1 ∧ nxOK cnt p5) → ¬ (syOK p2 ∧ syOK p3 ∧ syOK p4) → Q (-1002) has wr mv nx tape on mt ms mh)
    (k : ∀ q s a b d, q < cnt → s < 2 → a < 2 → b < 2 → (d < cnt ∨ d = 9) → p1 = nI q → p2 = nI s → p3 = nI a → p4 = nI b → p5 = nI d → ∀ tape' on' : Nat → Int32, (∀ j, j < 10003 → tape' j = 0) → (∀ j, j < 10003 → on' j = if j = 5001 then 1 else 0) → ∀ r : Int32, (tm (2 * q + s) = none → r = 0) → ((∃ x, tm (2 * q + s) = some x) → r = 1) → Q r (upd has (2 * q + s) 1) (upd wr (2 * q + s) (nI a)) (upd mv (2 * q + s) (nI b)) (upd nx (2 * q + s) (nI d)) tape' on' 0 0 0) :
    pX9_setTransition p1 p2 p3 p4 p5 (nI cnt) has wr mv nx tape on mt ms mh Q := by
  have hc5 := hW.2.1
  have hc1 := hW.1
  rcases st_cases p1 hc5 with h1 | ⟨q, hq, rfl⟩
  · exact sm_out hc1 hc5 h1 ⟨fun _ => e1 (fun h => st_no hc5 h1 h.1), fun h => absurd rfl h⟩
  have main : nxOK cnt p5 → pX9_setTransition_j28 (nI q) p2 p3 p4 p5 (nI cnt) Q has wr mv nx tape on mt ms mh := by
    rintro ⟨d, hd', rfl⟩
    have ok1 : stOK cnt (nI q) ∧ nxOK cnt (nI d) := ⟨⟨q, hq, rfl⟩, d, hd', rfl⟩
    rcases sy_cases p2 with ⟨a0, a1⟩ | ⟨s, hs, rfl⟩
    · exact symb_out a0 a1 ⟨fun _ => e2 ok1 (fun h => sy_no a0 a1 h.1), fun h => absurd rfl h⟩
    refine symb_in hs ⟨fun h => absurd h n10, fun _ => ?_⟩
    rcases sy_cases p3 with ⟨a0, a1⟩ | ⟨a, ha, rfl⟩
    · exact symb_out a0 a1 ⟨fun _ => e2 ok1 (fun h => sy_no a0 a1 h.2.1), fun h => absurd rfl h⟩
    refine symb_in ha ⟨fun h => absurd h n10, fun _ => ?_⟩
    rcases sy_cases p4 with ⟨a0, a1⟩ | ⟨b, hb, rfl⟩
    · exact symb_out a0 a1 ⟨fun h => absurd rfl h, fun _ => e2 ok1 (fun h => sy_no a0 a1 h.2.2)⟩
    refine symb_in hb ⟨fun _ => ?_, fun h => absurd h n10⟩
    rw [slot_e]
    have hi := vp_in_nI (n := 2 * q + s) (N := 10) (by omega) (by omega)
    refine ⟨hi, ?_⟩
    rw [nI_clamp (show 2 * q + s < 2 ^ 31 by omega)]
    have fin : ∀ r : Int32, (tm (2 * q + s) = none → r = 0) → ((∃ x, tm (2 * q + s) = some x) → r = 1) → pX9_setTransition_j78 (nI q) (nI s) (nI a) (nI b) (nI d) (nI cnt) Q r has wr mv nx tape on mt ms mh := by
      intro r r0 r1
      show pX9_lay ((2 : Int32) * nI q + nI s) _ _ _ _ _ _ _ _
      rw [slot_e]
      refine ⟨hi, hi, hi, hi, ?_⟩
      rw [nI_clamp (show 2 * q + s < 2 ^ 31 by omega), vnb_1]
      exact sm_begin (fun tape' on' ht ho => k q s a b d hq hs ha hb hd' rfl rfl rfl rfl rfl tape' on' ht ho r r0 r1)
    obtain ⟨g1, g2⟩ := hM.2 (2 * q + s) (by omega)
    cases ht : tm (2 * q + s) with
    | none => rw [g1 ht]; exact ⟨fun _ => fin 0 (fun _ => rfl) (fun h => by obtain ⟨y, hy⟩ := h; rw [ht] at hy; cases hy), fun h => absurd rfl h⟩
    | some x =>
      obtain ⟨x1, x2, x3⟩ := x
      rw [(g2 _ _ _ ht).1]
      exact ⟨fun h => absurd h n10, fun _ => fin 1 (fun h => by rw [ht] at h; cases h) (fun _ => rfl)⟩
  rcases st_cases p5 hc5 with h5 | ⟨d, hd', e5⟩
  · refine sm_in hc5 hq ⟨fun h => absurd h n10, fun _ => sm_out hc1 hc5 h5 ⟨fun h => absurd rfl h, fun _ => ⟨fun h9 => main ⟨9, Or.inr rfl, h9⟩, fun h9 => e1 (fun h => nx_no hc5 h5 h9 h.2)⟩⟩⟩
  · subst e5
    exact sm_in hc5 hq ⟨fun h => absurd h n10, fun _ => sm_in hc5 hd' ⟨fun _ => main ⟨d, Or.inl hd', rfl⟩, fun h => absurd h n10⟩⟩
def tmset (tm : TM) (i : Nat) (x : Option (Nat × Nat × Nat)) : TM := fun k => if k = i then x else tm k
theorem O_setTransition : Ob_setTransition Iv := by
  intro c wr mv fo words st hd ti lo hi codes len ss has wri mov nex text typ tape on mt ms mh p1 p2 p3 p4 p5 hI
  obtain ⟨cnt, tm, hW, hX, hM, hC, hT⟩ := id hI
  have ec : c = nI cnt := hX.1
  have es : ss = nI cnt := hM.1
  subst ec es
  refine x_setT hW hX (fun e => ?_) (fun e e' => ?_) (fun q s a b d hq hs ha hb hd' f1 f2 f3 f4 f5 w' hw r r0 r1 => ?_)
  · exact m_setT hW hM (fun _ => ⟨rfl, hI⟩) (fun h _ => absurd h e) (fun q s a b d hq hs ha hb hd' f1 f2 f3 f4 f5 => absurd ⟨⟨q, hq, f1⟩, d, hd', f5⟩ e)
  · exact m_setT hW hM (fun h => absurd e h) (fun _ _ => ⟨rfl, hI⟩) (fun q s a b d hq hs ha hb hd' f1 f2 f3 f4 f5 => absurd ⟨⟨s, hs, f2⟩, ⟨a, ha, f3⟩, b, hb, f4⟩ e')
  · refine m_setT hW hM (fun h => absurd ⟨⟨q, hq, f1⟩, d, hd', f5⟩ h) (fun _ h => absurd ⟨⟨s, hs, f2⟩, ⟨a, ha, f3⟩, b, hb, f4⟩ h) (fun q2 s2 a2 b2 d2 hq2 hs2 ha2 hb2 hd2 g1 g2 g3 g4 g5 tape' on' ht ho r' r0' r1' => ?_)
    have i1 : q2 = q := (nI_eq (by have := hW.2.1; omega) (by have := hW.2.1; omega)).mp (g1.symm.trans f1)
    have i2 : s2 = s := (nI_eq (by omega) (by omega)).mp (g2.symm.trans f2)
    have i3 : a2 = a := (nI_eq (by omega) (by omega)).mp (g3.symm.trans f3)
    have i4 : b2 = b := (nI_eq (by omega) (by omega)).mp (g4.symm.trans f4)
    have i5 : d2 = d := (nI_eq (by have := hW.2.1; omega) (by have := hW.2.1; omega)).mp (g5.symm.trans f5)
    subst i1 i2 i3 i4 i5
    refine ⟨?_, cnt, tmset tm (2 * q2 + s2) (some (a2, b2, d2)), ⟨hW.1, hW.2.1, ?_⟩, ⟨rfl, ?_⟩, ⟨rfl, ?_⟩, CR_0 hW.1 hw ht ho, hT⟩
    · cases htm : tm (2 * q2 + s2) with
      | none => rw [r0 htm, r0' htm]
      | some x => rw [r1 ⟨x, htm⟩, r1' ⟨x, htm⟩]
    · intro k x y z hk
      by_cases e : k = 2 * q2 + s2
      · simp only [tmset, if_pos e] at hk
        cases hk
        exact ⟨by omega, ha2, hb2, hd2⟩
      · simp only [tmset, if_neg e] at hk
        exact hW.2.2 _ _ _ _ hk
    · intro k hk
      by_cases e : k = 2 * q2 + s2
      · refine ⟨fun h => ?_, fun x y z h => ?_⟩
        · simp only [tmset, if_pos e] at h; cases h
        · simp only [tmset, if_pos e] at h
          cases h
          simp only [upd_eq, if_pos e]
          exact ⟨trivial, trivial, trivial⟩
      · simp only [tmset, if_neg e, upd_eq]
        exact hX.2 k hk
    · intro k hk
      by_cases e : k = 2 * q2 + s2
      · refine ⟨fun h => ?_, fun x y z h => ?_⟩
        · simp only [tmset, if_pos e] at h; cases h
        · simp only [tmset, if_pos e] at h
          cases h
          simp only [upd_eq, if_pos e]
          exact ⟨trivial, trivial, trivial, trivial⟩
      · simp only [tmset, if_neg e, upd_eq]
        exact hM.2 k hk
