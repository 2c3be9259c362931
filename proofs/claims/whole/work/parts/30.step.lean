/-! own: runs of steps -/
abbrev Ecf : Type := Nat × Int × (Int → Nat) × Int × Int
def hlt (tm : TM) (e : Ecf) : Prop := rd tm e.1 e.2.1 e.2.2.1 = none
def stE (tm : TM) (e : Ecf) : Ecf := match rd tm e.1 e.2.1 e.2.2.1 with
  | none => e
  | some (a, b, d) => (d, mvd e.2.1 b, wrt e.2.2.1 e.2.1 a, lmin (mvd e.2.1 b) e.2.2.2.1, lmax (mvd e.2.1 b) e.2.2.2.2)
def itE (tm : TM) (e : Ecf) : Nat → Ecf
  | 0 => e
  | n + 1 => stE tm (itE tm e n)
def CE (cnt n : Nat) (e : Ecf) : Prop := CRw cnt n e.1 e.2.1 e.2.2.1 e.2.2.2.1 e.2.2.2.2
theorem stE_some {tm : TM} {e : Ecf} {a b d : Nat} (h : rd tm e.1 e.2.1 e.2.2.1 = some (a, b, d)) : stE tm e = (d, mvd e.2.1 b, wrt e.2.2.1 e.2.1 a, lmin (mvd e.2.1 b) e.2.2.2.1, lmax (mvd e.2.1 b) e.2.2.2.2) := by
  unfold stE; rw [h]
theorem CE_step {cnt n : Nat} {tm : TM} {e : Ecf} (hW : WF cnt tm) (h : CE cnt n e) (hn : n + 1 ≤ 5000) {a b d : Nat} (hr : rd tm e.1 e.2.1 e.2.2.1 = some (a, b, d)) : CE cnt (n + 1) (stE tm e) := by
  obtain ⟨q, hd, t, lo, hi⟩ := e
  obtain ⟨hq, ha, hb, hdd⟩ := rd_some hW hr
  rw [stE_some hr]
  obtain ⟨c1, c2, c3, c4, c5, c6, c7, c8, c9, c10⟩ := h
  dsimp only at c1 c2 c3 c4 c5 c6 c7 c8 c9 c10 ⊢
  have hs : mvd hd b = hd + 1 ∨ mvd hd b = hd - 1 := by unfold mvd; split <;> omega
  unfold CE CRw
  dsimp only
  unfold lmin lmax
  refine ⟨by omega, hdd, ?_, ?_, ?_, ?_, ?_, ?_, ?_, ?_⟩
  · split <;> omega
  · split <;> omega
  · split <;> omega
  · split <;> omega
  · split <;> omega
  · split <;> omega
  · intro p
    unfold wrt
    split
    · exact ha
    · exact c9 p
  · intro p hp
    unfold wrt
    rw [if_neg]
    · refine c10 p ?_
      rcases hp with g | g
      · left
        revert g
        split <;> intro g <;> omega
      · right
        revert g
        split <;> intro g <;> omega
    · intro e
      rcases hp with g | g
      · revert g
        split <;> intro g <;> omega
      · revert g
        split <;> intro g <;> omega
theorem x_loop {cnt n s : Nat} {tm : TM} {c0 : Int32} {wr mv fo words : Nat → Int32} {e : Ecf} {Q : Int32 → (Nat → Int32) → Int32 → Int32 → Int32 → Int32 → Int32 → Prop} (hW : WF cnt tm) (hX : RMx cnt tm c0 wr mv fo) (hC : CE cnt n e) (hB : RB 5000 313 words e.2.2.1) (hs : n + s ≤ 5000)
    (k : ∀ i, i ≤ s → (∀ j, j < i → ¬ hlt tm (itE tm e j)) → (i = s ∨ hlt tm (itE tm e i)) → CE cnt (n + i) (itE tm e i) → ∀ w' : Nat → Int32, RB 5000 313 w' (itE tm e i).2.2.1 → Q (nI i) w' (nI (itE tm e i).1) (iI (itE tm e i).2.1) (nI (n + i)) (iI (itE tm e i).2.2.2.1) (iI (itE tm e i).2.2.2.2)) :
    Lp (pX8_step_B51 (nI s) (nI cnt) wr mv fo 5000 Q) (0, words, nI e.1, iI e.2.1, nI n, iI e.2.2.2.1, iI e.2.2.2.2) := by
  refine Lp.up s (fun i v => (∀ j, j < i → ¬ hlt tm (itE tm e j)) ∧ CE cnt (n + i) (itE tm e i) ∧ ∃ w' : Nat → Int32, RB 5000 313 w' (itE tm e i).2.2.1 ∧ v = (nI i, w', nI (itE tm e i).1, iI (itE tm e i).2.1, nI (n + i), iI (itE tm e i).2.2.2.1, iI (itE tm e i).2.2.2.2)) ?_ (Nat.zero_le _) ⟨fun j hj => absurd hj (Nat.not_lt_zero _), hC, words, hB, rfl⟩
  rintro i v hi ⟨hh, hCi, w', hBi, rfl⟩
  refine ⟨fun c => ?_, fun c => ?_⟩
  · have hc := (nI_leI (by omega) (by omega)).mp c
    exact k i hi hh (Or.inl (by omega)) hCi w' hBi
  · have hlt' : i < s := by
      rcases Nat.lt_or_ge i s with g | g
      · exact g
      · exact absurd (nI_le g (by omega)) c
    have hCi' := hCi
    obtain ⟨c1, c2, c3, c4, c5, c6, c7, c8, c9, c10⟩ := hCi'
    refine x_over (R := 5000) hW hX (by omega) (by omega) hBi c9 (by omega) (by omega) c2 (fun hr => ⟨fun _ => k i hi hh (Or.inr hr) hCi w' hBi, fun g => absurd g n10⟩) (fun x hr => ⟨fun g => absurd rfl g, fun _ => ?_⟩)
    obtain ⟨a, b, d⟩ := x
    refine x_adv (R := 5000) hW hX (by omega) (by omega) hBi c9 (by omega) (by omega) hr ⟨by omega, by omega⟩ ⟨by omega, by omega⟩ (by omega) (fun w2 hw2 x18 e18 => ?_)
    rw [e18, nI_1]
    have es : itE tm e (i + 1) = _ := stE_some hr
    refine ⟨hlt', fun j hj => ?_, CE_step (n := n + i) hW hCi (by omega) hr, w2, ?_, ?_⟩
    · by_cases g : j = i
      · subst g
        intro q
        unfold hlt at q
        rw [hr] at q; cases q
      · exact hh j (by omega)
    · rw [es]; exact hw2
    · rw [es]; rfl
theorem m_loop {cnt n s : Nat} {tm : TM} {c0 : Int32} {has wr mv nx tape on : Nat → Int32} {e : Ecf} {Q : Int32 → (Nat → Int32) → (Nat → Int32) → Int32 → Int32 → Int32 → Prop} (hW : WF cnt tm) (hM : RMm cnt tm c0 has wr mv nx) (hC : CE cnt n e) (hB : ∀ j : Nat, j < 10003 → tape j = nI (e.2.2.1 ((j : Int) - 5001))) (hO : ∀ j : Nat, j < 10003 → on j = if e.2.2.2.1 ≤ (j : Int) - 5001 ∧ (j : Int) - 5001 ≤ e.2.2.2.2 then 1 else 0) (hs : n + s ≤ 5000)
    (k : ∀ i, i ≤ s → (∀ j, j < i → ¬ hlt tm (itE tm e j)) → (i = s ∨ hlt tm (itE tm e i)) → ∀ tape' on' : Nat → Int32, (∀ j : Nat, j < 10003 → tape' j = nI ((itE tm e i).2.2.1 ((j : Int) - 5001))) → (∀ j : Nat, j < 10003 → on' j = if (itE tm e i).2.2.2.1 ≤ (j : Int) - 5001 ∧ (j : Int) - 5001 ≤ (itE tm e i).2.2.2.2 then 1 else 0) → Q (nI i) tape' on' (nI (n + i)) (nI (itE tm e i).1) (iI (itE tm e i).2.1)) :
    Lp (pX9_step_B40 (nI s) has wr mv nx Q) (0, tape, on, nI n, nI e.1, iI e.2.1) := by
  refine Lp.up s (fun i v => (∀ j, j < i → ¬ hlt tm (itE tm e j)) ∧ CE cnt (n + i) (itE tm e i) ∧ ∃ tape' on' : Nat → Int32, (∀ j : Nat, j < 10003 → tape' j = nI ((itE tm e i).2.2.1 ((j : Int) - 5001))) ∧ (∀ j : Nat, j < 10003 → on' j = if (itE tm e i).2.2.2.1 ≤ (j : Int) - 5001 ∧ (j : Int) - 5001 ≤ (itE tm e i).2.2.2.2 then 1 else 0) ∧ v = (nI i, tape', on', nI (n + i), nI (itE tm e i).1, iI (itE tm e i).2.1)) ?_ (Nat.zero_le _) ⟨fun j hj => absurd hj (Nat.not_lt_zero _), hC, tape, on, hB, hO, rfl⟩
  rintro i v hi ⟨hh, hCi, tape', on', hBi, hOi, rfl⟩
  refine ⟨fun c => ?_, fun c => ?_⟩
  · have hc := (nI_leI (by omega) (by omega)).mp c
    exact k i hi hh (Or.inl (by omega)) tape' on' hBi hOi
  · have hlt' : i < s := by
      rcases Nat.lt_or_ge i s with g | g
      · exact g
      · exact absurd (nI_le g (by omega)) c
    have hCi' := hCi
    obtain ⟨c1, c2, c3, c4, c5, c6, c7, c8, c9, c10⟩ := hCi'
    refine m_over hW hM hBi c9 (by omega) (by omega) c2 (fun hr => ⟨fun _ => k i hi hh (Or.inr hr) tape' on' hBi hOi, fun g => absurd g n10⟩) (fun x hr => ⟨fun g => absurd rfl g, fun _ => ?_⟩)
    obtain ⟨a, b, d⟩ := x
    refine m_adv hW hM hBi hOi c9 (by omega) (by omega) ⟨c7, c8⟩ hr (fun tape2 on2 ht2 ho2 x18 e18 => ?_)
    rw [e18, nI_1]
    have es : itE tm e (i + 1) = _ := stE_some hr
    refine ⟨hlt', fun j hj => ?_, CE_step (n := n + i) hW hCi (by omega) hr, tape2, on2, ?_, ?_, ?_⟩
    · by_cases g : j = i
      · subst g
        intro q
        unfold hlt at q
        rw [hr] at q; cases q
      · exact hh j (by omega)
    · rw [es]; exact ht2
    · rw [es]; exact ho2
    · rw [es]; rfl
theorem O_step : Ob_step Iv := by
  intro c wr mv fo words st hd ti lo hi codes len ss has wri mov nex text typ tape on mt ms mh p1 hI
  obtain ⟨cnt, tm, hW, hX, hM, ⟨n, q, h, t, l, r, hw, ⟨x1, x2, x3, x4, x5, x6⟩, ⟨m1, m2, m3, m4, m5⟩⟩, hT⟩ := id hI
  have ec : c = nI cnt := hX.1
  have es : ss = nI cnt := hM.1
  subst ec es x1 x2 x3 x4 x5 m1 m2 m3
  have hw' := hw
  obtain ⟨c1, c2, c3, c4, c5, c6, c7, c8, c9, c10⟩ := hw'
  refine ⟨fun d1 => ?_, fun d1 => ⟨fun d2 => ?_, fun d2 => ?_⟩⟩
  · exact in_lo d1 ⟨fun _ => ⟨rfl, hI⟩, fun g => absurd rfl g⟩
  · exact in_hi d2 ⟨fun _ => ⟨rfl, hI⟩, fun g => absurd rfl g⟩
  obtain ⟨s, s1, s2, rfl⟩ := rng (lo := 1) (hi := 1000) (by omega) d1 d2 (by omega)
  have eadd : nI n + nI s = nI (n + s) := nI_add n s
  rw [eadd]
  refine ⟨fun d3 => ?_, fun d3 => ?_⟩
  · have hle : n + s ≤ 5000 := (nI_leI (b := 5000) (by omega) (by omega)).mp d3
    refine x_over (R := 5000) hW hX (by omega) (by omega) x6 c9 (by omega) (by omega) c2 (fun hr => ⟨fun g => absurd g n10, fun _ => ?_⟩) (fun x hr => ⟨fun _ => ?_, fun g => absurd rfl g⟩)
    · refine in_ok d1 d2 ⟨fun g => absurd g n10, fun _ => ?_⟩
      rw [eadd]
      refine ⟨fun _ => ?_, fun g => absurd d3 g⟩
      exact m_over hW hM m4 c9 (by omega) (by omega) c2 (fun _ => ⟨fun g => absurd g n10, fun _ => ⟨rfl, hI⟩⟩) (fun x hr2 => by rw [hr] at hr2; cases hr2)
    · refine x_loop (e := (q, h, t, l, r)) hW hX hw x6 hle (fun i hi hh he hCi w2 hw2 => ?_)
      refine in_ok d1 d2 ⟨fun g => absurd g n10, fun _ => ?_⟩
      rw [eadd]
      refine ⟨fun _ => ?_, fun g => absurd d3 g⟩
      refine m_over hW hM m4 c9 (by omega) (by omega) c2 (fun hr2 => by rw [hr] at hr2; cases hr2) (fun _ _ => ⟨fun _ => ?_, fun g => absurd rfl g⟩)
      refine m_loop (e := (q, h, t, l, r)) hW hM hw m4 m5 hle (fun i' hi' hh' he' tape2 on2 ht2 ho2 => ?_)
      have hii : i' = i := by
        rcases Nat.lt_trichotomy i i' with g | g | g
        · rcases he with u | u
          · omega
          · exact absurd u (hh' i g)
        · exact g.symm
        · rcases he' with u | u
          · omega
          · exact absurd u (hh i' g)
      subst hii
      exact ⟨rfl, cnt, tm, hW, hX, hM, ⟨n + i', _, _, _, _, _, hCi, ⟨rfl, rfl, rfl, rfl, rfl, hw2⟩, ⟨rfl, rfl, rfl, ht2, ho2⟩⟩, hT⟩
  · refine in_ok d1 d2 ⟨fun g => absurd g n10, fun _ => ?_⟩
    rw [eadd]
    exact ⟨fun g => absurd g d3, fun _ => ⟨rfl, hI⟩⟩
theorem O_halted : Ob_halted Iv := by
  intro c wr mv fo words st hd ti lo hi codes len ss has wri mov nex text typ tape on mt ms mh hI
  obtain ⟨cnt, tm, hW, hX, hM, ⟨n, q, h, t, l, r, hw, ⟨x1, x2, x3, x4, x5, x6⟩, ⟨m1, m2, m3, m4, m5⟩⟩, hT⟩ := id hI
  have ec : c = nI cnt := hX.1
  have es : ss = nI cnt := hM.1
  subst ec es x1 x2 x3 x4 x5 m1 m2 m3
  obtain ⟨c1, c2, c3, c4, c5, c6, c7, c8, c9, c10⟩ := hw
  refine x_over (R := 5000) hW hX (by omega) (by omega) x6 c9 (by omega) (by omega) c2 (fun hr => ⟨isB_1, ?_⟩) (fun x hr => ⟨isB_0, ?_⟩)
  · exact m_over hW hM m4 c9 (by omega) (by omega) c2 (fun _ => ⟨isB_1, rfl, hI⟩) (fun x hr2 => by rw [hr] at hr2; cases hr2)
  · exact m_over hW hM m4 c9 (by omega) (by omega) c2 (fun hr2 => by rw [hr] at hr2; cases hr2) (fun _ _ => ⟨isB_0, rfl, hI⟩)
theorem O_cell : Ob_cell Iv := by
  intro c wr mv fo words st hd ti lo hi codes len ss has wri mov nex text typ tape on mt ms mh p1 hI
  obtain ⟨cnt, tm, hW, hX, hM, ⟨n, q, h, t, l, r, hw, ⟨x1, x2, x3, x4, x5, x6⟩, ⟨m1, m2, m3, m4, m5⟩⟩, hT⟩ := id hI
  obtain ⟨c1, c2, c3, c4, c5, c6, c7, c8, c9, c10⟩ := hw
  obtain ⟨z, za, zb, rfl⟩ := iI_of p1
  have e5 : (5000 : Int32) = iI 5000 := rfl
  have em : (-5000 : Int32) = iI (-5000) := rfl
  by_cases hz : -5000 ≤ z ∧ z ≤ 5000
  · refine x_read (R := 5000) (by omega) (by omega) x6 c9 (by omega) (by omega) ?_
    refine in_ok ?_ ?_ ⟨fun g => absurd g n10, fun _ => ?_⟩
    · rw [em, iI_lt ⟨za, zb⟩ ⟨by omega, by omega⟩]; omega
    · rw [e5, iI_lt ⟨by omega, by omega⟩ ⟨za, zb⟩]; omega
    · rw [at_e]
      refine ⟨iI_in (by omega) (by omega) (by omega), ?_, hI⟩
      rw [iI_clamp (by omega) (by omega), m4 _ (by omega)]
      congr 2
      omega
  · have fin : pX9_cell (iI z) tape (fun t => (0 : Int32) = t ∧ Iv c wr mv fo words st hd ti lo hi codes len ss has wri mov nex text typ tape on mt ms mh) := by
      by_cases g : z < -5000
      · exact in_lo (by rw [em, iI_lt ⟨za, zb⟩ ⟨by omega, by omega⟩]; exact g) ⟨fun _ => ⟨rfl, hI⟩, fun g => absurd rfl g⟩
      · exact in_hi (by rw [e5, iI_lt ⟨by omega, by omega⟩ ⟨za, zb⟩]; omega) ⟨fun _ => ⟨rfl, hI⟩, fun g => absurd rfl g⟩
    refine ⟨fun _ => fin, fun d1 => ⟨fun d2 => ?_, fun _ => fin⟩⟩
    exfalso
    rw [show (-(5000 : Int32)) = iI (-5000) from rfl, iI_lt ⟨za, zb⟩ ⟨by omega, by omega⟩] at d1
    rw [e5, iI_le ⟨za, zb⟩ ⟨by omega, by omega⟩] at d2
    omega
