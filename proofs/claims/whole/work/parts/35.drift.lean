/-! own: translated cycles -/
def sg (w : Bool) (x : Int) : Int := if w = true then x else -x
def sI (w : Bool) : Int32 := if w = true then 1 else -1
theorem sI_mul (w : Bool) (x : Int) : sI w * iI x = iI (sg w x) := by
  cases w
  · show (-1 : Int32) * iI x = iI (-x)
    rw [iI_m1, iI_mul]; congr 1; omega
  · show (1 : Int32) * iI x = iI x
    rw [iI_1, iI_mul]; congr 1; omega
theorem sg_t (x : Int) : sg true x = x := rfl
theorem sg_f (x : Int) : sg false x = -x := rfl
theorem sg_sg (w : Bool) (x : Int) : sg w (sg w x) = x := by cases w <;> simp only [sg_t, sg_f] <;> omega
def hdq (tm : TM) (i : Nat) : Int := (cf tm i).2.1
def tpq (tm : TM) (i : Nat) : Int → Nat := (cf tm i).2.2.1
def Rec (tm : TM) (w : Bool) (i : Nat) : Prop := ∀ j, j < i → sg w (hdq tm j) < sg w (hdq tm i)
/-- tape pieces alike from the way's smallest place on -/
def Sft (tm : TM) (w : Bool) (t1 t2 : Nat) (S : Int) : Prop := ∀ c : Int, S ≤ c → c ≤ sg w (hdq tm t1) → tpq tm t1 (sg w c) = tpq tm t2 (sg w c + (hdq tm t2 - hdq tm t1))
def Dr (tm : TM) (w : Bool) (t1 t2 : Nat) : Prop := Rec tm w t1 ∧ (cf tm t1).1 = (cf tm t2).1 ∧ ∀ c : Int, (∃ j, t1 ≤ j ∧ j ≤ t2 ∧ sg w (hdq tm j) ≤ c) → c ≤ sg w (hdq tm t1) → tpq tm t1 (sg w c) = tpq tm t2 (sg w c + (hdq tm t2 - hdq tm t1))
def Df (tm : TM) (w : Bool) (t1 t2 : Nat) : Prop := Rec tm w t2 ∧ Dr tm w t1 t2
/-- S is the smallest of the way's places at the times from t1 to t2 -/
def Low (tm : TM) (w : Bool) (t1 t2 : Nat) (S : Int) : Prop := (∀ j, t1 ≤ j → j ≤ t2 → S ≤ sg w (hdq tm j)) ∧ ∃ j, t1 ≤ j ∧ j ≤ t2 ∧ sg w (hdq tm j) = S
theorem Dr_low {tm : TM} {w : Bool} {t1 t2 : Nat} {S : Int} (h : Low tm w t1 t2 S) : Dr tm w t1 t2 ↔ (Rec tm w t1 ∧ (cf tm t1).1 = (cf tm t2).1 ∧ Sft tm w t1 t2 S) := by
  obtain ⟨h1, j0, j1, j2, j3⟩ := h
  constructor
  · rintro ⟨a, b, c⟩
    exact ⟨a, b, fun x x1 x2 => c x ⟨j0, j1, j2, by omega⟩ x2⟩
  · rintro ⟨a, b, c⟩
    refine ⟨a, b, fun x x1 x2 => c x ?_ x2⟩
    obtain ⟨j, y1, y2, y3⟩ := x1
    have := h1 j y1 y2
    omega
theorem cf_b {cnt L i : Nat} {tm : TM} (hW : WF cnt tm) (hn : nh tm L) (hL : L ≤ 200) (hi : i ≤ L) (w : Bool) : -200 ≤ hdq tm i ∧ hdq tm i ≤ 200 ∧ -200 ≤ sg w (hdq tm i) ∧ sg w (hdq tm i) ≤ 200 := by
  obtain ⟨a, b, -⟩ := cf_h hW hn hL hi
  have a' : -200 ≤ hdq tm i := a
  have b' : hdq tm i ≤ 200 := b
  cases w <;> simp only [sg_t, sg_f] <;> omega
theorem x_rec {L i : Nat} {tm : TM} {w : Bool} {sr hr rr lr tr : Nat → Int32} {Q : Int32 → Prop} (hL : L ≤ 200) (hH : HX tm L sr hr rr lr tr) (hi : i ≤ L) (k1 : Rec tm w i → Q 1) (k0 : ¬ Rec tm w i → Q 0) : pX3_isRecord (nI i) (sI w) rr lr Q := by
  obtain ⟨-, -, ⟨r1, r0⟩, ⟨l1, l0⟩, -⟩ := hH i hi
  have hin : vp_in (nI i) 201 := vp_in_nI (by omega) (by omega)
  refine ⟨fun c => absurd c (nI_pos (by omega)), fun _ => ⟨fun _ => ?_, fun c => absurd (nI_le (b := 200) (by omega) (by omega)) c⟩⟩
  rw [nI_clamp (show i < 2 ^ 31 by omega)]
  cases w with
  | true =>
    have e : Rec tm true i ↔ RecR tm i := Iff.rfl
    refine ⟨fun c => absurd rfl c, fun _ => ⟨hin, ?_⟩⟩
    by_cases g : RecR tm i
    · rw [r1 g]; exact ⟨isB_1, k1 (e.mpr g)⟩
    · rw [r0 g]; exact ⟨isB_0, k0 (fun q => g (e.mp q))⟩
  | false =>
    have e : Rec tm false i ↔ RecL tm i := by
      constructor
      · intro q j hj
        have := q j hj
        simp only [sg_f] at this
        show (cf tm i).2.1 < (cf tm j).2.1
        unfold hdq at this
        omega
      · intro q j hj
        have : (cf tm i).2.1 < (cf tm j).2.1 := q j hj
        simp only [sg_f]
        unfold hdq
        omega
    refine ⟨fun _ => ⟨hin, ?_⟩, fun c => absurd c (by decide)⟩
    by_cases g : RecL tm i
    · rw [l1 g]; exact ⟨isB_1, k1 (e.mpr g)⟩
    · rw [l0 g]; exact ⟨isB_0, k0 (fun q => g (e.mp q))⟩
theorem x_sym {cnt L i : Nat} {tm : TM} {z : Int} {sr hr rr lr tr : Nat → Int32} {Q : Int32 → Prop} (hW : WF cnt tm) (hn : nh tm L) (hL : L ≤ 200) (hH : HX tm L sr hr rr lr tr) (hi : i ≤ L) (hz : -1000000 ≤ z ∧ z ≤ 1000000) (k : Q (nI (tpq tm i z))) : pX3_symbolAt (nI i) (iI z) tr Q := by
  obtain ⟨-, -, -, i4, i5⟩ := cf_h hW hn hL hi
  obtain ⟨-, -, -, -, bi⟩ := hH i hi
  have out : z < -200 ∨ 200 < z → Q 0 := fun g => by
    have e : tpq tm i z = 0 := i5 z g
    rw [e] at k; exact k
  refine ⟨fun c => absurd c (nI_pos (by omega)), fun _ => ⟨fun c => absurd c (nI_nlt (a := 200) (by omega) (by omega)), fun _ => ⟨fun c => out ?_, fun c => ⟨fun c2 => ?_, fun c2 => out ?_⟩⟩⟩⟩
  · rw [show (-200 : Int32) = iI (-200) from rfl, iI_lt ⟨by omega, by omega⟩ ⟨by omega, by omega⟩] at c
    exact Or.inl c
  · rw [show (-200 : Int32) = iI (-200) from rfl, iI_lt ⟨by omega, by omega⟩ ⟨by omega, by omega⟩] at c
    rw [show (200 : Int32) = iI 200 from rfl, iI_le ⟨by omega, by omega⟩ ⟨by omega, by omega⟩] at c2
    have e1 : iI z + 200 = nI (z + 200).toNat := by
      rw [show (200 : Int32) = iI 200 from rfl, iI_add, iI_nat]; congr 1; omega
    have e2 : (13 : Int32) * nI i = nI (13 * i) := by rw [show (13 : Int32) = nI 13 from rfl, pk_mul]
    rw [e1, e2]
    refine x_bit (by omega) (by omega) (by omega) (by omega) ?_
    have e3 := bi (z + 200).toNat (by omega)
    dsimp only at e3
    rw [e3, show (((z + 200).toNat : Nat) : Int) - 200 = z by omega, cellof (i4 z)]
    exact k
  · rw [show (200 : Int32) = iI 200 from rfl, iI_le ⟨by omega, by omega⟩ ⟨by omega, by omega⟩] at c2
    right; omega
theorem sg_b (w : Bool) {c : Int} (h : -400 ≤ c ∧ c ≤ 400) : -400 ≤ sg w c ∧ sg w c ≤ 400 := by cases w <;> simp only [sg_t, sg_f] <;> omega
theorem x_shift {cnt L t1 t2 : Nat} {tm : TM} {w : Bool} {S : Int} {sr hr rr lr tr : Nat → Int32} {Q : Int32 → Prop} (hW : WF cnt tm) (hn : nh tm L) (hL : L ≤ 200) (hH : HX tm L sr hr rr lr tr) (h1 : t1 ≤ L) (h2 : t2 ≤ L) (hS : -200 ≤ S ∧ S ≤ sg w (hdq tm t1)) (k1 : Sft tm w t1 t2 S → Q 1) (k0 : ¬ Sft tm w t1 t2 S → Q 0) : pX3_isShifted (nI t1) (nI t2) (sI w) (iI S) hr tr Q := by
  have b1 := cf_b hW hn hL h1 w
  have b2 := cf_b hW hn hL h2 w
  have e1 : hr t1 = iI (hdq tm t1) := (hH t1 h1).2.1
  have e2 : hr t2 = iI (hdq tm t2) := (hH t2 h2).2.1
  refine x_headAt (by omega) (x_headAt (by omega) ?_)
  rw [e1, e2]
  intro x5 e5
  rw [iI_sub] at e5
  subst e5
  refine x_headAt (by omega) ?_
  rw [e1]
  intro x8 e8
  rw [sI_mul] at e8
  subst e8
  refine Lp.up (sg w (hdq tm t1) - S + 1).toNat (fun i v => v = iI (sg w (hdq tm t1) - i) ∧ ∀ c : Int, sg w (hdq tm t1) - i < c → c ≤ sg w (hdq tm t1) → tpq tm t1 (sg w c) = tpq tm t2 (sg w c + (hdq tm t2 - hdq tm t1))) ?_ (Nat.zero_le _) ⟨by congr 1; omega, fun c c1 c2 => absurd c1 (by omega)⟩
  rintro i v hi ⟨rfl, hc⟩
  refine ⟨fun c => k1 (fun x x1 x2 => hc x ?_ x2), fun c => ?_⟩
  · rw [iI_lt ⟨by omega, by omega⟩ ⟨by omega, by omega⟩] at c
    omega
  · rw [iI_lt ⟨by omega, by omega⟩ ⟨by omega, by omega⟩] at c
    intro x10 e10
    rw [sI_mul] at e10
    subst e10
    have b3 := sg_b w (c := sg w (hdq tm t1) - i) ⟨by omega, by omega⟩
    refine x_sym hW hn hL hH h1 ⟨by omega, by omega⟩ ?_
    rw [iI_add]
    refine x_sym hW hn hL hH h2 ⟨by omega, by omega⟩ ?_
    have l1 := (cf_h hW hn hL h1).2.2.2.1 (sg w (sg w (hdq tm t1) - i))
    have l2 := (cf_h hW hn hL h2).2.2.2.1 (sg w (sg w (hdq tm t1) - i) + (hdq tm t2 - hdq tm t1))
    have l1' : tpq tm t1 (sg w (sg w (hdq tm t1) - i)) < 2 := l1
    have l2' : tpq tm t2 (sg w (sg w (hdq tm t1) - i) + (hdq tm t2 - hdq tm t1)) < 2 := l2
    refine ⟨fun g => ?_, fun g => k0 (fun hs => g ?_)⟩
    · have g' := (nI_eq (by omega) (by omega)).mp g
      intro x16 e16
      rw [iI_m1, iI_add] at e16
      refine ⟨by omega, by rw [e16]; congr 1; omega, fun x x1 x2 => ?_⟩
      by_cases q : x = sg w (hdq tm t1) - i
      · rw [q]; exact g'
      · exact hc x (by omega) x2
    · rw [hs (sg w (hdq tm t1) - i) (by omega) (by omega)]
theorem low_one {tm : TM} {w : Bool} {t : Nat} : Low tm w t t (sg w (hdq tm t)) := ⟨fun j h1 h2 => by rw [show j = t by omega]; exact Int.le_refl _, t, Nat.le_refl _, Nat.le_refl _, rfl⟩
theorem low_step {tm : TM} {w : Bool} {t1 t2 : Nat} {S : Int} (h : Low tm w (t1 + 1) t2 S) (ht : t1 < t2) : Low tm w t1 t2 (if sg w (hdq tm t1) < S then sg w (hdq tm t1) else S) := by
  obtain ⟨h1, j0, j1, j2, j3⟩ := h
  refine ⟨fun j a b => ?_, ?_⟩
  · by_cases e : j = t1
    · subst e; split <;> omega
    · have := h1 j (by omega) b
      split <;> omega
  · by_cases c : sg w (hdq tm t1) < S
    · rw [if_pos c]; exact ⟨t1, Nat.le_refl _, by omega, rfl⟩
    · rw [if_neg c]; exact ⟨j0, by omega, j2, j3⟩
theorem x_driftStart {cnt L t2 : Nat} {tm : TM} {w : Bool} {sr hr rr lr tr : Nat → Int32} {Q : Int32 → Prop} (hW : WF cnt tm) (hn : nh tm L) (hL : L ≤ 200) (hH : HX tm L sr hr rr lr tr) (h2 : t2 ≤ L) (k1 : ∀ t1, t1 < t2 → Df tm w t1 t2 → (∀ j, t1 < j → j < t2 → ¬ Df tm w j t2) → Q (nI t1)) (k0 : (∀ j, j < t2 → ¬ Df tm w j t2) → Q (-1)) : pX3_driftStart (nI t2) (sI w) sr hr rr lr tr Q := by
  refine x_rec hL hH h2 (fun hr2 => ⟨fun _ => ?_, fun g => absurd g n10⟩) (fun hr2 => ⟨fun g => absurd rfl g, fun _ => k0 (fun j _ hd => hr2 hd.1)⟩)
  have e2 : hr t2 = iI (hdq tm t2) := (hH t2 h2).2.1
  refine x_headAt (by omega) ?_
  rw [e2]
  intro x6 e6
  rw [sI_mul] at e6
  subst e6
  intro x7 e7
  rw [iI_nat, iI_1, iI_sub] at e7
  subst e7
  refine Lp.up t2 (fun i v => ∃ S : Int, v = (iI S, iI ((t2 : Int) - 1 - i)) ∧ Low tm w (t2 - i) t2 S ∧ ∀ j, t2 ≤ j + i → j < t2 → ¬ Df tm w j t2) ?_ (Nat.zero_le _) ⟨sg w (hdq tm t2), by rw [show (t2 : Int) - 1 - ((0 : Nat) : Int) = (t2 : Int) - 1 by omega], low_one (t := t2), fun j a b => absurd a (by omega)⟩
  rintro i v hi ⟨S, rfl, hS, hj⟩
  have hSb : -200 ≤ S ∧ S ≤ 200 := by
    obtain ⟨-, j0, j1, j2, j3⟩ := hS
    have := cf_b hW hn hL (show j0 ≤ L by omega) w
    omega
  refine ⟨fun c => k0 (fun j hj2 => hj j ?_ hj2), fun c => ?_⟩
  · rw [iI_0, iI_lt ⟨by omega, by omega⟩ ⟨by omega, by omega⟩] at c
    omega
  · rw [iI_0, iI_lt ⟨by omega, by omega⟩ ⟨by omega, by omega⟩] at c
    obtain ⟨t1, ht1⟩ : ∃ t1, t1 = t2 - 1 - i := ⟨_, rfl⟩
    have ev : iI ((t2 : Int) - 1 - i) = nI t1 := by rw [iI_nat, ht1]; congr 1; omega
    have hl1 : t1 < t2 := by omega
    rw [ev]
    have e1 : hr t1 = iI (hdq tm t1) := (hH t1 (by omega)).2.1
    have b1 := cf_b hW hn hL (show t1 ≤ L by omega) w
    refine x_headAt (by omega) ?_
    rw [e1, sI_mul]
    intro x11 e11
    rw [iI_ite ⟨by omega, by omega⟩ ⟨by omega, by omega⟩] at e11
    have hS2 : Low tm w t1 t2 (if sg w (hdq tm t1) < S then sg w (hdq tm t1) else S) := low_step (by rw [show t1 + 1 = t2 - i by omega]; exact hS) hl1
    generalize hS' : (if sg w (hdq tm t1) < S then sg w (hdq tm t1) else S) = S' at e11 hS2
    subst e11
    have hS'b : -200 ≤ S' ∧ S' ≤ sg w (hdq tm t1) := by
      rw [← hS']
      split <;> omega
    have nx : ¬ Df tm w t1 t2 → pX3_driftStart_j81 (nI t2) (sI w) sr hr rr lr tr Q (fun b => i < t2 ∧ ∃ S : Int, b = (iI S, iI ((t2 : Int) - 1 - ((i + 1 : Nat) : Int))) ∧ Low tm w (t2 - (i + 1)) t2 S ∧ ∀ j, t2 ≤ j + (i + 1) → j < t2 → ¬ Df tm w j t2) (iI S') (nI t1) := by
      intro hno x15 e15
      rw [← ev, iI_m1, iI_add] at e15
      refine ⟨by omega, S', by rw [e15]; congr 2; omega, by rw [show t2 - (i + 1) = t1 by omega]; exact hS2, fun j a b => ?_⟩
      by_cases q : j = t1
      · subst q; exact hno
      · exact hj j (by omega) b
    refine x_rec hL hH (by omega) (fun hr1 => ⟨fun g => absurd g n10, fun _ => ?_⟩) (fun hr1 => ⟨fun _ => nx (fun hd => hr1 hd.2.1), fun g => absurd rfl g⟩)
    refine x_stateAt (by omega) (x_stateAt (by omega) ?_)
    rw [(hH t1 (by omega)).1, (hH t2 h2).1]
    have q1 := (cf_h hW hn hL (show t1 ≤ L by omega)).2.2.1
    have q2 := (cf_h hW hn hL h2).2.2.1
    refine ⟨fun c => nx (fun hd => c (by rw [hd.2.2.1])), fun c => ?_⟩
    have hq := (nI_eq (by omega) (by omega)).mp c
    refine x_shift hW hn hL hH (by omega) h2 hS'b (fun hs => ⟨fun g => absurd g n10, fun _ => k1 t1 hl1 ⟨hr2, (Dr_low hS2).mpr ⟨hr1, hq, hs⟩⟩ (fun j a b => hj j (by omega) b)⟩) (fun hs => ⟨fun _ => nx (fun hd => hs ((Dr_low hS2).mp hd.2).2.2), fun g => absurd rfl g⟩)
theorem rec_both {tm : TM} {t : Nat} (ht : 1 ≤ t) (h1 : Rec tm true t) (h2 : Rec tm false t) : False := by
  have a := h1 0 (by omega)
  have b := h2 0 (by omega)
  simp only [sg_t, sg_f] at a b
  omega
/-- a drift that is found: the first of its second times, then the last of its first times -/
def DfX (tm : TM) (w : Bool) (t1 t2 : Nat) : Prop := t1 < t2 ∧ Df tm w t1 t2 ∧ (∀ j, t1 < j → j < t2 → ¬ Df tm w j t2) ∧ ∀ w' a b, a < b → b < t2 → ¬ Df tm w' a b
theorem DfX_one {tm : TM} {w w' : Bool} {t1 t2 s1 s2 : Nat} (h : DfX tm w t1 t2) (h' : DfX tm w' s1 s2) : w = w' ∧ t1 = s1 ∧ t2 = s2 := by
  obtain ⟨a1, a2, a3, a4⟩ := h
  obtain ⟨b1, b2, b3, b4⟩ := h'
  have e2 : t2 = s2 := by
    rcases Nat.lt_trichotomy t2 s2 with q | q | q
    · exact absurd a2 (b4 _ _ _ a1 q)
    · exact q
    · exact absurd b2 (a4 _ _ _ b1 q)
  subst e2
  have ew : w = w' := by
    cases w <;> cases w'
    · rfl
    · exact (rec_both (by omega) b2.1 a2.1).elim
    · exact (rec_both (by omega) a2.1 b2.1).elim
    · rfl
  subst ew
  refine ⟨rfl, ?_, rfl⟩
  rcases Nat.lt_trichotomy t1 s1 with q | q | q
  · exact absurd b2 (a3 _ q b1)
  · exact q
  · exact absurd a2 (b3 _ q a1)
theorem x_findDrift {cnt L : Nat} {tm : TM} {sr hr rr lr tr : Nat → Int32} {e0 l0 : Int32} {Q : Int32 → Int32 → Int32 → Prop} (hW : WF cnt tm) (hn : nh tm L) (hL : L ≤ 200) (hH : HX tm L sr hr rr lr tr) (k0 : (∀ w a b, a < b → b ≤ L → ¬ Df tm w a b) → Q 0 e0 l0) (k1 : ∀ w t1 t2, t2 ≤ L → DfX tm w t1 t2 → Q 1 (nI t1) (nI t2)) : pX3_findDrift sr hr rr lr tr (nI L) e0 l0 Q := by
  refine Lp.up (L + 1) (fun i v => v = nI i ∧ 1 ≤ i ∧ ∀ w a b, a < b → b < i → ¬ Df tm w a b) ?_ (i0 := 1) (by omega) ⟨rfl, by omega, fun w a b h1 h2 => absurd h1 (by omega)⟩
  rintro i v hi ⟨rfl, hi1, hno⟩
  refine ⟨fun c => k0 (fun w a b h1 h2 => hno w a b h1 ?_), fun c => ?_⟩
  · have := (nI_ltI (by omega) (by omega)).mp c
    omega
  · have hiL : i ≤ L := by
      rcases Nat.lt_or_ge L i with q | q
      · exact absurd (nI_lt q (by omega)) c
      · exact q
    have fin : ∀ w t1, t1 < i → Df tm w t1 i → (∀ j, t1 < j → j < i → ¬ Df tm w j i) → Q 1 (nI t1) (nI i) := fun w t1 a b c => k1 w t1 i hiL ⟨a, b, c, hno⟩
    refine x_driftStart (w := true) hW hn hL hH hiL (fun t1 a1 a2 a3 => ?_) (fun hr0 => ?_)
    · refine x_driftStart (w := false) hW hn hL hH hiL (fun s1 b1 b2 b3 => (rec_both hi1 a2.1 b2.1).elim) (fun hl0 => ⟨fun _ => ?_, fun g => absurd g (nI_m1 (by omega))⟩)
      intro x7 e7
      rw [if_neg (fun g => nI_m1 (a := t1) (by omega) (by
        exfalso
        rw [iI_nat, iI_m1, iI_lt ⟨by omega, by omega⟩ ⟨by omega, by omega⟩] at g
        omega))] at e7
      subst e7
      exact fin true t1 a1 a2 a3
    · refine x_driftStart (w := false) hW hn hL hH hiL (fun s1 b1 b2 b3 => ⟨fun g => absurd rfl g, fun _ => ⟨fun g => absurd g (nI_m1 (by omega)), fun _ => ?_⟩⟩) (fun hl0 => ⟨fun g => absurd rfl g, fun _ => ⟨fun _ => ?_, fun g => absurd rfl g⟩⟩)
      · intro x7 e7
        rw [if_pos (by rw [iI_nat, iI_m1, iI_lt ⟨by omega, by omega⟩ ⟨by omega, by omega⟩]; omega)] at e7
        subst e7
        exact fin false s1 b1 b2 b3
      · intro x9 e9
        rw [e9, nI_1]
        refine ⟨by omega, rfl, by omega, fun w a b h1 h2 => ?_⟩
        by_cases q : b = i
        · subst q
          cases w
          · exact hl0 a h1
          · exact hr0 a h1
        · exact hno w a b h1 (by omega)
