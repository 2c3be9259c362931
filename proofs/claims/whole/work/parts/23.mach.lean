/-! own: the invariant between class and reference -/
abbrev TM : Type := Nat → Option (Nat × Nat × Nat)
def WF (cnt : Nat) (tm : TM) : Prop := 1 ≤ cnt ∧ cnt ≤ 5 ∧ ∀ k a b c, tm k = some (a, b, c) → k < 2 * cnt ∧ a < 2 ∧ b < 2 ∧ (c < cnt ∨ c = 9)
def RMx (cnt : Nat) (tm : TM) (count : Int32) (wr mv fo : Nat → Int32) : Prop := count = nI cnt ∧ ∀ k, k < 10 → (tm k = none → fo k = -1) ∧ ∀ a b c, tm k = some (a, b, c) → wr k = nI a ∧ mv k = nI b ∧ fo k = nI c
def RMm (cnt : Nat) (tm : TM) (states : Int32) (hs wr mv nx : Nat → Int32) : Prop := states = nI cnt ∧ ∀ k, k < 10 → (tm k = none → hs k = 0) ∧ ∀ a b c, tm k = some (a, b, c) → hs k = 1 ∧ wr k = nI a ∧ mv k = nI b ∧ nx k = nI c
/-- a run's state in both: time n, state q, head h, tape t, the cells lo .. hi that the head has been on -/
def CRw (cnt n q : Nat) (h : Int) (t : Int → Nat) (lo hi : Int) : Prop := n ≤ 5000 ∧ (q < cnt ∨ q = 9) ∧ -(n : Int) ≤ lo ∧ lo ≤ 0 ∧ 0 ≤ hi ∧ hi ≤ n ∧ lo ≤ h ∧ h ≤ hi ∧ (∀ p, t p < 2) ∧ (∀ p, p < lo ∨ hi < p → t p = 0)
/-- bits of words against a tape, cell p at bit p + r -/
def RB (r : Int) (n : Nat) (words : Nat → Int32) (t : Int → Nat) : Prop := ∀ j : Nat, j < 32 * n → bt (words (j / 32)) (j % 32) = decide (t ((j : Int) - r) = 1)
def CRx (n q : Nat) (h : Int) (t : Int → Nat) (lo hi : Int) (words : Nat → Int32) (state head time lowest highest : Int32) : Prop := time = nI n ∧ state = nI q ∧ head = iI h ∧ lowest = iI lo ∧ highest = iI hi ∧ RB 5000 313 words t
def CRm (n q : Nat) (h : Int) (t : Int → Nat) (lo hi : Int) (tape on : Nat → Int32) (time state head : Int32) : Prop := time = nI n ∧ state = nI q ∧ head = iI h ∧ (∀ j : Nat, j < 10003 → tape j = nI (t ((j : Int) - 5001))) ∧ ∀ j : Nat, j < 10003 → on j = if lo ≤ (j : Int) - 5001 ∧ (j : Int) - 5001 ≤ hi then 1 else 0
def CR (cnt : Nat) (words : Nat → Int32) (state head time lowest highest : Int32) (tape on : Nat → Int32) (mtime mstate mhead : Int32) : Prop := ∃ (n q : Nat) (h : Int) (t : Int → Nat) (lo hi : Int), CRw cnt n q h t lo hi ∧ CRx n q h t lo hi words state head time lowest highest ∧ CRm n q h t lo hi tape on mtime mstate mhead
def TR (codes : Nat → Int32) (length : Int32) (text : Nat → Int32) (typed : Int32) : Prop := ∃ len : Nat, len ≤ 40 ∧ length = nI len ∧ typed = nI len ∧ ∀ j, j < len → codes j = text j
def Iv : IvT := fun c wr mv fo words state head time lo hi codes length states has write move next text typed tape on mtime mstate mhead => ∃ (cnt : Nat) (tm : TM), WF cnt tm ∧ RMx cnt tm c wr mv fo ∧ RMm cnt tm states has write move next ∧ CR cnt words state head time lo hi tape on mtime mstate mhead ∧ TR codes length text typed
/-! ranges -/
theorem in_lo {p lo hi : Int32} {K : Int32 → Prop} (c : p < lo) (k : K 0) : pX9_in p lo hi K := ⟨fun _ => k, fun h => absurd c h⟩
theorem in_hi {p lo hi : Int32} {K : Int32 → Prop} (c : hi < p) (k : K 0) : pX9_in p lo hi K := ⟨fun _ => k, fun _ => ⟨fun _ => k, fun h => absurd c h⟩⟩
theorem in_ok {p lo hi : Int32} {K : Int32 → Prop} (c1 : ¬ p < lo) (c2 : ¬ hi < p) (k : K 1) : pX9_in p lo hi K := ⟨fun h => absurd h c1, fun _ => ⟨fun h => absurd h c2, fun _ => k⟩⟩
theorem nle_lt {a b : Int32} (h : ¬ a ≤ b) : b < a := Int32.not_le.mp h
theorem le_nlt {a b : Int32} (h : a ≤ b) : ¬ b < a := fun q => by rw [Int32.le_iff_toInt_le] at h; rw [Int32.lt_iff_toInt_lt] at q; omega
theorem nlt_le {a b : Int32} (h : ¬ a < b) : b ≤ a := Int32.not_lt.mp h
theorem rng {x : Int32} {lo hi : Nat} (hh : hi < 2147483648) (h1 : ¬ x < nI lo) (h2 : ¬ nI hi < x) (hlo : lo ≤ hi) : ∃ j : Nat, lo ≤ j ∧ j ≤ hi ∧ x = nI j := by
  obtain ⟨z, a, b, rfl⟩ := iI_of x
  rw [iI_nat, iI_lt ⟨a, b⟩ ⟨by omega, by omega⟩] at h1
  rw [iI_nat, iI_lt ⟨by omega, by omega⟩ ⟨a, b⟩] at h2
  refine ⟨z.toNat, by omega, by omega, ?_⟩
  rw [iI_nat]
  congr 1
  omega
/-- states: in both, a number below the count, or not -/
theorem st_in {q cnt : Nat} (hc : cnt ≤ 5) (hq : q < cnt) {Q : Int32 → Prop} (k : Q 1) : pX5_exists (nI q) (nI cnt) Q := ⟨fun h => absurd h (nI_pos (by omega)), fun _ => ⟨fun h => absurd h (nI_ge hq (by omega)), fun _ => k⟩⟩
theorem st_out {p : Int32} {cnt : Nat} (h : p < 0 ∨ nI cnt ≤ p) {Q : Int32 → Prop} (k : Q 0) : pX5_exists p (nI cnt) Q := ⟨fun _ => k, fun c => ⟨fun _ => k, fun c2 => by rcases h with h | h; exact absurd h c; exact absurd h c2⟩⟩
theorem sm_in {q cnt : Nat} (hc : cnt ≤ 5) (hq : q < cnt) {Q : Int32 → Prop} (k : Q 1) : pX9_isState (nI q) (nI cnt) Q := by
  refine in_ok (nI_pos (by omega)) ?_ ⟨isB_1, k⟩
  rw [show (1 : Int32) = nI 1 from rfl, pk_sub (by omega)]
  exact nI_nlt (by omega) (by omega)
theorem sm_out {p : Int32} {cnt : Nat} (hc1 : 1 ≤ cnt) (hc : cnt ≤ 5) (h : p < 0 ∨ nI cnt ≤ p) {Q : Int32 → Prop} (k : Q 0) : pX9_isState p (nI cnt) Q := by
  rcases h with h | h
  · exact in_lo h ⟨isB_0, k⟩
  · refine in_hi ?_ ⟨isB_0, k⟩
    rw [show (1 : Int32) = nI 1 from rfl, pk_sub (by omega)]
    obtain ⟨z, a, b, rfl⟩ := iI_of p
    rw [iI_nat, iI_le ⟨by omega, by omega⟩ ⟨a, b⟩] at h
    rw [iI_nat, iI_lt ⟨by omega, by omega⟩ ⟨a, b⟩]
    omega
theorem st_cases (p : Int32) {cnt : Nat} (hc : cnt ≤ 5) : (p < 0 ∨ nI cnt ≤ p) ∨ ∃ q, q < cnt ∧ p = nI q := by
  rcases pk_ix p (n := cnt) (by omega) with h | h | h
  · exact Or.inl (Or.inl h)
  · exact Or.inl (Or.inr h)
  · exact Or.inr h
theorem sy_cases (p : Int32) : (¬ p = 0 ∧ ¬ p = 1) ∨ ∃ s, s < 2 ∧ p = nI s := by
  by_cases h0 : p = 0
  · exact Or.inr ⟨0, by omega, h0⟩
  · by_cases h1 : p = 1
    · exact Or.inr ⟨1, by omega, h1⟩
    · exact Or.inl ⟨h0, h1⟩
theorem sy_in {s : Nat} (hs : s < 2) {Q : Int32 → Prop} (k : Q 1) : pX8_isSymbol (nI s) Q := by
  rcases (show s = 0 ∨ s = 1 by omega) with rfl | rfl
  · exact ⟨fun _ => k, fun h => absurd rfl h⟩
  · exact ⟨fun _ => k, fun _ => ⟨fun h => absurd rfl h, fun _ => k⟩⟩
theorem sy_out {p : Int32} (h0 : ¬ p = 0) (h1 : ¬ p = 1) {Q : Int32 → Prop} (k : Q 0) : pX8_isSymbol p Q := ⟨fun h => absurd h h0, fun _ => ⟨fun _ => k, fun h => absurd h h1⟩⟩
theorem symb_in {s : Nat} (hs : s < 2) {Q : Int32 → Prop} (k : Q 1) : pX9_in (nI s) 0 1 Q := in_ok (nI_pos (by omega)) (nI_nlt (a := 1) (by omega) (by omega)) k
theorem symb_out {p : Int32} (h0 : ¬ p = 0) (h1 : ¬ p = 1) {Q : Int32 → Prop} (k : Q 0) : pX9_in p 0 1 Q := by
  by_cases c : p < 0
  · exact in_lo c k
  · refine in_hi ?_ k
    obtain ⟨z, a, b, rfl⟩ := iI_of p
    rw [iI_0, iI_eq ⟨a, b⟩ ⟨by omega, by omega⟩] at h0
    rw [iI_1, iI_eq ⟨a, b⟩ ⟨by omega, by omega⟩] at h1
    rw [iI_0, iI_lt ⟨a, b⟩ ⟨by omega, by omega⟩] at c
    rw [iI_1, iI_lt ⟨by omega, by omega⟩ ⟨a, b⟩]
    omega
/-- the slot of a state and a symbol -/
theorem slot_e (q s : Nat) : (2 : Int32) * nI q + nI s = nI (2 * q + s) := by rw [show (2 : Int32) = nI 2 from rfl, pk_mul, nI_add]
theorem s_slot {q s cnt : Nat} (hc : cnt ≤ 5) (hq : q < cnt) (hs : s < 2) {Q : Int32 → Prop} (k : Q (nI (2 * q + s))) : pX5_slotOf (nI q) (nI s) (nI cnt) Q := by
  refine ⟨fun h => absurd h (nI_pos (by omega)), fun _ => ⟨fun h => absurd h (nI_ge hq (by omega)), fun _ => ⟨fun h => absurd h (nI_pos (by omega)), fun _ => ⟨fun h => absurd h (nI_nlt (a := 1) (by omega) (by omega)), fun _ => ⟨fun h => absurd h n10, fun _ => ?_⟩⟩⟩⟩⟩
  rw [slot_e]; exact k
theorem s_next {q s cnt : Nat} {fo : Nat → Int32} (hc : cnt ≤ 5) (hq : q < cnt) (hs : s < 2) {Q : Int32 → Prop} (k : Q (fo (2 * q + s))) : pX5_nextOf (nI q) (nI s) (nI cnt) fo Q := by
  refine s_slot hc hq hs ⟨fun _ => ⟨vp_in_nI (by omega) (by omega), ?_⟩, fun h => absurd h (nI_m1 (by omega))⟩
  rw [nI_clamp (by omega)]; exact k
theorem s_wr {q s cnt : Nat} {f : Nat → Int32} (hc : cnt ≤ 5) (hq : q < cnt) (hs : s < 2) {Q : Int32 → Prop} (k : Q (f (2 * q + s))) : pX5_writtenBy (nI q) (nI s) (nI cnt) f Q := by
  refine s_slot hc hq hs ⟨fun _ => ⟨vp_in_nI (by omega) (by omega), ?_⟩, fun h => absurd h (nI_m1 (by omega))⟩
  rw [nI_clamp (by omega)]; exact k
theorem s_mv {q s cnt : Nat} {f : Nat → Int32} (hc : cnt ≤ 5) (hq : q < cnt) (hs : s < 2) {Q : Int32 → Prop} (k : Q (f (2 * q + s))) : pX5_moveOf (nI q) (nI s) (nI cnt) f Q := by
  refine s_slot hc hq hs ⟨fun _ => ⟨vp_in_nI (by omega) (by omega), ?_⟩, fun h => absurd h (nI_m1 (by omega))⟩
  rw [nI_clamp (by omega)]; exact k
theorem s_has {q s cnt : Nat} {tm : TM} {c : Int32} {wr mv fo : Nat → Int32} (hW : WF cnt tm) (hX : RMx cnt tm c wr mv fo) (hq : q < cnt) (hs : s < 2) {Q : Int32 → Prop} (k0 : tm (2 * q + s) = none → Q 0) (k1 : ∀ x, tm (2 * q + s) = some x → Q 1) : pX5_has (nI q) (nI s) (nI cnt) fo Q := by
  have hw := hW.2.1
  refine s_next hw hq hs ?_
  obtain ⟨h1, h2⟩ := hX.2 (2 * q + s) (by omega)
  cases ht : tm (2 * q + s) with
  | none => rw [h1 ht]; exact ⟨fun _ => k0 ht, fun h => absurd rfl h⟩
  | some x =>
    obtain ⟨a, b, d⟩ := x
    obtain ⟨-, -, e⟩ := h2 a b d ht
    rw [e]
    have hd := (hW.2.2 _ _ _ _ ht).2.2.2
    exact ⟨fun h => absurd h (nI_m1 (by omega)), fun _ => k1 _ ht⟩
theorem s_put {q s cnt : Nat} {w m f : Nat → Int32} (hc : cnt ≤ 5) (hq : q < cnt) (hs : s < 2) {a b d : Int32} {Q : (Nat → Int32) → (Nat → Int32) → (Nat → Int32) → Prop} (k : Q (upd w (2 * q + s) a) (upd m (2 * q + s) b) (upd f (2 * q + s) d)) : pX5_put (nI q) (nI s) a b d (nI cnt) w m f Q := by
  have hi := vp_in_nI (n := 2 * q + s) (N := 10) (by omega) (by omega)
  refine s_slot hc hq hs ⟨fun _ => ⟨hi, hi, hi, ?_⟩, fun h => absurd h (nI_m1 (by omega))⟩
  rw [nI_clamp (by omega)]; exact k
/-! beginnings -/
theorem sx_begin {n : Nat} (hn : n < 2147483648) {w : Nat → Int32} {a b c d e : Int32} {Q : (Nat → Int32) → Int32 → Int32 → Int32 → Int32 → Int32 → Prop} (k : ∀ w' : Nat → Int32, (∀ j, j < n → w' j = 0) → Q w' 0 0 0 0 0) : pX2_begin n w a b c d e Q := s_fill n hn 0 w _ k
theorem sm_begin {tape on : Nat → Int32} {a b c : Int32} {Q : (Nat → Int32) → (Nat → Int32) → Int32 → Int32 → Int32 → Prop} (k : ∀ tape' on' : Nat → Int32, (∀ j, j < 10003 → tape' j = 0) → (∀ j, j < 10003 → on' j = if j = 5001 then 1 else 0) → Q tape' on' 0 0 0) : pX9_begin tape on a b c Q := by
  refine Lp.up 10003 (fun i v => v.1 = nI i ∧ (∀ j, j < i → v.2.1 j = 0) ∧ ∀ j, j < i → v.2.2 j = 0) ?_ (Nat.zero_le _) ⟨rfl, fun j hj => absurd hj (Nat.not_lt_zero _), fun j hj => absurd hj (Nat.not_lt_zero _)⟩
  rintro i ⟨l1, f, g⟩ hi ⟨e, hf, hg⟩
  dsimp only at e hf hg
  subst e
  refine ⟨fun c => ⟨vp_in_nI (n := 5001) (by omega) (by omega), ?_⟩, fun c => ?_⟩
  · have hc := (nI_leI (by omega) (by omega)).mp c
    refine k _ _ (fun j hj => hf j (by omega)) (fun j hj => ?_)
    rw [show (5001 : Int32).toNatClampNeg = 5001 from rfl, vnb_1, upd_eq]
    by_cases q : j = 5001
    · rw [if_pos q, if_pos q]
    · rw [if_neg q, if_neg q]; exact hg j (by omega)
  · have hc : ¬ 10003 ≤ i := fun q => c (nI_le q (by omega))
    have hin := vp_in_nI (n := i) (N := 10003) (by omega) (by omega)
    refine ⟨hin, hin, ?_⟩
    intro x5 e5
    rw [e5, nI_1, nI_clamp (show i < 2 ^ 31 by omega), vnb_0]
    refine ⟨by omega, rfl, ?_, ?_⟩
    · intro j hj
      show upd f i 0 j = 0
      rw [upd_eq]
      by_cases q : j = i
      · rw [if_pos q]
      · rw [if_neg q]; exact hf j (by omega)
    · intro j hj
      show upd g i 0 j = 0
      rw [upd_eq]
      by_cases q : j = i
      · rw [if_pos q]
      · rw [if_neg q]; exact hg j (by omega)
theorem CR_0 {cnt : Nat} (h1 : 1 ≤ cnt) {w tape on : Nat → Int32} (hw : ∀ j, j < 313 → w j = 0) (ht : ∀ j, j < 10003 → tape j = 0) (ho : ∀ j, j < 10003 → on j = if j = 5001 then 1 else 0) : CR cnt w 0 0 0 0 0 tape on 0 0 0 := by
  refine ⟨0, 0, 0, fun _ => 0, 0, 0, ⟨by omega, Or.inl (by omega), by omega, by omega, by omega, by omega, by omega, by omega, fun _ => by show 0 < 2; omega, fun _ _ => rfl⟩, ⟨rfl, rfl, rfl, rfl, rfl, ?_⟩, ⟨rfl, rfl, rfl, ?_, ?_⟩⟩
  · intro j hj
    rw [hw _ (by omega), b_0]
    rfl
  · intro j hj; exact ht j hj
  · intro j hj
    rw [ho j hj]
    by_cases q : j = 5001
    · rw [if_pos q, if_pos (by omega)]
    · rw [if_neg q, if_neg (by omega)]
