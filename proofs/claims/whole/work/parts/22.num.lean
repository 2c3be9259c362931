/-! own: numbers -/
theorem nI_ne {a b : Nat} (ha : a < 2 ^ 31) (hb : b < 2 ^ 31) (h : a ≠ b) : ¬ nI a = nI b := fun e => h ((nI_eq ha hb).mp e)
theorem nI_m1 {a : Nat} (ha : a < 2 ^ 31) : ¬ nI a = -1 := by
  intro e
  have h := congrArg Int32.toInt e
  rw [nI_toInt ha] at h
  have h2 : (-1 : Int32).toInt = -1 := by decide
  omega
def iI (z : Int) : Int32 := Int32.ofInt z
theorem iI_toInt {z : Int} (h1 : -2147483648 ≤ z) (h2 : z < 2147483648) : (iI z).toInt = z := Int32.toInt_ofInt_of_le h1 h2
theorem iI_nat (n : Nat) : nI n = iI (n : Int) := Int32.ofInt_eq_ofNat.symm
theorem iI_add (a b : Int) : iI a + iI b = iI (a + b) := (Int32.ofInt_add a b).symm
theorem iI_sub (a b : Int) : iI a - iI b = iI (a - b) := (Int32.ofInt_sub a b).symm
theorem iI_mul (a b : Int) : iI a * iI b = iI (a * b) := (Int32.ofInt_mul a b).symm
theorem iI_neg (a : Int) : - iI a = iI (-a) := Int32.neg_ofInt
theorem iI_lt {a b : Int} (h1 : -2147483648 ≤ a ∧ a < 2147483648) (h2 : -2147483648 ≤ b ∧ b < 2147483648) : iI a < iI b ↔ a < b := by
  rw [Int32.lt_iff_toInt_lt, iI_toInt h1.1 h1.2, iI_toInt h2.1 h2.2]
theorem iI_le {a b : Int} (h1 : -2147483648 ≤ a ∧ a < 2147483648) (h2 : -2147483648 ≤ b ∧ b < 2147483648) : iI a ≤ iI b ↔ a ≤ b := by
  rw [Int32.le_iff_toInt_le, iI_toInt h1.1 h1.2, iI_toInt h2.1 h2.2]
theorem iI_eq {a b : Int} (h1 : -2147483648 ≤ a ∧ a < 2147483648) (h2 : -2147483648 ≤ b ∧ b < 2147483648) : iI a = iI b ↔ a = b := by
  rw [← Int32.toInt_inj, iI_toInt h1.1 h1.2, iI_toInt h2.1 h2.2]
theorem iI_of (x : Int32) : ∃ z : Int, -2147483648 ≤ z ∧ z < 2147483648 ∧ x = iI z := ⟨x.toInt, Int32.le_toInt x, Int32.toInt_lt x, (Int32.ofInt_toInt x).symm⟩
theorem iI_clamp {z : Int} (h1 : -2147483648 ≤ z) (h2 : z < 2147483648) : (iI z).toNatClampNeg = z.toNat := Int32.toNatClampNeg_ofInt_of_le h1 h2
theorem iI_in {z : Int} {n : Nat} (h1 : 0 ≤ z) (h2 : z < n) (hn : n < 2147483648) : vp_in (iI z) n := by
  rw [vp_in_iff, iI_toInt (by omega) (by omega)]
  exact ⟨h1, h2⟩
theorem iI_m1 : (-1 : Int32) = iI (-1) := rfl
theorem iI_lit (n : Nat) : (OfNat.ofNat n : Int32) = iI (n : Int) := iI_nat n
theorem iI_0 : (0 : Int32) = iI 0 := rfl
theorem iI_1 : (1 : Int32) = iI 1 := rfl
theorem upd_eq (f : Nat → Int32) (k j : Nat) (x : Int32) : upd f k x j = if j = k then x else f j := by
  by_cases h : j = k
  · subst h; rw [if_pos rfl]; exact pk_us
  · rw [if_neg h]; exact pk_un h
theorem vnb_0 : vp_nar .boolean 0 = 0 := rfl
theorem vnb_1 : vp_nar .boolean 1 = 1 := rfl
theorem vnb {x : Int32} (h : isB x) : vp_nar .boolean x = x := by rcases h with rfl | rfl <;> rfl
theorem Lp.up {α : Type} {F : (α → Prop) → α → Prop} (n : Nat) (I : Nat → α → Prop) (hs : ∀ i a, i ≤ n → I i a → F (fun b => i < n ∧ I (i + 1) b) a) {i0 : Nat} {a : α} (hi : i0 ≤ n) (h : I i0 a) : Lp F a := by
  intro X hX
  have key : ∀ k i a, i ≤ n → n - i < k → I i a → X a := by
    intro k
    induction k with
    | zero => intros; omega
    | succ k ih => intro i a hi hk ha; exact hX a _ (fun c hc => ih (i + 1) c (by omega) (by omega) hc.2) (hs i a hi ha)
  exact key _ i0 a hi (Nat.lt_succ_self _) h
theorem n10 : ¬ (1 : Int32) = 0 := by decide
/-- a fill of a row from its start -/
theorem s_fill (n : Nat) (hn : n < 2147483648) (x : Int32) (f : Nat → Int32) (Q : (Nat → Int32) → Prop) (h : ∀ g : Nat → Int32, (∀ j, j < n → g j = x) → Q g) : pJ7_fill_53178 n x f Q := by
  intro x1 e1
  refine Lp.up n (fun i v => v.1 = nI i ∧ ∀ j, j < i → v.2 j = x) ?_ (Nat.zero_le _) ⟨rfl, fun j hj => absurd hj (Nat.not_lt_zero _)⟩
  rintro i ⟨l2, g⟩ hi ⟨e, hg⟩
  dsimp only at e hg
  subst e; subst e1
  refine ⟨fun c => h g ?_, fun c => ?_⟩
  · have hc := (nI_leI (by omega) (by omega)).mp c
    intro j hj
    exact hg j (by omega)
  · have hc : ¬ n ≤ i := fun q => c (nI_le q (by omega))
    refine ⟨vp_in_nI (by omega) hn, ?_⟩
    intro x4 e4
    rw [e4, nI_1, nI_clamp (show i < 2 ^ 31 by omega)]
    refine ⟨by omega, rfl, ?_⟩
    intro j hj
    show upd g i x j = x
    rw [upd_eq]
    by_cases q : j = i
    · rw [if_pos q]
    · rw [if_neg q]; exact hg j (by omega)
