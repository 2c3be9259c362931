/-! own: closed sets, in the abstract -/
def lf (m : Nat) : Nat := m / 8 % 8
def rt (m : Nat) : Nat := m % 8
def psh (n l a : Nat) : Nat := (2 * l + a) % 2 ^ n
def ppo (n r x : Nat) : Nat := r / 2 + x * 2 ^ (n - 1)
def lcl (q s l r : Nat) : Nat := ((2 * q + s) * 8 + l) * 8 + r
def nxS (n m a b d x : Nat) : Nat := if b = 1 then lcl d (rt m % 2) (psh n (lf m) a) (ppo n (rt m) x) else lcl d (lf m % 2) (ppo n (lf m) x) (psh n (rt m) a)
def Cl (tm : TM) (n : Nat) (S L R : Nat → Prop) : Prop := S 0 ∧ L 0 ∧ R 0 ∧ ∀ m a b d, S m → tm (m / 64) = some (a, b, d) → d ≠ 9 → (b = 1 → L (lf m)) ∧ (b ≠ 1 → R (rt m)) ∧ ∀ x, x < 2 → (b = 1 → R (ppo n (rt m) x)) → (b ≠ 1 → L (ppo n (lf m) x)) → S (nxS n m a b d x)
def rS (tm : TM) (n m : Nat) : Prop := ∀ S L R, Cl tm n S L R → S m
def rL (tm : TM) (n m : Nat) : Prop := ∀ S L R, Cl tm n S L R → L m
def rR (tm : TM) (n m : Nat) : Prop := ∀ S L R, Cl tm n S L R → R m
theorem Cl_r (tm : TM) (n : Nat) : Cl tm n (rS tm n) (rL tm n) (rR tm n) :=
  ⟨fun _ _ _ h => h.1, fun _ _ _ h => h.2.1, fun _ _ _ h => h.2.2.1, fun m a b d hm ht hd => ⟨fun hb S L R h => (h.2.2.2 m a b d (hm S L R h) ht hd).1 hb, fun hb S L R h => (h.2.2.2 m a b d (hm S L R h) ht hd).2.1 hb, fun x hx hR hL S L R h => (h.2.2.2 m a b d (hm S L R h) ht hd).2.2 x hx (fun hb => hR hb S L R h) (fun hb => hL hb S L R h)⟩⟩
def Hd (tm : TM) (n m : Nat) (L0 R0 S L R : Nat → Bool) : Prop := ∃ a b d, tm (m / 64) = some (a, b, d) ∧ d ≠ 9 ∧ (b = 1 → L (lf m) = true) ∧ (b ≠ 1 → R (rt m) = true) ∧ ∀ x, x < 2 → (b = 1 → R0 (ppo n (rt m) x) = true) → (b ≠ 1 → L0 (ppo n (lf m) x) = true) → S (nxS n m a b d x) = true
def Su (p q : Nat → Bool) : Prop := ∀ i, p i = true → q i = true
theorem Su_r (p : Nat → Bool) : Su p p := fun _ h => h
theorem Su_t {p q r : Nat → Bool} (h1 : Su p q) (h2 : Su q r) : Su p r := fun i h => h2 i (h1 i h)
theorem Hd_mono {tm : TM} {n m : Nat} {L0 R0 L1 R1 S L R S' L' R' : Nat → Bool} (h : Hd tm n m L1 R1 S L R) (h1 : Su S S') (h2 : Su L L') (h3 : Su R R') (h4 : Su L0 L1) (h5 : Su R0 R1) : Hd tm n m L0 R0 S' L' R' := by
  obtain ⟨a, b, d, t1, t2, t3, t4, t5⟩ := h
  exact ⟨a, b, d, t1, t2, fun hb => h2 _ (t3 hb), fun hb => h3 _ (t4 hb), fun x hx hR hL => h1 _ (t5 x hx (fun hb => h5 _ (hR hb)) (fun hb => h4 _ (hL hb)))⟩
theorem Hd_nh {tm : TM} {n m : Nat} {L0 R0 S L R : Nat → Bool} (h : Hd tm n m L0 R0 S L R) : ¬ hal tm (m / 64) := by
  obtain ⟨a, b, d, t1, t2, -⟩ := h
  rintro (q | ⟨a', b', q⟩)
  · rw [t1] at q; cases q
  · rw [t1] at q; cases q; exact t2 rfl
def WS (cnt n m : Nat) : Prop := m / 64 < 2 * cnt ∧ lf m < 2 ^ n ∧ rt m < 2 ^ n
def setB (S : Nat → Bool) (i : Nat) : Nat → Bool := fun k => if k = i then true else S k
theorem setB_su (S : Nat → Bool) (i : Nat) : Su S (setB S i) := fun k h => by
  unfold setB
  split
  · rfl
  · exact h
theorem setB_at (S : Nat → Bool) (i : Nat) : setB S i i = true := if_pos rfl
theorem setB_or {S : Nat → Bool} {i k : Nat} (h : setB S i k = true) : k = i ∨ S k = true := by
  unfold setB at h
  split at h
  · rename_i g; exact Or.inl g
  · exact Or.inr h
theorem setB_same {S : Nat → Bool} {i : Nat} (h : S i = true) : setB S i = S := by
  funext k
  unfold setB
  split
  · rename_i g; rw [g, h]
  · rfl
def Inv (cnt : Nat) (tm : TM) (n : Nat) (S L R : Nat → Bool) : Prop := (S 0 = true ∧ L 0 = true ∧ R 0 = true) ∧ (∀ m, S m = true → rS tm n m ∧ WS cnt n m) ∧ (∀ j, L j = true → rL tm n j ∧ j < 2 ^ n) ∧ ∀ j, R j = true → rR tm n j ∧ j < 2 ^ n
theorem p8 {n : Nat} (h : n ≤ 3) : 2 ^ n ≤ 8 := Nat.pow_le_pow_right (n := 2) (by omega) h
theorem psh_lt (n l a : Nat) : psh n l a < 2 ^ n := Nat.mod_lt _ (Nat.two_pow_pos n)
theorem ppo_lt {n r x : Nat} (h1 : 1 ≤ n) (h2 : n ≤ 3) (hr : r < 2 ^ n) (hx : x < 2) : ppo n r x < 2 ^ n := by
  unfold ppo
  rcases (show n = 1 ∨ n = 2 ∨ n = 3 by omega) with rfl | rfl | rfl
  · simp only [Nat.reducePow, Nat.reduceSub] at *; omega
  · simp only [Nat.reducePow, Nat.reduceSub] at *; omega
  · simp only [Nat.reducePow, Nat.reduceSub] at *; omega
theorem lcl_e {q s l r : Nat} (hl : l < 8) (hr : r < 8) : lcl q s l r / 64 = 2 * q + s ∧ lf (lcl q s l r) = l ∧ rt (lcl q s l r) = r := by
  unfold lcl lf rt
  omega
theorem WS_nx {cnt n m a b d x : Nat} {tm : TM} (hW : WF cnt tm) (h1 : 1 ≤ n) (h3 : n ≤ 3) (ht : tm (m / 64) = some (a, b, d)) (hd : d ≠ 9) (hm : WS cnt n m) (hx : x < 2) : WS cnt n (nxS n m a b d x) := by
  obtain ⟨w1, w2, w3, w4⟩ := hW.2.2 _ _ _ _ ht
  obtain ⟨m1, m2, m3⟩ := hm
  have hd' : d < cnt := w4.elim id (fun e => absurd e hd)
  have := p8 h3
  unfold nxS
  split
  · have e1 := psh_lt n (lf m) a
    have e2 := ppo_lt h1 h3 m3 hx
    obtain ⟨f1, f2, f3⟩ := lcl_e (q := d) (s := rt m % 2) (l := psh n (lf m) a) (r := ppo n (rt m) x) (by omega) (by omega)
    refine ⟨by rw [f1]; omega, by rw [f2]; exact e1, by rw [f3]; exact e2⟩
  · have e1 := psh_lt n (rt m) a
    have e2 := ppo_lt h1 h3 m2 hx
    obtain ⟨f1, f2, f3⟩ := lcl_e (q := d) (s := lf m % 2) (l := ppo n (lf m) x) (r := psh n (rt m) a) (by omega) (by omega)
    refine ⟨by rw [f1]; omega, by rw [f2]; exact e2, by rw [f3]; exact e1⟩
theorem Inv_S {cnt n m a b d x : Nat} {tm : TM} {S L R : Nat → Bool} (hW : WF cnt tm) (h1 : 1 ≤ n) (h3 : n ≤ 3) (h : Inv cnt tm n S L R) (ht : tm (m / 64) = some (a, b, d)) (hd : d ≠ 9) (hm : S m = true) (hx : x < 2) (hR : b = 1 → R (ppo n (rt m) x) = true) (hL : b ≠ 1 → L (ppo n (lf m) x) = true) : Inv cnt tm n (setB S (nxS n m a b d x)) L R := by
  obtain ⟨i1, i2, i3, i4⟩ := h
  refine ⟨⟨setB_su _ _ _ i1.1, i1.2⟩, fun k hk => ?_, i3, i4⟩
  rcases setB_or hk with rfl | hk
  · obtain ⟨q1, q2⟩ := i2 m hm
    exact ⟨((Cl_r tm n).2.2.2 m a b d q1 ht hd).2.2 x hx (fun hb => (i4 _ (hR hb)).1) (fun hb => (i3 _ (hL hb)).1), WS_nx hW h1 h3 ht hd q2 hx⟩
  · exact i2 k hk
theorem Inv_L {cnt n m a b d : Nat} {tm : TM} {S L R : Nat → Bool} (h : Inv cnt tm n S L R) (ht : tm (m / 64) = some (a, b, d)) (hd : d ≠ 9) (hm : S m = true) (hb : b = 1) : Inv cnt tm n S (setB L (lf m)) R := by
  obtain ⟨i1, i2, i3, i4⟩ := h
  refine ⟨⟨i1.1, setB_su _ _ _ i1.2.1, i1.2.2⟩, i2, fun k hk => ?_, i4⟩
  rcases setB_or hk with rfl | hk
  · obtain ⟨q1, q2⟩ := i2 m hm
    exact ⟨((Cl_r tm n).2.2.2 m a b d q1 ht hd).1 hb, q2.2.1⟩
  · exact i3 k hk
theorem Inv_R {cnt n m a b d : Nat} {tm : TM} {S L R : Nat → Bool} (h : Inv cnt tm n S L R) (ht : tm (m / 64) = some (a, b, d)) (hd : d ≠ 9) (hm : S m = true) (hb : b ≠ 1) : Inv cnt tm n S L (setB R (rt m)) := by
  obtain ⟨i1, i2, i3, i4⟩ := h
  refine ⟨⟨i1.1, i1.2.1, setB_su _ _ _ i1.2.2⟩, i2, i3, fun k hk => ?_⟩
  rcases setB_or hk with rfl | hk
  · obtain ⟨q1, q2⟩ := i2 m hm
    exact ⟨((Cl_r tm n).2.2.2 m a b d q1 ht hd).2.1 hb, q2.2.2⟩
  · exact i4 k hk
def oneB : Nat → Bool := setB (fun _ => false) 0
theorem Inv_0 {cnt n : Nat} {tm : TM} (hc : 1 ≤ cnt) : Inv cnt tm n oneB oneB oneB := by
  have e : ∀ k, oneB k = true → k = 0 := fun k hk => by
    rcases setB_or hk with h | h
    · exact h
    · cases h
  have c := Cl_r tm n
  have := Nat.two_pow_pos n
  refine ⟨⟨rfl, rfl, rfl⟩, fun k hk => ?_, fun k hk => ?_, fun k hk => ?_⟩
  · rw [e k hk]; exact ⟨c.1, by unfold WS lf rt; omega⟩
  · rw [e k hk]; exact ⟨c.2.1, this⟩
  · rw [e k hk]; exact ⟨c.2.2.1, this⟩
def Clo (tm : TM) (n : Nat) (r : Int32) : Prop := (r = -1005 ∧ ∃ m, rS tm n m ∧ hal tm (m / 64)) ∨ ((∀ m, rS tm n m → ¬ hal tm (m / 64)) ∧ ∃ S : Nat → Bool, (∀ m, S m = true ↔ rS tm n m) ∧ r = nI (fb_ct S 640))
theorem Clo_one {tm : TM} {n : Nat} {r r' : Int32} (h : Clo tm n r) (h' : Clo tm n r') : r = r' := by
  rcases h with ⟨a1, m, a2, a3⟩ | ⟨a1, S, a2, a3⟩
  · rcases h' with ⟨b1, -⟩ | ⟨b1, -⟩
    · rw [a1, b1]
    · exact absurd a3 (b1 m a2)
  · rcases h' with ⟨b1, m, b2, b3⟩ | ⟨b1, S', b2, b3⟩
    · exact absurd b3 (a1 m b2)
    · rw [a3, b3]
      refine congrArg nI (fb_ct_cong (fun k _ => ?_))
      have := (a2 k).trans (b2 k).symm
      cases h : S k <;> cases h' : S' k <;> simp_all
theorem Clo_fin {cnt n : Nat} {tm : TM} {S L R : Nat → Bool} (h : Inv cnt tm n S L R) (hH : ∀ m, S m = true → Hd tm n m L R S L R) : Clo tm n (nI (fb_ct S 640)) := by
  have hc : Cl tm n (fun m => S m = true) (fun m => L m = true) (fun m => R m = true) := by
    refine ⟨h.1.1, h.1.2.1, h.1.2.2, fun m a b d hm ht hd => ?_⟩
    obtain ⟨a', b', d', t1, t2, t3, t4, t5⟩ := hH m hm
    rw [ht] at t1
    cases t1
    exact ⟨t3, t4, t5⟩
  exact Or.inr ⟨fun m hm => Hd_nh (hH m (hm _ _ _ hc)), S, fun m => ⟨fun hm => (h.2.1 m hm).1, fun hm => hm _ _ _ hc⟩, rfl⟩
theorem ct_set {S : Nat → Bool} {m n : Nat} (hm : m < n) (h : ¬ S m = true) : fb_ct (setB S m) n = fb_ct S n + 1 := by
  have h' : S m = false := by simpa using h
  have := fb_ct_upd S true (i := m) (n := n) hm
  rw [h'] at this
  exact this
theorem ct_su {p q : Nat → Bool} (n : Nat) (h : Su p q) : fb_ct p n ≤ fb_ct q n := fb_ct_sub (fun k _ hk => h k hk)
theorem ct_lt {p q : Nat → Bool} {n i : Nat} (h : Su p q) (hi : i < n) (h1 : ¬ p i = true) (h2 : q i = true) : fb_ct p n < fb_ct q n := by
  have a := ct_set (S := p) hi h1
  have b : fb_ct (setB p i) n ≤ fb_ct q n := ct_su n (fun k hk => by
    rcases setB_or hk with rfl | hk
    · exact h2
    · exact h k hk)
  omega
/-! words of strings -/
theorem a_psh : ∀ n, n < 4 → ∀ l, l < 8 → ∀ a, a < 2 → ((nI l <<< ((1 : Int32) &&& 31)) ||| nI a) &&& (((1 : Int32) <<< (nI n &&& 31)) - 1) = nI (psh n l a) := by decide +kernel
theorem a_ppo : ∀ n, n < 4 → 1 ≤ n → ∀ r, r < 8 → r < 2 ^ n → ∀ x, x < 2 → (nI r >>> ((1 : Int32) &&& 31)) ||| (nI x <<< ((nI n - 1) &&& 31)) = nI (ppo n r x) := by decide +kernel
theorem a_and1 : ∀ r, r < 8 → nI r &&& 1 = nI (r % 2) := by decide +kernel
theorem a_loc : ∀ q, q < 5 → ∀ s, s < 2 → ∀ l, l < 8 → ∀ r, r < 8 → (((((2 * nI q) + nI s) <<< ((3 : Int32) &&& 31)) ||| nI l) <<< ((3 : Int32) &&& 31)) ||| nI r = nI (lcl q s l r) := by decide +kernel
theorem a_m : ∀ m, m < 640 → nI m &&& 7 = nI (rt m) ∧ (nI m >>> ((3 : Int32) &&& 31)) &&& 7 = nI (lf m) ∧ nI m >>> ((6 : Int32) &&& 31) = nI (m / 64) := by decide +kernel
theorem a_k : ∀ k, k < 10 → nI k >>> ((1 : Int32) &&& 31) = nI (k / 2) ∧ nI k &&& 1 = nI (k % 2) := by decide +kernel
theorem RMw_set {W : Int32} {f : Nat → Bool} {c : Nat} (hc : c < 32) (h : RMw W f) : RMw (W ||| ((1 : Int32) <<< (nI c &&& 31))) (setB f c) := by
  intro i hi
  rw [b_or, h i hi, bit1 hc hi]
  unfold setB
  by_cases g : i = c
  · simp [g]
  · simp [g]
theorem RMw_one {W W' : Int32} {f g : Nat → Bool} (h : RMw W f) (h' : RMw W' g) (hf : ∀ i, f i = true → i < 8) (hg : ∀ i, g i = true → i < 8) : W = W' ↔ f = g := by
  constructor
  · intro e
    funext i
    by_cases q : i < 8
    · rw [← h i (by omega), ← h' i (by omega), e]
    · have a1 : ¬ f i = true := fun z => q (hf i z)
      have a2 : ¬ g i = true := fun z => q (hg i z)
      simp at a1 a2
      rw [a1, a2]
  · intro e
    apply b_ext
    intro i hi
    rw [h i hi, h' i hi, e]
