/-! own: bits counted -/
theorem and_split {a c A C : Nat} (ha : a < 256) (hc : c < 256) : (a + 256 * A) &&& (c + 256 * C) = (a &&& c) + 256 * (A &&& C) := by
  have h1 := Nat.and_mod_two_pow (a := a + 256 * A) (b := c + 256 * C) (n := 8)
  have h2 := Nat.and_div_two_pow (a := a + 256 * A) (b := c + 256 * C) (n := 8)
  rw [show (2 : Nat) ^ 8 = 256 from rfl] at h1 h2
  rw [show (a + 256 * A) % 256 = a by omega, show (c + 256 * C) % 256 = c by omega] at h1
  rw [show (a + 256 * A) / 256 = A by omega, show (c + 256 * C) / 256 = C by omega] at h2
  omega
def bm (f : Nat → Nat) : Nat → Nat → Nat
  | 0, _ => 0
  | m + 1, X => f (X % 256) + 256 * bm f m (X / 256)
def mk (c : Nat) : Nat → Nat
  | 0 => 0
  | m + 1 => c + 256 * mk c m
theorem bm_add (f g : Nat → Nat) : ∀ m X, bm f m X + bm g m X = bm (fun b => f b + g b) m X
  | 0, _ => rfl
  | m + 1, X => by
    have := bm_add f g m (X / 256)
    simp only [bm]
    omega
theorem bm_sub (f g : Nat → Nat) (h : ∀ b, b < 256 → g b ≤ f b) : ∀ m X, bm f m X = bm g m X + bm (fun b => f b - g b) m X
  | 0, _ => rfl
  | m + 1, X => by
    have := bm_sub f g h m (X / 256)
    have := h (X % 256) (by omega)
    simp only [bm]
    omega
theorem bm_id : ∀ m X, X < 256 ^ m → bm (fun b => b) m X = X
  | 0, X, h => by simp only [bm]; simp at h; omega
  | m + 1, X, h => by
    have h2 : X / 256 < 256 ^ m := by
      rw [Nat.pow_succ] at h
      exact Nat.div_lt_of_lt_mul (by omega)
    have := bm_id m (X / 256) h2
    simp only [bm]
    omega
theorem bm_bm (f g : Nat → Nat) (h : ∀ b, b < 256 → g b < 256) : ∀ m X, bm f m (bm g m X) = bm (fun b => f (g b)) m X
  | 0, _ => rfl
  | m + 1, X => by
    have h1 := h (X % 256) (by omega)
    simp only [bm]
    rw [show (g (X % 256) + 256 * bm g m (X / 256)) % 256 = g (X % 256) by omega, show (g (X % 256) + 256 * bm g m (X / 256)) / 256 = bm g m (X / 256) by omega, bm_bm f g h m]
theorem bm_cong {f g : Nat → Nat} (h : ∀ b, b < 256 → f b = g b) : ∀ m X, bm f m X = bm g m X
  | 0, _ => rfl
  | m + 1, X => by
    simp only [bm]
    rw [h _ (by omega), bm_cong h m]
theorem and_0 (c : Nat) (hc : c < 256) : ∀ m X, X &&& mk c m = bm (fun b => b &&& c) m X
  | 0, X => by simp [mk, bm]
  | m + 1, X => by
    have ih := and_0 c hc m (X / 256)
    simp only [mk, bm]
    rw [← ih, ← and_split (by omega) hc, show X % 256 + 256 * (X / 256) = X by omega]
theorem and_1 (c : Nat) (hc : c < 256) (h : ∀ b, b < 256 → ∀ r, r < 2 → (b / 2 + r * 128) &&& c = b / 2 &&& c) : ∀ m X, X / 2 &&& mk c m = bm (fun b => b / 2 &&& c) m X
  | 0, X => by simp [mk, bm]
  | m + 1, X => by
    have ih := and_1 c hc h m (X / 256)
    simp only [mk, bm]
    rw [← ih, ← h (X % 256) (by omega) (X / 256 % 2) (by omega), ← and_split (by omega) hc, show X % 256 / 2 + X / 256 % 2 * 128 + 256 * (X / 256 / 2) = X / 2 by omega]
theorem and_2 (c : Nat) (hc : c < 256) (h : ∀ b, b < 256 → ∀ r, r < 4 → (b / 4 + r * 64) &&& c = b / 4 &&& c) : ∀ m X, X / 4 &&& mk c m = bm (fun b => b / 4 &&& c) m X
  | 0, X => by simp [mk, bm]
  | m + 1, X => by
    have ih := and_2 c hc h m (X / 256)
    simp only [mk, bm]
    rw [← ih, ← h (X % 256) (by omega) (X / 256 % 4) (by omega), ← and_split (by omega) hc, show X % 256 / 4 + X / 256 % 4 * 64 + 256 * (X / 256 / 4) = X / 4 by omega]
theorem bm_low {g : Nat → Nat} (h : ∀ b, b < 256 → g b % 16 ≤ 4 ∧ g b / 16 ≤ 4) : ∀ m X, bm g m X % 16 ≤ 4
  | 0, _ => by simp [bm]
  | m + 1, X => by
    have := (h (X % 256) (by omega)).1
    simp only [bm]
    omega
theorem and_4 {g : Nat → Nat} (h : ∀ b, b < 256 → g b % 16 ≤ 4 ∧ g b / 16 ≤ 4) : ∀ m X, (bm g m X + bm g m X / 16) &&& mk 15 m = bm (fun b => (g b + g b / 16) % 16) m X
  | 0, X => by simp [mk, bm]
  | m + 1, X => by
    have ih := and_4 h m (X / 256)
    have h1 := h (X % 256) (by omega)
    have h2 := bm_low h m (X / 256)
    simp only [mk, bm]
    rw [← ih]
    generalize bm g m (X / 256) = W at h2 ⊢
    generalize g (X % 256) = e at h1 ⊢
    rw [show (e + 256 * W) + (e + 256 * W) / 16 = (e + e / 16 + 16 * (W % 16)) + 256 * (W + W / 16) by omega, and_split (by omega) (by omega), show (15 : Nat) = 2 ^ 4 - 1 from rfl, Nat.and_two_pow_sub_one_eq_mod]
    omega
def pop8 (b : Nat) : Nat := fb_sm (fun i => if b.testBit i = true then 1 else 0) 8
def pp1 (b : Nat) : Nat := b - (b / 2 &&& 85)
def pp2 (b : Nat) : Nat := (pp1 b &&& 51) + (pp1 b / 4 &&& 51)
theorem k_m1 : ∀ b, b < 256 → ∀ r, r < 2 → (b / 2 + r * 128) &&& 85 = b / 2 &&& 85 := by decide +kernel
theorem k_m2 : ∀ b, b < 256 → ∀ r, r < 4 → (b / 4 + r * 64) &&& 51 = b / 4 &&& 51 := by decide +kernel
theorem k_le1 : ∀ b, b < 256 → b / 2 &&& 85 ≤ b := by decide +kernel
theorem k_p1 : ∀ b, b < 256 → pp1 b < 256 := by decide +kernel
theorem k_p2 : ∀ b, b < 256 → pp2 b % 16 ≤ 4 ∧ pp2 b / 16 ≤ 4 := by decide +kernel
theorem k_p3 : ∀ b, b < 256 → (pp2 b + pp2 b / 16) % 16 = pop8 b := by decide +kernel
theorem k_p8 : ∀ b, b < 256 → pop8 b ≤ 8 := by decide +kernel
theorem us1 {n : Nat} (h : n < 4294967296) : ushr (nI n) 1 = nI (n / 2) := pk_ushrN h 1 1 (by decide)
theorem us2 {n : Nat} (h : n < 4294967296) : ushr (nI n) 2 = nI (n / 4) := pk_ushrN h 2 2 (by decide)
theorem us4 {n : Nat} (h : n < 4294967296) : ushr (nI n) 4 = nI (n / 16) := pk_ushrN h 4 4 (by decide)
theorem us8 {n : Nat} (h : n < 4294967296) : ushr (nI n) 8 = nI (n / 256) := pk_ushrN h 8 8 (by decide)
theorem us16 {n : Nat} (h : n < 4294967296) : ushr (nI n) 16 = nI (n / 65536) := pk_ushrN h 16 16 (by decide)
theorem bm4 (f : Nat → Nat) (X : Nat) : bm f 4 X = f (X % 256) + 256 * f (X / 256 % 256) + 65536 * f (X / 65536 % 256) + 16777216 * f (X / 16777216 % 256) := by
  simp only [bm]
  rw [show X / 256 / 256 = X / 65536 by omega, show X / 65536 / 256 = X / 16777216 by omega]
  omega
def popN (X : Nat) : Nat := pop8 (X % 256) + pop8 (X / 256 % 256) + pop8 (X / 65536 % 256) + pop8 (X / 16777216 % 256)
theorem x_bitCount {X : Nat} (hX : X < 4294967296) {Q : Int32 → Prop} (k : Q (nI (popN X))) : pJ6_bitCount_0f7a4 (nI X) Q := by
  have e0 : bm (fun b => b) 4 X = X := bm_id 4 X hX
  have s1 : X / 2 &&& 1431655765 = bm (fun b => b / 2 &&& 85) 4 X := and_1 85 (by omega) k_m1 4 X
  have s1' := bm_sub (fun b => b) (fun b => b / 2 &&& 85) k_le1 4 X
  rw [e0] at s1'
  have le8 : ∀ b, b < 256 → pop8 b ≤ 8 := k_p8
  intro x1 e1
  rw [us1 hX, show (1431655765 : Int32) = nI 1431655765 from rfl, fa_and, s1, pk_sub (by omega), show X - bm (fun b => b / 2 &&& 85) 4 X = bm pp1 4 X by
    show _ = bm (fun b => b - (b / 2 &&& 85)) 4 X
    omega] at e1
  subst e1
  have l1 : bm pp1 4 X < 4294967296 := by
    rw [bm4]
    have a1 := k_p1 (X % 256) (by omega)
    have a2 := k_p1 (X / 256 % 256) (by omega)
    have a3 := k_p1 (X / 65536 % 256) (by omega)
    have a4 := k_p1 (X / 16777216 % 256) (by omega)
    omega
  intro x2 e2
  have s2 : (bm pp1 4 X &&& 858993459) + (bm pp1 4 X / 4 &&& 858993459) = bm pp2 4 X := by
    have a : bm pp1 4 X &&& 858993459 = bm (fun b => pp1 b &&& 51) 4 X := (and_0 51 (by omega) 4 _).trans (bm_bm _ _ k_p1 4 X)
    have b : bm pp1 4 X / 4 &&& 858993459 = bm (fun b => pp1 b / 4 &&& 51) 4 X := (and_2 51 (by omega) k_m2 4 _).trans (bm_bm (fun b => b / 4 &&& 51) _ k_p1 4 X)
    rw [a, b, bm_add]
    rfl
  rw [us2 l1, show (858993459 : Int32) = nI 858993459 from rfl, fa_and, fa_and, nI_add, s2] at e2
  subst e2
  have l2 : bm pp2 4 X < 4294967296 := by
    rw [bm4]
    have a1 := k_p2 (X % 256) (by omega)
    have a2 := k_p2 (X / 256 % 256) (by omega)
    have a3 := k_p2 (X / 65536 % 256) (by omega)
    have a4 := k_p2 (X / 16777216 % 256) (by omega)
    omega
  intro x3 e3
  have s3 : (bm pp2 4 X + bm pp2 4 X / 16) &&& 252645135 = bm pop8 4 X := (and_4 k_p2 4 X).trans (bm_cong k_p3 4 X)
  rw [us4 l2, show (252645135 : Int32) = nI 252645135 from rfl, nI_add, fa_and, s3] at e3
  subst e3
  have p1 := le8 (X % 256) (by omega)
  have p2 := le8 (X / 256 % 256) (by omega)
  have p3 := le8 (X / 65536 % 256) (by omega)
  have p4 := le8 (X / 16777216 % 256) (by omega)
  unfold popN at k
  rw [bm4]
  generalize pop8 (X % 256) = c0 at *
  generalize pop8 (X / 256 % 256) = c1 at *
  generalize pop8 (X / 65536 % 256) = c2 at *
  generalize pop8 (X / 16777216 % 256) = c3 at *
  intro x4 e4
  rw [us8 (by omega), nI_add] at e4
  subst e4
  intro x5 e5
  rw [us16 (by omega), nI_add] at e5
  subst e5
  rw [show (63 : Int32) = nI (2 ^ 6 - 1) from rfl, fa_mask]
  have : (c0 + 256 * c1 + 65536 * c2 + 16777216 * c3 + (c0 + 256 * c1 + 65536 * c2 + 16777216 * c3) / 256 + (c0 + 256 * c1 + 65536 * c2 + 16777216 * c3 + (c0 + 256 * c1 + 65536 * c2 + 16777216 * c3) / 256) / 65536) % 2 ^ 6 = c0 + c1 + c2 + c3 := by
    rw [show (2 : Nat) ^ 6 = 64 from rfl, show (c0 + 256 * c1 + 65536 * c2 + 16777216 * c3) / 256 = c1 + 256 * c2 + 65536 * c3 by omega]
    rw [show (c0 + 256 * c1 + 65536 * c2 + 16777216 * c3 + (c1 + 256 * c2 + 65536 * c3)) / 65536 = c2 + c3 + 256 * c3 by omega]
    omega
  rw [this]
  exact k
/-- the bits of a word, counted by places -/
def bitsum (x : Int32) : Nat := fb_sm (fun i => if bt x i = true then 1 else 0) 32
theorem bt_nI {X i : Nat} (hi : i < 32) : bt (nI X) i = X.testBit i := by
  show (BitVec.ofNat 32 X).getLsbD i = X.testBit i
  rw [BitVec.getLsbD_ofNat]
  simp [hi]
theorem pop8_part (X j : Nat) : fb_sm (fun i => if X.testBit (j + i) = true then 1 else 0) 8 = pop8 (X / 2 ^ j % 256) := by
  unfold pop8
  refine fb_sm_cong (fun i hi => ?_)
  rw [show (256 : Nat) = 2 ^ 8 from rfl, Nat.testBit_mod_two_pow, Nat.testBit_div_two_pow]
  simp [hi]
  rw [Nat.add_comm]
theorem bitsum_e (X : Nat) : bitsum (nI X) = popN X := by
  unfold bitsum
  rw [fb_sm_cong (g := fun i => if X.testBit (0 + i) = true then 1 else 0) (fun i hi => by rw [bt_nI hi, Nat.zero_add])]
  have h1 := fb_sm_split (fun i => if X.testBit (0 + i) = true then 1 else 0) 8 24
  have h2 := fb_sm_split (fun k => if X.testBit (0 + (8 + k)) = true then 1 else 0) 8 16
  have h3 := fb_sm_split (fun k => if X.testBit (0 + (8 + (8 + k))) = true then 1 else 0) 8 8
  have p0 := pop8_part X 0
  have p1 := pop8_part X 8
  have p2 := pop8_part X 16
  have p3 := pop8_part X 24
  rw [show (8 : Nat) + 24 = 32 from rfl] at h1
  rw [show (8 : Nat) + 16 = 24 from rfl] at h2
  rw [show (8 : Nat) + 8 = 16 from rfl] at h3
  rw [h1, h2, h3]
  have q1 : (fun k => if X.testBit (0 + (8 + k)) = true then 1 else 0) = fun k => if X.testBit (8 + k) = true then 1 else 0 := funext fun k => by rw [Nat.zero_add]
  have q2 : (fun k => if X.testBit (0 + (8 + (8 + k))) = true then 1 else 0) = fun k => if X.testBit (16 + k) = true then 1 else 0 := funext fun k => by rw [show 0 + (8 + (8 + k)) = 16 + k by omega]
  have q3 : (fun k => if X.testBit (0 + (8 + (8 + (8 + k)))) = true then 1 else 0) = fun k => if X.testBit (24 + k) = true then 1 else 0 := funext fun k => by rw [show 0 + (8 + (8 + (8 + k))) = 24 + k by omega]
  rw [q1, q2, q3, p0, p1, p2, p3]
  unfold popN
  rw [show X / 2 ^ 0 = X by simp]
  simp only [Nat.reducePow]
  omega
theorem x_count {x : Int32} {Q : Int32 → Prop} (k : Q (nI (bitsum x))) : pJ6_bitCount_0f7a4 x Q := by
  have e : x = nI x.toBitVec.toNat := Int32.toBitVec_inj.mp (by show _ = BitVec.ofNat 32 _; simp)
  rw [e] at k ⊢
  rw [bitsum_e] at k
  exact x_bitCount x.toBitVec.isLt k
theorem words_sum (words : Nat → Int32) : ∀ n, fb_sm (fun i => bitsum (words i)) n = fb_sm (fun j => if bt (words (j / 32)) (j % 32) = true then 1 else 0) (32 * n)
  | 0 => rfl
  | n + 1 => by
    rw [fb_sm_succ, words_sum words n, show 32 * (n + 1) = 32 * n + 32 by omega, fb_sm_split]
    congr 1
    unfold bitsum
    refine fb_sm_cong (fun i hi => ?_)
    rw [show (32 * n + i) / 32 = n by omega, show (32 * n + i) % 32 = i by omega]
theorem x_ones {n : Nat} (hn : n < 1000000) {words : Nat → Int32} {Q : Int32 → Prop} (k : Q (nI (fb_sm (fun i => bitsum (words i)) n))) : pX6_countOnes n words Q := by
  refine Lp.up n (fun i v => v = (nI (fb_sm (fun i => bitsum (words i)) i), nI i)) ?_ (Nat.zero_le _) rfl
  rintro i v hi rfl
  refine ⟨fun c => ?_, fun c => ?_⟩
  · have hc := (nI_leI (by omega) (by omega)).mp c
    rw [show i = n by omega]; exact k
  · have hlt' : i < n := by
      rcases Nat.lt_or_ge i n with g | g
      · exact g
      · exact absurd (nI_le g (by omega)) c
    refine ⟨vp_in_nI hlt' (by omega), ?_⟩
    rw [nI_clamp (show i < 2 ^ 31 by omega)]
    refine x_count (fun x5 e5 x6 e6 => ⟨hlt', ?_⟩)
    rw [e5, e6, nI_add, nI_1]
    rfl
theorem m_ones {tape : Nat → Int32} {f : Nat → Nat} (hf : ∀ j, j < 10003 → tape j = nI (f j)) {Q : Int32 → Prop} (k : Q (nI (fb_sm f 10003))) : pX9_ones tape Q := by
  refine Lp.up 10003 (fun i v => v = (nI (fb_sm f i), nI i)) ?_ (Nat.zero_le _) rfl
  rintro i v hi rfl
  refine ⟨fun c => ?_, fun c => ?_⟩
  · have hc := (nI_leI (by omega) (by omega)).mp c
    rw [show i = 10003 by omega]; exact k
  · have hlt' : i < 10003 := by
      rcases Nat.lt_or_ge i 10003 with g | g
      · exact g
      · exact absurd (nI_le g (by omega)) c
    refine ⟨vp_in_nI hlt' (by omega), ?_⟩
    rw [nI_clamp (show i < 2 ^ 31 by omega)]
    intro x3 e3 x4 e4
    rw [e3, e4, hf i hlt', nI_add, nI_1]
    exact ⟨hlt', rfl⟩
theorem sm_tail {f : Nat → Nat} {m : Nat} : ∀ {n : Nat}, (∀ k, m ≤ k → k < m + n → f k = 0) → fb_sm f (m + n) = fb_sm f m
  | 0, _ => rfl
  | n + 1, h => by
    have ih := sm_tail (f := f) (m := m) (n := n) (fun k a b => h k a (by omega))
    show fb_sm f (m + n) + f (m + n) = _
    rw [ih, h (m + n) (by omega) (by omega)]
    rfl
theorem O_ones : Ob_ones Iv := by
  intro c wr mv fo words st hd ti lo hi codes len ss has wri mov nex text typ tape on mt ms mh hI
  obtain ⟨cnt, tm, hW, hX, hM, ⟨n, q, h, t, l, r, hw, ⟨x1, x2, x3, x4, x5, x6⟩, ⟨m1, m2, m3, m4, m5⟩⟩, hT⟩ := id hI
  obtain ⟨c1, c2, c3, c4, c5, c6, c7, c8, c9, c10⟩ := hw
  refine x_ones (by omega) (m_ones m4 ⟨?_, hI⟩)
  refine congrArg nI ?_
  rw [words_sum]
  have a1 : fb_sm (fun j => if bt (words (j / 32)) (j % 32) = true then 1 else 0) (32 * 313) = fb_sm (fun j : Nat => t ((j : Int) - 5000)) (32 * 313) := by
    refine fb_sm_cong (fun j hj => ?_)
    rw [x6 j hj]
    exact cellof (c9 _)
  have a2 : fb_sm (fun j : Nat => t ((j : Int) - 5000)) (32 * 313) = fb_sm (fun j : Nat => t ((j : Int) - 5000)) 10002 := sm_tail (m := 10002) (n := 14) (fun k g1 g2 => c10 _ (by omega))
  have a3 : fb_sm (fun j : Nat => t ((j : Int) - 5001)) 10003 = fb_sm (fun j : Nat => t ((j : Int) - 5000)) 10002 := by
    have e := fb_sm_split (fun j : Nat => t ((j : Int) - 5001)) 1 10002
    rw [show 1 + 10002 = 10003 from rfl] at e
    rw [e]
    have z : fb_sm (fun j : Nat => t ((j : Int) - 5001)) 1 = 0 := by
      show 0 + t (((0 : Nat) : Int) - 5001) = 0
      rw [c10 _ (by omega)]
    rw [z, Nat.zero_add]
    refine fb_sm_cong (fun j hj => ?_)
    show t (((1 + j : Nat) : Int) - 5001) = t ((j : Int) - 5000)
    congr 1
    omega
  rw [a1, a2, a3]
theorem sm_range {a b : Nat} (hab : a ≤ b) : ∀ n, fb_sm (fun c => if a ≤ c ∧ c < b then 1 else 0) n = min n b - min n a
  | 0 => by simp [fb_sm]
  | n + 1 => by
    rw [fb_sm_succ, sm_range hab n]
    by_cases e : a ≤ n ∧ n < b
    · rw [if_pos e]; omega
    · rw [if_neg e]; omega
theorem m_vis {on : Nat → Int32} {f : Nat → Nat} (hf : ∀ j, j < 10003 → on j = nI (f j) ∧ f j < 2) {Q : Int32 → Prop} (k : Q (nI (fb_sm f 10003))) : pX9_visited on Q := by
  refine Lp.up 10003 (fun i v => v = (nI (fb_sm f i), nI i)) ?_ (Nat.zero_le _) rfl
  rintro i v hi rfl
  refine ⟨fun c => ?_, fun c => ?_⟩
  · have hc := (nI_leI (by omega) (by omega)).mp c
    rw [show i = 10003 by omega]; exact k
  · have hlt' : i < 10003 := by
      rcases Nat.lt_or_ge i 10003 with g | g
      · exact g
      · exact absurd (nI_le g (by omega)) c
    refine ⟨vp_in_nI hlt' (by omega), ?_⟩
    rw [nI_clamp (show i < 2 ^ 31 by omega)]
    obtain ⟨e1, e2⟩ := hf i hlt'
    rw [e1]
    have fin : ∀ y : Int32, y = nI (f i) → pX9_visited_j28 on Q (fun b => i < 10003 ∧ b = (nI (fb_sm f (i + 1)), nI (i + 1))) (nI i) (nI (fb_sm f i)) y := by
      rintro y rfl x4 e4 x5 e5
      rw [e4, e5, nI_add, nI_1]
      exact ⟨hlt', rfl⟩
    refine ⟨fun z => fin 0 z.symm, fun z => fin 1 ?_⟩
    have : f i = 1 := by
      have : ¬ f i = 0 := fun e => z (by rw [e]; rfl)
      omega
    rw [this]; rfl
theorem O_visited : Ob_visited Iv := by
  intro c wr mv fo words st hd ti lo hi codes len ss has wri mov nex text typ tape on mt ms mh hI
  obtain ⟨cnt, tm, hW, hX, hM, ⟨n, q, h, t, l, r, hw, ⟨x1, x2, x3, x4, x5, x6⟩, ⟨m1, m2, m3, m4, m5⟩⟩, hT⟩ := id hI
  obtain ⟨c1, c2, c3, c4, c5, c6, c7, c8, c9, c10⟩ := hw
  refine m_vis (f := fun c => if (l + 5001).toNat ≤ c ∧ c < (r + 5002).toNat then 1 else 0) (fun j hj => ⟨?_, ?_⟩) ⟨?_, hI⟩
  · rw [m5 j hj]
    by_cases e : l ≤ (j : Int) - 5001 ∧ (j : Int) - 5001 ≤ r
    · rw [if_pos e, if_pos (by omega)]; rfl
    · rw [if_neg e, if_neg (by omega)]; rfl
  · split <;> omega
  · rw [x4, x5, iI_1, iI_sub, iI_add, sm_range (by omega), iI_nat]
    congr 1
    omega
