/-! own: load -/
def Bad (cd : Nat → Int32) (len j : Nat) : Prop := Ltr (cd j) ∧ ¬ cd j - 65 < nI ((len + 1) / 7)
/-- where load finds the text wrong -/
def FW (cd : Nat → Int32) (len : Nat) (o : Option Nat) : Prop := match o with
  | none => (∀ i, i < len → Fit cd i) ∧ len % 7 = 6 ∧ ∀ i, i < len → ¬ Bad cd len i
  | some j => (j < len ∧ ¬ Fit cd j ∧ ∀ i, i < j → Fit cd i) ∨ (j = len ∧ (∀ i, i < len → Fit cd i) ∧ ¬ len % 7 = 6) ∨ ((∀ i, i < len → Fit cd i) ∧ len % 7 = 6 ∧ j < len ∧ Bad cd len j ∧ ∀ i, i < j → ¬ Bad cd len i)
theorem Fit_cong {cd ce : Nat → Int32} {len j : Nat} (h : ∀ i, i < len → cd i = ce i) (hj : j < len) : Fit cd j ↔ Fit ce j := by
  unfold Fit
  rw [h j hj, h (j - j % 7 % 3) (by omega)]
theorem FW_cong {cd ce : Nat → Int32} {len : Nat} {o : Option Nat} (h : ∀ i, i < len → cd i = ce i) (hF : FW cd len o) : FW ce len o := by
  have hf : ∀ i, i < len → (Fit cd i ↔ Fit ce i) := fun i hi => Fit_cong h hi
  have hb : ∀ i, i < len → (Bad cd len i ↔ Bad ce len i) := fun i hi => by unfold Bad; rw [h i hi]
  cases o with
  | none =>
    obtain ⟨a, b, c⟩ := hF
    exact ⟨fun i hi => (hf i hi).mp (a i hi), b, fun i hi q => c i hi ((hb i hi).mpr q)⟩
  | some j =>
    rcases hF with ⟨a, b, c⟩ | ⟨a, b, c⟩ | ⟨a, b, c, d, e⟩
    · exact Or.inl ⟨a, fun q => b ((hf j a).mpr q), fun i hi => (hf i (by omega)).mp (c i hi)⟩
    · exact Or.inr (Or.inl ⟨a, fun i hi => (hf i hi).mp (b i hi), c⟩)
    · exact Or.inr (Or.inr ⟨fun i hi => (hf i hi).mp (a i hi), b, c, (hb j c).mp d, fun i hi q => e i hi ((hb i (by omega)).mpr q)⟩)
theorem FW_one {cd : Nat → Int32} {len : Nat} {o o' : Option Nat} (h : FW cd len o) (h' : FW cd len o') : o = o' := by
  cases o with
  | none =>
    obtain ⟨a, b, c⟩ := h
    cases o' with
    | none => rfl
    | some j =>
      rcases h' with ⟨a', b', c'⟩ | ⟨a', b', c'⟩ | ⟨a', b', c', d', e'⟩
      · exact absurd (a j a') b'
      · exact absurd b c'
      · exact absurd d' (c j c')
  | some i =>
    cases o' with
    | none =>
      obtain ⟨a, b, c⟩ := h'
      rcases h with ⟨a', b', c'⟩ | ⟨a', b', c'⟩ | ⟨a', b', c', d', e'⟩
      · exact absurd (a i a') b'
      · exact absurd b c'
      · exact absurd d' (c i c')
    | some j =>
      congr 1
      rcases h with ⟨a, b, c⟩ | ⟨a, b, c⟩ | ⟨a, b, c, d, e⟩
      · rcases h' with ⟨a', b', c'⟩ | ⟨a', b', c'⟩ | ⟨a', b', c', d', e'⟩
        · rcases Nat.lt_trichotomy i j with q | q | q
          · exact absurd (c' i q) b
          · exact q
          · exact absurd (c j q) b'
        · exact absurd (b' i a) b
        · exact absurd (a' i a) b
      · rcases h' with ⟨a', b', c'⟩ | ⟨a', b', c'⟩ | ⟨a', b', c', d', e'⟩
        · exact absurd (b j a') b'
        · omega
        · exact absurd b' c
      · rcases h' with ⟨a', b', c'⟩ | ⟨a', b', c'⟩ | ⟨a', b', c', d', e'⟩
        · exact absurd (a j a') b'
        · exact absurd b c'
        · rcases Nat.lt_trichotomy i j with q | q | q
          · exact absurd d (e' i q)
          · exact q
          · exact absurd d' (e j q)
theorem rows_e {len : Nat} (h : len ≤ 40) : (nI len + 1) / 7 = nI ((len + 1) / 7) := by rw [nI_1, div7 (by omega)]
theorem x_fw {cd : Nat → Int32} {len : Nat} {Q : Int32 → Prop} (hl : len ≤ 40) (k0 : FW cd len none → Q (-1)) (k1 : ∀ j, j ≤ len → FW cd len (some j) → Q (nI j)) : pX7_firstWrong cd (nI len) Q := by
  refine Lp.up len (fun i v => v = nI i ∧ ∀ j, j < i → Fit cd j) ?_ (Nat.zero_le _) ⟨rfl, fun j hj => absurd hj (Nat.not_lt_zero _)⟩
  rintro i l1 hi ⟨rfl, hf⟩
  refine ⟨fun c => ?_, fun c => ?_⟩
  · have hc := (nI_leI (by omega) (by omega)).mp c
    have he : i = len := by omega
    subst he
    rw [rem7 (by omega)]
    refine ⟨fun z => ?_, fun z => ?_⟩
    · have q : ¬ i % 7 = 6 := fun e => z (by rw [e]; rfl)
      exact ⟨fun h => absurd h (nI_m1 (by omega)), fun _ => k1 i (by omega) (Or.inr (Or.inl ⟨rfl, hf, q⟩))⟩
    · have q : i % 7 = 6 := (nI_eq (b := 6) (by omega) (by omega)).mp z
      refine ⟨fun _ => ?_, fun h => absurd rfl h⟩
      show Lp _ _
      refine Lp.up i (fun j v => v = nI j ∧ ∀ k, k < j → ¬ Bad cd i k) ?_ (Nat.zero_le _) ⟨rfl, fun j hj => absurd hj (Nat.not_lt_zero _)⟩
      rintro j l2 hj ⟨rfl, hb⟩
      refine ⟨fun c2 => ?_, fun c2 => ?_⟩
      · have hc2 := (nI_leI (by omega) (by omega)).mp c2
        exact k0 ⟨hf, q, fun k hk => hb k (by omega)⟩
      · have hlt : j < i := by
          rcases Nat.lt_or_ge j i with g | g
          · exact g
          · exact absurd (nI_le g (by omega)) c2
        have nx : ¬ Bad cd i j → pX7_firstWithoutRow_j38 cd (nI i) Q (fun b => j < i ∧ b = nI (j + 1) ∧ ∀ k, k < j + 1 → ¬ Bad cd i k) ((nI i + 1) / 7) (nI j) := by
          intro hbad x9 e9
          rw [e9, nI_1]
          refine ⟨hlt, rfl, fun k hk => ?_⟩
          by_cases e : k = j
          · subst e; exact hbad
          · exact hb k (by omega)
        refine x_code hl hlt (x_letter (fun hL => ⟨fun h => absurd h n10, fun _ => ?_⟩) (fun hL => ⟨fun _ => nx (fun b => hL b.1), fun h => absurd rfl h⟩))
        rw [rows_e hl] at nx ⊢
        exact ⟨fun g => nx (fun b => b.2 g), fun g => k1 j (by omega) (Or.inr (Or.inr ⟨hf, q, hlt, ⟨hL, g⟩, hb⟩))⟩
  · have hlt : i < len := by
      rcases Nat.lt_or_ge i len with g | g
      · exact g
      · exact absurd (nI_le g (by omega)) c
    refine x_fits hl hlt (fun hF => ⟨fun _ => ?_, fun h => absurd h n10⟩) (fun hF => ⟨fun h => absurd rfl h, fun _ => ⟨fun h => absurd h (nI_m1 (by omega)), fun _ => k1 i (by omega) (Or.inl ⟨hlt, hF, hf⟩)⟩⟩)
    intro x6 e6
    rw [e6, nI_1]
    refine ⟨hlt, rfl, fun j hj => ?_⟩
    by_cases e : j = i
    · subst e; exact hF
    · exact hf j (by omega)
theorem fit_letter {cd : Nat → Int32} {j : Nat} (h : Fit cd j) (hL : Ltr (cd j)) : j % 7 = 2 ∨ j % 7 = 5 := by
  unfold Fit at h
  have n1 : ¬ Ltr 95 := by unfold Ltr; decide
  have n2 : ¬ Ltr 48 := by unfold Ltr; decide
  have n3 : ¬ Ltr 49 := by unfold Ltr; decide
  have n4 : ¬ Ltr 45 := by unfold Ltr; decide
  have n5 : ¬ Ltr 76 := by unfold Ltr; decide
  have n6 : ¬ Ltr 82 := by unfold Ltr; decide
  by_cases h6 : j % 7 = 6
  · rw [if_pos h6] at h; rw [h.1] at hL; exact absurd hL n1
  · rw [if_neg h6] at h
    by_cases h0 : j % 7 % 3 = 0
    · rw [if_pos h0] at h
      rcases h with h | h | h <;> rw [h] at hL
      · exact absurd hL n2
      · exact absurd hL n3
      · exact absurd hL n4
    · rw [if_neg h0] at h
      by_cases h45 : cd (j - j % 7 % 3) = 45
      · rw [if_pos h45] at h; rw [h] at hL; exact absurd hL n4
      · rw [if_neg h45] at h
        by_cases h1 : j % 7 % 3 = 1
        · rw [if_pos h1] at h
          rcases h with h | h <;> rw [h] at hL
          · exact absurd hL n5
          · exact absurd hL n6
        · omega
theorem m_fw {cd : Nat → Int32} {len : Nat} {Q : Int32 → Prop} (hl : len ≤ 40) (k0 : FW cd len none → Q (-1005)) (k1 : ∀ j, j ≤ len → FW cd len (some j) → Q (nI j)) : pX9_firstWrong cd (nI len) Q := by
  refine Lp.up len (fun i v => v = nI i ∧ ∀ j, j < i → Fit cd j) ?_ (Nat.zero_le _) ⟨rfl, fun j hj => absurd hj (Nat.not_lt_zero _)⟩
  rintro i l1 hi ⟨rfl, hf⟩
  refine ⟨fun c => ?_, fun c => ?_⟩
  · have hc := (nI_leI (by omega) (by omega)).mp c
    have he : i = len := by omega
    subst he
    rw [rem7 (by omega)]
    refine ⟨fun z => ?_, fun z => ?_⟩
    · have q : i % 7 = 6 := (nI_eq (b := 6) (by omega) (by omega)).mp z
      intro x3 e3
      rw [rows_e hl] at e3
      subst e3
      refine Lp.up i (fun j v => v = nI j ∧ ∀ k, k < j → ¬ Bad cd i k) ?_ (Nat.zero_le _) ⟨rfl, fun j hj => absurd hj (Nat.not_lt_zero _)⟩
      rintro j l2 hj ⟨rfl, hb⟩
      refine ⟨fun c2 => ?_, fun c2 => ?_⟩
      · have hc2 := (nI_leI (by omega) (by omega)).mp c2
        exact k0 ⟨hf, q, fun k hk => hb k (by omega)⟩
      · have hlt : j < i := by
          rcases Nat.lt_or_ge j i with g | g
          · exact g
          · exact absurd (nI_le g (by omega)) c2
        have nx : ¬ Bad cd i j → pX9_firstWrong_j120 cd (nI i) Q (fun b => j < i ∧ b = nI (j + 1) ∧ ∀ k, k < j + 1 → ¬ Bad cd i k) (nI ((i + 1) / 7)) (nI j) := by
          intro hbad x9 e9
          rw [e9, nI_1]
          refine ⟨hlt, rfl, fun k hk => ?_⟩
          by_cases e : k = j
          · subst e; exact hbad
          · exact hb k (by omega)
        have j79 : pX9_firstWrong_j79 cd (nI i) Q (fun b => j < i ∧ b = nI (j + 1) ∧ ∀ k, k < j + 1 → ¬ Bad cd i k) (nI ((i + 1) / 7)) (nI j) := by
          refine ⟨fun h => absurd h n10, fun _ => ⟨vp_in_nI (by omega) (by omega), ?_⟩⟩
          rw [nI_clamp (show j < 2 ^ 31 by omega)]
          refine m_letter (fun hL => ⟨fun h => absurd h n10, fun _ => ⟨vp_in_nI (by omega) (by omega), fun g => nx (fun b => b.2 g), fun g => k1 j (by omega) (Or.inr (Or.inr ⟨hf, q, hlt, ⟨hL, g⟩, hb⟩))⟩⟩) (fun hL => ⟨fun _ => nx (fun b => hL b.1), fun h => absurd rfl h⟩)
        rw [rem7 (by omega)]
        refine ⟨fun _ => j79, fun y => ⟨fun y2 => ⟨fun _ => nx (fun b => ?_), fun h => absurd rfl h⟩, fun _ => j79⟩⟩
        rcases fit_letter (hf j hlt) b.1 with g | g
        · exact y (by rw [g]; rfl)
        · exact y2 (by rw [g]; rfl)
    · have q : ¬ i % 7 = 6 := fun e => z (by rw [e]; rfl)
      exact k1 i (by omega) (Or.inr (Or.inl ⟨rfl, hf, q⟩))
  · have hlt : i < len := by
      rcases Nat.lt_or_ge i len with g | g
      · exact g
      · exact absurd (nI_le g (by omega)) c
    refine m_fits (by omega) (fun hF => ⟨fun _ => ?_, fun h => absurd h n10⟩) (fun hF => ⟨fun h => absurd rfl h, fun _ => k1 i (by omega) (Or.inl ⟨hlt, hF, hf⟩)⟩)
    intro x6 e6
    rw [e6, nI_1]
    refine ⟨hlt, rfl, fun j hj => ?_⟩
    by_cases e : j = i
    · subst e; exact hF
    · exact hf j (by omega)
