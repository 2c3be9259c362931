/-! own: cycles -/
def c3 (tm : TM) (i : Nat) : Nat × Int × (Int → Nat) := ((cf tm i).1, (cf tm i).2.1, (cf tm i).2.2.1)
theorem c3_succ {tm : TM} {i j : Nat} (h : c3 tm i = c3 tm j) : c3 tm (i + 1) = c3 tm (j + 1) := by
  have h1 : (cf tm i).1 = (cf tm j).1 := congrArg (·.1) h
  have h2 : (cf tm i).2.1 = (cf tm j).2.1 := congrArg (·.2.1) h
  have h3 : (cf tm i).2.2.1 = (cf tm j).2.2.1 := congrArg (·.2.2) h
  have e1 : cf tm (i + 1) = stE tm (cf tm i) := rfl
  have e2 : cf tm (j + 1) = stE tm (cf tm j) := rfl
  unfold c3
  rw [e1, e2]
  unfold stE
  rw [h1, h2, h3]
  cases rd tm (cf tm j).1 (cf tm j).2.1 (cf tm j).2.2.1 with
  | none => exact h
  | some x => obtain ⟨a, b, d⟩ := x; rfl
theorem c3_add {tm : TM} {i j : Nat} (h : c3 tm i = c3 tm j) : ∀ k, c3 tm (i + k) = c3 tm (j + k)
  | 0 => h
  | k + 1 => c3_succ (c3_add h k)
theorem c3_hlt {tm : TM} {i j : Nat} (h : c3 tm i = c3 tm j) (hh : hlt tm (cf tm j)) : hlt tm (cf tm i) := by
  have h1 : (cf tm i).1 = (cf tm j).1 := congrArg (·.1) h
  have h2 : (cf tm i).2.1 = (cf tm j).2.1 := congrArg (·.2.1) h
  have h3 : (cf tm i).2.2.1 = (cf tm j).2.2.1 := congrArg (·.2.2) h
  unfold hlt
  rw [h1, h2, h3]
  exact hh
theorem x_stateAt {i : Nat} {f : Nat → Int32} {Q : Int32 → Prop} (hi : i ≤ 200) (k : Q (f i)) : pX3_stateAt (nI i) f Q := by
  refine ⟨fun c => absurd c (nI_pos (by omega)), fun _ => ⟨fun c => absurd c (nI_ge (b := 201) (by omega) (by omega)), fun _ => ⟨vp_in_nI (by omega) (by omega), ?_⟩⟩⟩
  rw [nI_clamp (show i < 2 ^ 31 by omega)]; exact k
theorem x_headAt {i : Nat} {f : Nat → Int32} {Q : Int32 → Prop} (hi : i ≤ 200) (k : Q (f i)) : pX3_headAt (nI i) f Q := by
  refine ⟨fun c => absurd c (nI_pos (by omega)), fun _ => ⟨fun c => absurd c (nI_ge (b := 201) (by omega) (by omega)), fun _ => ⟨vp_in_nI (by omega) (by omega), ?_⟩⟩⟩
  rw [nI_clamp (show i < 2 ^ 31 by omega)]; exact k
theorem cf_h {cnt L i : Nat} {tm : TM} (hW : WF cnt tm) (hn : nh tm L) (hL : L ≤ 200) (hi : i ≤ L) : -200 ≤ (cf tm i).2.1 ∧ (cf tm i).2.1 ≤ 200 ∧ (cf tm i).1 ≤ 9 ∧ (∀ p, (cf tm i).2.2.1 p < 2) ∧ ∀ p, p < -200 ∨ 200 < p → (cf tm i).2.2.1 p = 0 := by
  obtain ⟨c1, c2, c3, c4, c5, c6, c7, c8, c9, c10⟩ := CE_cf hW hn (by omega) i hi
  have := hW.2.1
  exact ⟨by omega, by omega, by omega, c9, fun p hp => c10 p (by omega)⟩
theorem t_ext {t u : Int → Nat} (ht : ∀ p, p < -200 ∨ 200 < p → t p = 0) (hu : ∀ p, p < -200 ∨ 200 < p → u p = 0) (h : ∀ p, -200 ≤ p → p ≤ 200 → t p = u p) : t = u := by
  funext p
  by_cases g : -200 ≤ p ∧ p ≤ 200
  · exact h p g.1 g.2
  · rw [ht p (by omega), hu p (by omega)]
theorem x_tapes {cnt L i j : Nat} {tm : TM} {sr hr rr lr tr : Nat → Int32} {Q : Int32 → Prop} (hW : WF cnt tm) (hn : nh tm L) (hL : L ≤ 200) (hH : HX tm L sr hr rr lr tr) (hi : i ≤ L) (hj : j ≤ L) (k1 : (cf tm i).2.2.1 = (cf tm j).2.2.1 → Q 1) (k0 : ¬ (cf tm i).2.2.1 = (cf tm j).2.2.1 → Q 0) : pX3_haveEqualTapes (nI i) (nI j) tr Q := by
  obtain ⟨-, -, -, i4, i5⟩ := cf_h hW hn hL hi
  obtain ⟨-, -, -, j4, j5⟩ := cf_h hW hn hL hj
  obtain ⟨-, -, -, -, bi⟩ := hH i hi
  obtain ⟨-, -, -, -, bj⟩ := hH j hj
  refine ⟨fun c => absurd c (nI_pos (by omega)), fun _ => ⟨fun c => absurd c (nI_nlt (a := 200) (by omega) (by omega)), fun _ => ⟨fun c => absurd c (nI_pos (by omega)), fun _ => ⟨fun _ => ?_, fun c => absurd (nI_le (b := 200) (by omega) (by omega)) c⟩⟩⟩⟩
  refine Lp.up 13 (fun m v => v = nI m ∧ ∀ w, w < m → tr (13 * i + w) = tr (13 * j + w)) ?_ (Nat.zero_le _) ⟨rfl, fun w hw => absurd hw (Nat.not_lt_zero _)⟩
  rintro m v hm ⟨rfl, hw⟩
  refine ⟨fun c => k1 ?_, fun c => ?_⟩
  · have hc := (nI_leI (a := 13) (by omega) (by omega)).mp c
    refine t_ext i5 j5 (fun p p1 p2 => ?_)
    have e1 := bi (p + 200).toNat (by omega)
    have e2 := bj (p + 200).toNat (by omega)
    dsimp only at e1 e2
    rw [hw _ (by omega), e2, show (((p + 200).toNat : Nat) : Int) - 200 = p by omega] at e1
    have a1 := i4 p
    have a2 := j4 p
    rcases (show (cf tm i).2.2.1 p = 0 ∨ (cf tm i).2.2.1 p = 1 by omega) with u | u <;> rcases (show (cf tm j).2.2.1 p = 0 ∨ (cf tm j).2.2.1 p = 1 by omega) with v | v <;> simp [u, v] at e1 ⊢
  · have hlt' : m < 13 := by
      rcases Nat.lt_or_ge m 13 with q | q
      · exact q
      · exact absurd (nI_le (a := 13) q (by omega)) c
    have e13 : ∀ a : Nat, (13 : Int32) * nI a + nI m = nI (13 * a + m) := fun a => by rw [show (13 : Int32) = nI 13 from rfl, pk_mul, nI_add]
    rw [e13, e13, nI_clamp (show 13 * i + m < 2 ^ 31 by omega), nI_clamp (show 13 * j + m < 2 ^ 31 by omega)]
    refine ⟨vp_in_nI (by omega) (by omega), vp_in_nI (by omega) (by omega), fun g => ?_, fun g => k0 (fun e => g ?_)⟩
    · intro x9 e9
      rw [e9, nI_1]
      refine ⟨hlt', rfl, fun w hw2 => ?_⟩
      by_cases e : w = m
      · subst e; exact g
      · exact hw w (by omega)
    · apply b_ext
      intro b hb
      have e1 := bi (32 * m + b) (by omega)
      have e2 := bj (32 * m + b) (by omega)
      rw [show (32 * m + b) / 32 = m by omega, show (32 * m + b) % 32 = b by omega] at e1 e2
      dsimp only at e1 e2
      rw [e1, e2, e]
theorem x_areEq {cnt L i j : Nat} {tm : TM} {sr hr rr lr tr : Nat → Int32} {Q : Int32 → Prop} (hW : WF cnt tm) (hn : nh tm L) (hL : L ≤ 200) (hH : HX tm L sr hr rr lr tr) (hi : i ≤ L) (hj : j ≤ L) (k1 : c3 tm i = c3 tm j → Q 1) (k0 : ¬ c3 tm i = c3 tm j → Q 0) : pX3_areEqual (nI i) (nI j) sr hr tr Q := by
  obtain ⟨i1, i2, i3, i4, i5⟩ := cf_h hW hn hL hi
  obtain ⟨j1, j2, j3, j4, j5⟩ := cf_h hW hn hL hj
  obtain ⟨si, hi', -, -, -⟩ := hH i hi
  obtain ⟨sj, hj', -, -, -⟩ := hH j hj
  refine x_headAt (by omega) (x_headAt (by omega) ?_)
  rw [hi', hj']
  refine ⟨fun c => k0 (fun e => c ?_), fun c => ?_⟩
  · rw [show (cf tm i).2.1 = (cf tm j).2.1 from congrArg (·.2.1) e]
  · have eh := (iI_eq ⟨by omega, by omega⟩ ⟨by omega, by omega⟩).mp c
    refine x_stateAt (by omega) (x_stateAt (by omega) ?_)
    rw [si, sj]
    refine ⟨fun c => k0 (fun e => c ?_), fun c => ?_⟩
    · rw [show (cf tm i).1 = (cf tm j).1 from congrArg (·.1) e]
    · have eq := (nI_eq (by omega) (by omega)).mp c
      refine x_tapes hW hn hL hH hi hj (fun e => ⟨fun g => absurd g n10, fun _ => k1 ?_⟩) (fun e => ⟨fun _ => k0 (fun g => e (congrArg (·.2.2) g)), fun g => absurd rfl g⟩)
      unfold c3
      rw [eq, eh, e]
theorem m_areEq {cnt L i j : Nat} {tm : TM} {cells heads sts : Nat → Int32} {Q : Int32 → Prop} (hW : WF cnt tm) (hn : nh tm L) (hL : L ≤ 200) (hH : HM tm L cells heads sts) (hi : i ≤ L) (hj : j ≤ L) (k1 : c3 tm i = c3 tm j → Q 1) (k0 : ¬ c3 tm i = c3 tm j → Q 0) : pX9_areEqual (nI i) (nI j) cells heads sts Q := by
  obtain ⟨i1, i2, i3, i4, i5⟩ := cf_h hW hn hL hi
  obtain ⟨j1, j2, j3, j4, j5⟩ := cf_h hW hn hL hj
  obtain ⟨si, hi', ti⟩ := hH i hi
  obtain ⟨sj, hj', tj⟩ := hH j hj
  have hin : vp_in (nI i) 201 := vp_in_nI (by omega) (by omega)
  have hjn : vp_in (nI j) 201 := vp_in_nI (by omega) (by omega)
  refine ⟨hin, hjn, ?_⟩
  rw [nI_clamp (show i < 2 ^ 31 by omega), nI_clamp (show j < 2 ^ 31 by omega), si, sj, hi', hj']
  have no : ¬ c3 tm i = c3 tm j → pX9_areEqual_j34 (nI i) (nI j) cells heads sts Q := by
    intro e
    refine Lp.up 403 (fun m v => v = (0, nI m)) ?_ (Nat.zero_le _) rfl
    rintro m v hm rfl
    exact ⟨fun _ => ⟨isB_0, k0 e⟩, fun _ => ⟨fun _ => ⟨isB_0, k0 e⟩, fun g => absurd rfl g⟩⟩
  refine ⟨fun c => no (fun e => c ?_), fun c => ⟨hin, hjn, fun c2 => no (fun e => c2 ?_), fun c2 => ?_⟩⟩
  · rw [show (cf tm i).1 = (cf tm j).1 from congrArg (·.1) e]
  · rw [show (cf tm i).2.1 = (cf tm j).2.1 from congrArg (·.2.1) e]
  · have eq := (nI_eq (by omega) (by omega)).mp c
    have eh := (iI_eq ⟨by omega, by omega⟩ ⟨by omega, by omega⟩).mp c2
    refine Lp.up 403 (fun m v => (v = (1, nI m) ∧ ∀ w, w < m → cells (403 * i + w) = cells (403 * j + w)) ∨ (v = (0, nI m) ∧ ¬ (cf tm i).2.2.1 = (cf tm j).2.2.1)) ?_ (Nat.zero_le _) (Or.inl ⟨rfl, fun w hw => absurd hw (Nat.not_lt_zero _)⟩)
    rintro m v hm (⟨rfl, hw⟩ | ⟨rfl, hne⟩)
    · refine ⟨fun c => ⟨isB_1, k1 ?_⟩, fun c => ⟨fun g => absurd g n10, fun _ => ?_⟩⟩
      · have hc := (nI_leI (a := 403) (by omega) (by omega)).mp c
        unfold c3
        rw [eq, eh, t_ext i5 j5 (fun p p1 p2 => ?_)]
        have e1 := hw (p + 201).toNat (by omega)
        rw [ti _ (by omega), tj _ (by omega), show (((p + 201).toNat : Nat) : Int) - 201 = p by omega] at e1
        have a1 := i4 p
        have a2 := j4 p
        exact (nI_eq (by omega) (by omega)).mp e1
      · have hlt' : m < 403 := by
          rcases Nat.lt_or_ge m 403 with q | q
          · exact q
          · exact absurd (nI_le (a := 403) q (by omega)) c
        rw [e403, e403, nI_clamp (show 403 * i + m < 2 ^ 31 by omega), nI_clamp (show 403 * j + m < 2 ^ 31 by omega)]
        refine ⟨vp_in_nI (by omega) (by omega), vp_in_nI (by omega) (by omega), fun g => ?_, fun g => ?_⟩
        · intro x9 e9
          rw [e9, nI_1]
          refine ⟨hlt', Or.inr ⟨rfl, fun e => g ?_⟩⟩
          rw [ti _ hlt', tj _ hlt', e]
        · intro x9 e9
          rw [e9, nI_1]
          refine ⟨hlt', Or.inl ⟨rfl, fun w hw2 => ?_⟩⟩
          by_cases e : w = m
          · subst e; exact g
          · exact hw w (by omega)
    · have fin : Q 0 := k0 (fun e => hne (congrArg (·.2.2) e))
      exact ⟨fun _ => ⟨isB_0, fin⟩, fun _ => ⟨fun _ => ⟨isB_0, fin⟩, fun g => absurd rfl g⟩⟩
theorem x_lastEq {cnt L : Nat} {tm : TM} {sr hr rr lr tr : Nat → Int32} {Q : Int32 → Prop} (hW : WF cnt tm) (hn : nh tm L) (hL : L ≤ 200) (hH : HX tm L sr hr rr lr tr) (k1 : ∀ b, b < L → c3 tm b = c3 tm L → (∀ j, b < j → j < L → ¬ c3 tm j = c3 tm L) → Q (nI b)) (k0 : (∀ j, j < L → ¬ c3 tm j = c3 tm L) → Q (-1)) : pX3_lastEqualToTheLast sr hr tr (nI L) Q := by
  intro x1 e1
  rw [iI_nat, iI_1, iI_sub] at e1
  subst e1
  refine Lp.up L (fun i v => v = iI ((L : Int) - 1 - i) ∧ ∀ j, L ≤ j + i → j < L → ¬ c3 tm j = c3 tm L) ?_ (Nat.zero_le _) ⟨by congr 1; omega, fun j h1 h2 => absurd h1 (by omega)⟩
  rintro i v hi ⟨rfl, hj⟩
  refine ⟨fun c => k0 (fun j hj2 => hj j ?_ hj2), fun c => ?_⟩
  · rw [iI_0, iI_lt ⟨by omega, by omega⟩ ⟨by omega, by omega⟩] at c
    omega
  · rw [iI_0, iI_lt ⟨by omega, by omega⟩ ⟨by omega, by omega⟩] at c
    have ev : iI ((L : Int) - 1 - i) = nI (L - 1 - i) := by rw [iI_nat]; congr 1; omega
    rw [ev]
    refine x_areEq hW hn hL hH (by omega) (Nat.le_refl _) (fun e => ⟨fun g => absurd g n10, fun _ => k1 _ (by omega) e (fun j g1 g2 => hj j (by omega) g2)⟩) (fun e => ⟨fun _ => ?_, fun g => absurd rfl g⟩)
    intro x6 e6
    rw [← ev, iI_m1, iI_add] at e6
    refine ⟨by omega, ?_, fun j g1 g2 => ?_⟩
    · rw [e6]; congr 1; omega
    · by_cases q : j = L - 1 - i
      · subst q; exact e
      · exact hj j (by omega) g2
/-- what the class finds: the last time's configuration before, and the first time that comes again after as many steps -/
def CycX (tm : TM) (L b t1 : Nat) : Prop := b < L ∧ c3 tm b = c3 tm L ∧ (∀ j, b < j → j < L → ¬ c3 tm j = c3 tm L) ∧ t1 ≤ b ∧ c3 tm t1 = c3 tm (t1 + (L - b)) ∧ ∀ j, j < t1 → ¬ c3 tm j = c3 tm (j + (L - b))
theorem x_findCycle {cnt L : Nat} {tm : TM} {sr hr rr lr tr : Nat → Int32} {e0 l0 : Int32} {Q : Int32 → Int32 → Int32 → Prop} (hW : WF cnt tm) (hn : nh tm L) (hL : L ≤ 200) (hH : HX tm L sr hr rr lr tr) (k0 : (∀ j, j < L → ¬ c3 tm j = c3 tm L) → Q 0 e0 l0) (k1 : ∀ b t1, CycX tm L b t1 → Q 1 (nI t1) (nI (t1 + (L - b)))) : pX3_findCycle sr hr tr (nI L) e0 l0 Q := by
  refine x_lastEq hW hn hL hH (fun b b1 b2 b3 => ⟨fun _ => ?_, fun g => absurd g (nI_m1 (by omega))⟩) (fun h => ⟨fun g => absurd rfl g, fun _ => k0 h⟩)
  intro x4 e4
  rw [pk_sub (by omega)] at e4
  subst e4
  refine Lp.up b (fun i v => v = nI i ∧ ∀ j, j < i → ¬ c3 tm j = c3 tm (j + (L - b))) ?_ (Nat.zero_le _) ⟨rfl, fun j hj => absurd hj (Nat.not_lt_zero _)⟩
  rintro i v hi ⟨rfl, hj⟩
  refine ⟨fun c => absurd c (nI_nlt hi (by omega)), fun _ => ?_⟩
  rw [nI_add]
  refine x_areEq hW hn hL hH (by omega) (by omega) (fun e => ⟨fun g => absurd g n10, fun _ => ?_⟩) (fun e => ⟨fun _ => ?_, fun g => absurd rfl g⟩)
  · intro x10 e10
    subst e10
    exact k1 b i ⟨b1, b2, b3, hi, e, hj⟩
  · intro x9 e9
    rw [e9, nI_1]
    have hib : i < b := by
      rcases Nat.lt_or_ge i b with q | q
      · exact q
      · have : i = b := by omega
        subst this
        exact absurd (by rw [b2]; congr 1; omega) e
    refine ⟨hib, rfl, fun j h2 => ?_⟩
    by_cases q : j = i
    · subst q; exact e
    · exact hj j (by omega)
/-- what the reference finds -/
def CycM (tm : TM) (T t1 t2 : Nat) : Prop := t1 < t2 ∧ t2 < T ∧ c3 tm t1 = c3 tm t2 ∧ ∀ a b, a < b → b < t2 → ¬ c3 tm a = c3 tm b
theorem m_findCycle {cnt L T : Nat} {tm : TM} {cells heads sts : Nat → Int32} {e0 l0 : Int32} {Q : Int32 → Int32 → Prop} (hW : WF cnt tm) (hn : nh tm L) (hL : L ≤ 200) (hT : T ≤ L + 1) (hH : HM tm L cells heads sts) (k0 : (∀ a b, a < b → b < T → ¬ c3 tm a = c3 tm b) → Q (-1005) (-1005)) (k1 : ∀ t1 t2, CycM tm T t1 t2 → Q (nI t1) (nI (t2 - t1))) : pX9_findCycle cells heads sts (nI T) e0 l0 Q := by
  by_cases hT0 : T = 0
  · subst hT0
    refine Lp.up 1 (fun i v => v = (1, -1005, -1005)) ?_ (Nat.zero_le _) rfl
    rintro i v hi rfl
    exact ⟨fun _ => k0 (fun a b _ h => absurd h (Nat.not_lt_zero _)), fun c => absurd (by decide) c⟩
  refine Lp.up (T + 1) (fun i v => (v = (nI i, -1005, -1005) ∧ i ≤ T ∧ ∀ a b, a < b → b < i → ¬ c3 tm a = c3 tm b) ∨ (∃ t1 t2, CycM tm T t1 t2 ∧ i = t2 + 1 ∧ v = (nI i, nI t1, nI (t2 - t1)))) ?_ (i0 := 1) (by omega) (Or.inl ⟨rfl, by omega, fun a b h1 h2 => absurd h1 (by omega)⟩)
  rintro i v hi (⟨rfl, hiT, hd⟩ | ⟨t1, t2, hc, rfl, rfl⟩)
  · refine ⟨fun c => k0 (fun a b h1 h2 => hd a b h1 ?_), fun c => ⟨fun g => absurd g (by decide), fun _ => ?_⟩⟩
    · have := (nI_leI (by omega) (by omega)).mp c
      omega
    · have hlt' : i < T := by
        rcases Nat.lt_or_ge i T with q | q
        · exact q
        · exact absurd (nI_le q (by omega)) c
      have nx : (∀ a, a < i → ¬ c3 tm a = c3 tm i) → pX9_findCycle_j72 cells heads sts (nI T) Q (fun b => i < T + 1 ∧ ((b = (nI (i + 1), -1005, -1005) ∧ i + 1 ≤ T ∧ ∀ a b, a < b → b < i + 1 → ¬ c3 tm a = c3 tm b) ∨ ∃ t1 t2, CycM tm T t1 t2 ∧ i + 1 = t2 + 1 ∧ b = (nI (i + 1), nI t1, nI (t2 - t1)))) (nI i) (-1005) (-1005) := by
        intro hno x4 e4
        rw [e4, nI_1]
        refine ⟨by omega, Or.inl ⟨rfl, by omega, fun a b h1 h2 => ?_⟩⟩
        by_cases q : b = i
        · subst q; exact hno a h1
        · exact hd a b h1 (by omega)
      refine Lp.up (i + 1) (fun j v => (v = (nI j, -1005, -1005) ∧ j ≤ i ∧ ∀ a, a < j → ¬ c3 tm a = c3 tm i) ∨ (∃ t1, j = t1 + 1 ∧ t1 < i ∧ c3 tm t1 = c3 tm i ∧ v = (nI j, nI t1, nI (i - t1)))) ?_ (Nat.zero_le _) (Or.inl ⟨rfl, Nat.zero_le _, fun a ha => absurd ha (Nat.not_lt_zero _)⟩)
      rintro j v hj (⟨rfl, hji, hno⟩ | ⟨t1, rfl, ht1, he, rfl⟩)
      · refine ⟨fun c => nx (fun a ha => hno a ?_), fun c => ⟨fun g => absurd g (by decide), fun _ => ?_⟩⟩
        · have := (nI_leI (by omega) (by omega)).mp c
          omega
        · have hji' : j < i := by
            rcases Nat.lt_or_ge j i with q | q
            · exact q
            · exact absurd (nI_le q (by omega)) c
          refine m_areEq hW hn hL hH (by omega) (by omega) (fun e => ⟨fun g => absurd g n10, fun _ => ?_⟩) (fun e => ⟨fun _ => ?_, fun g => absurd rfl g⟩)
          · intro x10 e10
            rw [pk_sub (by omega)] at e10
            subst e10
            intro x9 e9
            rw [e9, nI_1]
            exact ⟨by omega, Or.inr ⟨j, rfl, hji', e, rfl⟩⟩
          · intro x9 e9
            rw [e9, nI_1]
            refine ⟨by omega, Or.inl ⟨rfl, hji', fun a ha => ?_⟩⟩
            by_cases q : a = j
            · subst q; exact e
            · exact hno a (by omega)
      · have fin : pX9_findCycle_j72 cells heads sts (nI T) Q (fun b => i < T + 1 ∧ ((b = (nI (i + 1), -1005, -1005) ∧ i + 1 ≤ T ∧ ∀ a b, a < b → b < i + 1 → ¬ c3 tm a = c3 tm b) ∨ ∃ t1 t2, CycM tm T t1 t2 ∧ i + 1 = t2 + 1 ∧ b = (nI (i + 1), nI t1, nI (t2 - t1)))) (nI i) (nI t1) (nI (i - t1)) := by
          intro x4 e4
          rw [e4, nI_1]
          exact ⟨by omega, Or.inr ⟨t1, i, ⟨ht1, hlt', he, hd⟩, rfl, rfl⟩⟩
        exact ⟨fun _ => fin, fun _ => ⟨fun _ => fin, fun c => absurd (nI_pos' (by omega)) c⟩⟩
  · have hb := hc.2.1
    have ha := hc.1
    have fin := k1 t1 t2 hc
    exact ⟨fun _ => fin, fun _ => ⟨fun _ => fin, fun c => absurd (nI_pos' (by omega)) c⟩⟩
/-! the two agree -/
theorem per {tm : TM} {s p : Nat} (h : c3 tm s = c3 tm (s + p)) : ∀ q r, c3 tm (s + (r + p * q)) = c3 tm (s + r)
  | 0, r => by simp
  | q + 1, r => by
    have ih := per h q r
    have e := c3_add h (r + p * q)
    rw [show s + (r + p * (q + 1)) = s + p + (r + p * q) by rw [Nat.mul_succ]; omega, ← e]
    exact ih
theorem cyc_no {tm : TM} {L : Nat} (h : ∀ j, j < L → ¬ c3 tm j = c3 tm L) : ∀ a b, a < b → b ≤ L → ¬ c3 tm a = c3 tm b := by
  intro a b hab hb e
  have e2 := c3_add e (L - b)
  rw [show b + (L - b) = L by omega] at e2
  exact h _ (by omega) e2
theorem cyc_same {tm : TM} {L b t1 s1 s2 : Nat} (hx : CycX tm L b t1) (hm : CycM tm (L + 1) s1 s2) : t1 = s1 ∧ L - b = s2 - s1 := by
  obtain ⟨x1, x2, x3, x4, x5, x6⟩ := hx
  obtain ⟨m1, m2, m3, m4⟩ := hm
  have hper : c3 tm s1 = c3 tm (s1 + (s2 - s1)) := by rw [m3]; congr 1; omega
  -- the period reaches the last time
  have e1 : c3 tm (L - (s2 - s1)) = c3 tm L := by
    have e := c3_add m3 (L - s2)
    rw [show s1 + (L - s2) = L - (s2 - s1) by omega, show s2 + (L - s2) = L by omega] at e
    exact e
  have hge : L - (s2 - s1) ≤ b := by
    rcases Nat.lt_or_ge b (L - (s2 - s1)) with q | q
    · exact absurd e1 (x3 _ q (by omega))
    · exact q
  have red : ∀ k, s1 ≤ k → c3 tm k = c3 tm (s1 + (k - s1) % (s2 - s1)) := by
    intro k hk
    have e := per hper ((k - s1) / (s2 - s1)) ((k - s1) % (s2 - s1))
    rw [Nat.mod_add_div, show s1 + (k - s1) = k by omega] at e
    exact e
  have hlam : L - b = s2 - s1 := by
    have r1 := red b (by omega)
    have r2 := red L (by omega)
    have ee : c3 tm (s1 + (b - s1) % (s2 - s1)) = c3 tm (s1 + (L - s1) % (s2 - s1)) := by rw [← r1, ← r2]; exact x2
    have l1 := Nat.mod_lt (b - s1) (show 0 < s2 - s1 by omega)
    have l2 := Nat.mod_lt (L - s1) (show 0 < s2 - s1 by omega)
    have exy : (b - s1) % (s2 - s1) = (L - s1) % (s2 - s1) := by
      rcases Nat.lt_trichotomy ((b - s1) % (s2 - s1)) ((L - s1) % (s2 - s1)) with q | q | q
      · exact absurd ee (m4 _ _ (by omega) (by omega))
      · exact q
      · exact absurd ee.symm (m4 _ _ (by omega) (by omega))
    have d1 := Nat.div_add_mod (b - s1) (s2 - s1)
    have d2 := Nat.div_add_mod (L - s1) (s2 - s1)
    rcases Nat.lt_or_ge (L - b) (s2 - s1) with q | q
    · exfalso
      have hlt2 : (b - s1) / (s2 - s1) < (L - s1) / (s2 - s1) := by
        rcases Nat.lt_or_ge ((b - s1) / (s2 - s1)) ((L - s1) / (s2 - s1)) with u | u
        · exact u
        · exfalso
          have := Nat.mul_le_mul_left (s2 - s1) u
          omega
      have := Nat.mul_le_mul_left (s2 - s1) hlt2
      rw [Nat.succ_eq_add_one, Nat.mul_add] at this
      omega
    · omega
  refine ⟨?_, hlam⟩
  rw [hlam] at x5 x6
  rcases Nat.lt_trichotomy t1 s1 with q | q | q
  · exact absurd x5 (m4 _ _ (by omega) (by omega))
  · exact q
  · exact absurd hper (x6 s1 q)
theorem m_cyc {cnt lim L : Nat} {tm : TM} {cells heads sts : Nat → Int32} {ti ha e0 l0 : Int32} {Q : Int32 → Int32 → Prop} (hW : WF cnt tm) (hl : lim ≤ 200) (hH : HM tm L cells heads sts) (hS : Sim tm lim L ti ha) (k0 : (∀ j, j < L → ¬ c3 tm j = c3 tm L) → Q (-1005) (-1005)) (k1 : ∀ s1 s2, CycM tm (L + 1) s1 s2 → Q (nI s1) (nI (s2 - s1))) : pX9_findCycle cells heads sts ti e0 l0 Q := by
  obtain ⟨⟨r1, r2, r3⟩, hc⟩ := hS
  rcases hc with ⟨u1, u2, rfl⟩ | ⟨u1, u2, rfl⟩
  · have hno : ∀ j, j < L → ¬ c3 tm j = c3 tm L := fun j hj e => r2 j hj (c3_hlt e u1)
    refine m_findCycle hW r2 (by omega) (by omega) hH (fun _ => k0 hno) (fun t1 t2 h => ?_)
    obtain ⟨m1, m2, m3, m4⟩ := h
    exact absurd m3 (cyc_no hno _ _ m1 (by omega))
  · exact m_findCycle hW r2 (by omega) (by omega) hH (fun h => k0 (fun j hj => h j L hj (by omega))) k1
theorem O_cycleStart : Ob_cycleStart Iv := by
  intro c wr mv fo words st hd ti lo hi codes len ss has wri mov nex text typ tape on mt ms mh hw' hst hhd hti hlo hhi hsr hhr hrr hlr htr hla hen hea hlat mc mhe mst mtm mha mcf mcl p1 hI
  obtain ⟨cnt, tm, hW, hX, hM, hC, hT⟩ := id hI
  have ec : c = nI cnt := hX.1
  have es : ss = nI cnt := hM.1
  subst ec es
  rcases lim_cases p1 with h | ⟨l, l1, l2, rfl⟩
  · exact lim_out h ⟨fun g => absurd rfl g, fun _ => mlim_out h ⟨fun g => absurd rfl g, fun _ => ⟨rfl, hI⟩⟩⟩
  · refine lim_in l1 l2 ⟨fun _ => ?_, fun g => absurd g n10⟩
    refine x_record hW hX l2 (fun L w1 a1 a2 a3 a4 a5 sr1 hr1 rr1 lr1 tr1 en1 hR hH he1 he0 => ?_)
    have hR' := hR
    obtain ⟨hR1, hR2, hR3⟩ := hR'
    refine x_findCycle hW hR2 (by omega) hH (fun hno => ⟨fun _ => ?_, fun g => absurd rfl g⟩) (fun b t1 hx => ⟨fun g => absurd g n10, fun _ => ?_⟩)
    · refine mlim_in l1 l2 ⟨fun _ => ?_, fun g => absurd g n10⟩
      refine m_sim hW hM l2 (fun L2 c2 h2 s2 ti2 ha2 hH2 hS => ?_)
      have := Ran_one hR hS.1
      subst this
      refine m_cyc hW l2 hH2 hS (fun _ => ⟨rfl, hI⟩) (fun s1 s2 hm => ?_)
      exact absurd hm.2.2.1 (cyc_no hno _ _ hm.1 (by have := hm.2.1; omega))
    · refine mlim_in l1 l2 ⟨fun _ => ?_, fun g => absurd g n10⟩
      refine m_sim hW hM l2 (fun L2 c2 h2 s2 ti2 ha2 hH2 hS => ?_)
      have := Ran_one hR hS.1
      subst this
      refine m_cyc hW l2 hH2 hS (fun hno => absurd hx.2.1 (hno _ hx.1)) (fun s1 s2 hm => ⟨?_, hI⟩)
      rw [(cyc_same hx hm).1]
theorem O_cycleLength : Ob_cycleLength Iv := by
  intro c wr mv fo words st hd ti lo hi codes len ss has wri mov nex text typ tape on mt ms mh hw' hst hhd hti hlo hhi hsr hhr hrr hlr htr hla hen hea hlat mc mhe mst mtm mha mcf mcl p1 hI
  obtain ⟨cnt, tm, hW, hX, hM, hC, hT⟩ := id hI
  have ec : c = nI cnt := hX.1
  have es : ss = nI cnt := hM.1
  subst ec es
  rcases lim_cases p1 with h | ⟨l, l1, l2, rfl⟩
  · exact lim_out h ⟨fun g => absurd rfl g, fun _ => mlim_out h ⟨fun g => absurd rfl g, fun _ => ⟨rfl, hI⟩⟩⟩
  · refine lim_in l1 l2 ⟨fun _ => ?_, fun g => absurd g n10⟩
    refine x_record hW hX l2 (fun L w1 a1 a2 a3 a4 a5 sr1 hr1 rr1 lr1 tr1 en1 hR hH he1 he0 => ?_)
    have hR' := hR
    obtain ⟨hR1, hR2, hR3⟩ := hR'
    refine x_findCycle hW hR2 (by omega) hH (fun hno => ⟨fun _ => ?_, fun g => absurd rfl g⟩) (fun b t1 hx => ⟨fun g => absurd g n10, fun _ => ?_⟩)
    · refine mlim_in l1 l2 ⟨fun _ => ?_, fun g => absurd g n10⟩
      refine m_sim hW hM l2 (fun L2 c2 h2 s2 ti2 ha2 hH2 hS => ?_)
      have := Ran_one hR hS.1
      subst this
      refine m_cyc hW l2 hH2 hS (fun _ => ⟨rfl, hI⟩) (fun s1 s2 hm => ?_)
      exact absurd hm.2.2.1 (cyc_no hno _ _ hm.1 (by have := hm.2.1; omega))
    · refine mlim_in l1 l2 ⟨fun _ => ?_, fun g => absurd g n10⟩
      refine m_sim hW hM l2 (fun L2 c2 h2 s2 ti2 ha2 hH2 hS => ?_)
      have := Ran_one hR hS.1
      subst this
      refine m_cyc hW l2 hH2 hS (fun hno => absurd hx.2.1 (hno _ hx.1)) (fun s1 s2 hm => ⟨?_, hI⟩)
      rw [pk_sub (by omega), Nat.add_sub_cancel_left, (cyc_same hx hm).2]
