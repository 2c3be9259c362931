/-! own: backward reasoning, the class -/
abbrev PE : Type := Nat × Nat × (Nat → Bool) × (Nat → Bool)
def newE (q c : Nat) (kn on : Nat → Bool) (s : Nat) : PE := (q, c, fun i => kn i || decide (i = c), fun i => if i = c then decide (s = 1) else on i)
def hal (tm : TM) (k : Nat) : Prop := tm k = none ∨ ∃ a b, tm k = some (a, b, 9)
def entH (k : Nat) : PE := newE (k / 2) 10 (fun _ => false) (fun _ => false) (k % 2)
noncomputable def lH (tm : TM) : Nat → List PE
  | 0 => []
  | k + 1 => lH tm k ++ @ite (List PE) (hal tm k) (Classical.propDecidable _) [entH k] []
def bc (b c : Nat) : Nat := if b = 1 then c - 1 else c + 1
/-- whether the transition of slot k leads to the partial configuration e, and from where -/
def Pre (tm : TM) (e : PE) (k : Nat) (x : PE) : Prop := ∃ a b, tm k = some (a, b, e.1) ∧ (e.2.2.1 (bc b e.2.1) = true → (e.2.2.2 (bc b e.2.1) = true ↔ a = 1)) ∧ x = newE (k / 2) (bc b e.2.1) e.2.2.1 e.2.2.2 (k % 2)
noncomputable def pred1 (tm : TM) (e : PE) (k : Nat) : List PE := @dite (List PE) (∃ x, Pre tm e k x) (Classical.propDecidable _) (fun h => [h.choose]) (fun _ => [])
theorem pred1_yes {tm : TM} {e x : PE} {k : Nat} (h : Pre tm e k x) : pred1 tm e k = [x] := by
  unfold pred1
  have hx : ∃ x, Pre tm e k x := ⟨x, h⟩
  rw [dif_pos hx]
  have h2 := hx.choose_spec
  obtain ⟨a, b, t1, -, t3⟩ := h
  obtain ⟨a', b', u1, -, u3⟩ := h2
  rw [t1] at u1
  cases u1
  rw [u3, t3]
theorem pred1_no {tm : TM} {e : PE} {k : Nat} (h : ∀ x, ¬ Pre tm e k x) : pred1 tm e k = [] := by
  unfold pred1
  rw [dif_neg (fun q => by obtain ⟨x, hx⟩ := q; exact h x hx)]
theorem pred1_len (tm : TM) (e : PE) (k : Nat) : (pred1 tm e k).length ≤ 1 := by
  unfold pred1
  split <;> simp
noncomputable def preds (tm : TM) (e : PE) : Nat → List PE
  | 0 => []
  | k + 1 => preds tm e k ++ pred1 tm e k
theorem preds_len (tm : TM) (e : PE) : ∀ k, (preds tm e k).length ≤ k
  | 0 => by simp [preds]
  | k + 1 => by
    have := preds_len tm e k
    have := pred1_len tm e k
    simp only [preds, List.length_append]
    omega
noncomputable def lv (tm : TM) (n : Nat) : Nat → List PE
  | 0 => lH tm n
  | d + 1 => (lv tm n d).flatMap (fun e => preds tm e n)
/-- words of the class: cell 0 at bit 6 -/
def RXw (W : Int32) (f : Nat → Bool) : Prop := ∀ i, i < 32 → bt W i = (decide (6 ≤ i) && f (i - 6))
def RMw (W : Int32) (f : Nat → Bool) : Prop := ∀ i, i < 32 → bt W i = f i
def WE (cnt d : Nat) (e : PE) : Prop := e.1 < cnt ∧ 10 ≤ e.2.1 + d ∧ e.2.1 ≤ 10 + d ∧ (∀ i, 20 ≤ i → e.2.2.1 i = false) ∧ ∀ i, 20 ≤ i → e.2.2.2 i = false
def WL (cnt d : Nat) (P : List PE) : Prop := ∀ e ∈ P, WE cnt d e
theorem WE_new {cnt d q c s : Nat} {kn on : Nat → Bool} (hq : q < cnt) (h1 : 10 ≤ c + d) (h2 : c ≤ 10 + d) (hd : d ≤ 9) (hk : ∀ i, 20 ≤ i → kn i = false) (ho : ∀ i, 20 ≤ i → on i = false) : WE cnt d (newE q c kn on s) := by
  refine ⟨hq, h1, h2, fun i hi => ?_, fun i hi => ?_⟩
  · show (kn i || decide (i = c)) = false
    rw [hk i hi]
    have : ¬ i = c := by omega
    simp [this]
  · show (if i = c then decide (s = 1) else on i) = false
    rw [if_neg (by omega), ho i hi]
theorem WL_H {cnt : Nat} {tm : TM} : ∀ n, n ≤ 2 * cnt → WL cnt 0 (lH tm n)
  | 0, _ => fun e he => by simp [lH] at he
  | n + 1, h => by
    intro e he
    simp only [lH, List.mem_append] at he
    rcases he with he | he
    · exact WL_H n (by omega) e he
    · by_cases g : hal tm n
      · rw [if_pos g] at he
        simp at he
        subst he
        exact WE_new (by omega) (by omega) (by omega) (by omega) (fun _ _ => rfl) (fun _ _ => rfl)
      · rw [if_neg g] at he
        simp at he
theorem Pre_WE {cnt d k : Nat} {tm : TM} {e x : PE} (hW : WF cnt tm) (hd : d + 1 ≤ 9) (he : WE cnt d e) (h : Pre tm e k x) : WE cnt (d + 1) x := by
  obtain ⟨a, b, t1, -, t3⟩ := h
  obtain ⟨h1, h2, h3, h4⟩ := hW.2.2 _ _ _ _ t1
  obtain ⟨e1, e2, e3, e4, e5⟩ := he
  rw [t3]
  refine WE_new (by omega) ?_ ?_ hd e4 e5
  · unfold bc; split <;> omega
  · unfold bc; split <;> omega
theorem WL_preds {cnt d : Nat} {tm : TM} {e : PE} (hW : WF cnt tm) (hd : d + 1 ≤ 9) (he : WE cnt d e) : ∀ k, WL cnt (d + 1) (preds tm e k)
  | 0 => fun x hx => by simp [preds] at hx
  | k + 1 => by
    intro x hx
    simp only [preds, List.mem_append] at hx
    rcases hx with hx | hx
    · exact WL_preds hW hd he k x hx
    · by_cases g : ∃ y, Pre tm e k y
      · obtain ⟨y, hy⟩ := g
        rw [pred1_yes hy] at hx
        simp at hx
        subst hx
        exact Pre_WE hW hd he hy
      · rw [pred1_no (fun y hy => g ⟨y, hy⟩)] at hx
        simp at hx
theorem WL_lv {cnt : Nat} {tm : TM} (hW : WF cnt tm) : ∀ d, d ≤ 9 → WL cnt d (lv tm (2 * cnt) d)
  | 0, _ => WL_H _ (Nat.le_refl _)
  | d + 1, h => by
    intro x hx
    simp only [lv, List.mem_flatMap] at hx
    obtain ⟨e, he, hx⟩ := hx
    exact WL_preds hW h (WL_lv hW d (by omega) e he) _ x hx
theorem x_ends {cnt q s : Nat} {tm : TM} {c0 : Int32} {wr mv fo : Nat → Int32} {Q : Int32 → Prop} (hW : WF cnt tm) (hX : RMx cnt tm c0 wr mv fo) (hq : q < cnt) (hs : s < 2) (k1 : hal tm (2 * q + s) → Q 1) (k0 : ¬ hal tm (2 * q + s) → Q 0) : pX5_endsAt (nI q) (nI s) (nI cnt) fo Q := by
  have hc5 := hW.2.1
  refine s_slot hc5 hq hs ⟨fun h => absurd h (nI_m1 (by omega)), fun _ => ?_⟩
  rw [nI_clamp (by omega)]
  have hv := vp_in_nI (n := 2 * q + s) (N := 10) (by omega) (by omega)
  refine ⟨hv, ?_⟩
  obtain ⟨h1, h2⟩ := hX.2 (2 * q + s) (by omega)
  cases ht : tm (2 * q + s) with
  | none => rw [h1 ht]; exact ⟨fun _ => k1 (Or.inl ht), fun h => absurd rfl h⟩
  | some x =>
    obtain ⟨a, b, d⟩ := x
    obtain ⟨-, -, e⟩ := h2 a b d ht
    rw [e]
    have hd := (hW.2.2 _ _ _ _ ht).2.2.2
    refine ⟨fun h => absurd h (nI_m1 (by omega)), fun _ => ⟨hv, fun g => k0 (fun q => ?_), fun g => k1 (Or.inr ⟨a, b, ?_⟩)⟩⟩
    · rcases q with q | ⟨a', b', q⟩
      · rw [ht] at q; cases q
      · rw [ht] at q; cases q; exact g rfl
    · rw [ht, (nI_eq (b := 9) (by omega) (by omega)).mp g]
/-- a level of the class that holds the list P -/
def LX (P : List PE) (sr hr kr or' : Nat → Int32) (count ov : Int32) : Prop := (P.length ≤ 300 ∧ count = nI P.length ∧ ov = 0 ∧ ∀ i e, P[i]? = some e → sr i = nI e.1 ∧ hr i = nI (e.2.1 + 6) ∧ RXw (kr i) e.2.2.1 ∧ RXw (or' i) e.2.2.2) ∨ (300 < P.length ∧ count = nI 300 ∧ ov = 1)
theorem RXw_set {W : Int32} {f : Nat → Bool} {c : Nat} (hc : c < 26) (h : RXw W f) : RXw (W ||| ((1 : Int32) <<< (nI (c + 6) &&& 31))) (fun i => f i || decide (i = c)) := by
  intro i hi
  rw [b_or, h i hi, bit1 (by omega) hi]
  by_cases g : 6 ≤ i
  · have : decide (i = c + 6) = decide (i - 6 = c) := by
      by_cases e : i = c + 6
      · simp [e]
      · have : ¬ i - 6 = c := by omega
        simp [e, this]
    simp [g, this]
  · have : ¬ i = c + 6 := by omega
    simp [g, this]
theorem RXw_bit {W : Int32} {f : Nat → Bool} {c s : Nat} (hc : c < 26) (h : RXw W f) : (s = 1 → RXw (W ||| ((1 : Int32) <<< (nI (c + 6) &&& 31))) (fun i => if i = c then decide (s = 1) else f i)) ∧ (¬ s = 1 → RXw (W &&& (((1 : Int32) <<< (nI (c + 6) &&& 31)) ^^^ (-1))) (fun i => if i = c then decide (s = 1) else f i)) := by
  constructor
  · intro hs i hi
    rw [b_or, h i hi, bit1 (by omega) hi]
    by_cases g : 6 ≤ i
    · by_cases e : i = c + 6
      · have e2 : i - 6 = c := by omega
        simp [g, e, hs]
      · have e2 : ¬ i - 6 = c := by omega
        simp [g, e, e2]
    · have : ¬ i = c + 6 := by omega
      simp [g, this]
  · intro hs i hi
    rw [b_and, b_xor, h i hi, bit1 (by omega) hi, b_m1 i hi]
    by_cases g : 6 ≤ i
    · by_cases e : i = c + 6
      · have e2 : i - 6 = c := by omega
        simp [g, e, hs]
      · have e2 : ¬ i - 6 = c := by omega
        simp [g, e, e2]
    · have : ¬ i = c + 6 := by omega
      simp [g, this]
theorem x_add {P : List PE} {q c s : Nat} {kn on : Nat → Bool} {K O count ov : Int32} {sr hr kr or' : Nat → Int32} {Q : (Nat → Int32) → (Nat → Int32) → (Nat → Int32) → (Nat → Int32) → Int32 → Int32 → Prop} (hs : s < 2) (hc : c < 26) (hK : RXw K kn) (hO : RXw O on) (hP : LX P sr hr kr or' count ov) (k : ∀ (sr' hr' kr' or2 : Nat → Int32) (count' ov' : Int32), LX (P ++ [newE q c kn on s]) sr' hr' kr' or2 count' ov' → Q sr' hr' kr' or2 count' ov') : pX4_add (nI q) (nI (c + 6)) K O (nI s) sr hr kr or' count ov Q := by
  rcases hP with ⟨h1, rfl, rfl, h4⟩ | ⟨h1, rfl, rfl⟩
  · refine ⟨fun g => absurd g (nI_pos (by omega)), fun _ => ⟨fun g => ?_, fun g => ?_⟩⟩
    · have hlt' : P.length < 300 := (nI_ltI (b := 300) (by omega) (by omega)).mp g
      have hin : vp_in (nI P.length) 300 := vp_in_nI hlt' (by omega)
      intro x3 e3
      subst e3
      rw [nI_clamp (show P.length < 2 ^ 31 by omega)]
      have fin : ∀ O' : Int32, RXw O' (fun i => if i = c then decide (s = 1) else on i) → ∀ x : Int32, x = nI P.length + 1 → Q (upd sr P.length (nI q)) (upd hr P.length (nI (c + 6))) (upd kr P.length (K ||| ((1 : Int32) <<< (nI (c + 6) &&& 31)))) (upd or' P.length O') x 0 := by
        intro O' hO' x ex
        rw [nI_1] at ex
        subst ex
        refine k _ _ _ _ _ _ (Or.inl ⟨by simp; omega, by simp, rfl, fun i e he => ?_⟩)
        simp only [upd_eq]
        by_cases g2 : i < P.length
        · rw [List.getElem?_append_left g2] at he
          have : ¬ i = P.length := by omega
          simp only [if_neg this]
          exact h4 i e he
        · rw [List.getElem?_append_right (by omega)] at he
          have hz : i - P.length < 1 := (List.getElem?_eq_some_iff.mp he).1
          have : i = P.length := by omega
          subst this
          simp at he
          subst he
          simp only [if_true]
          exact ⟨rfl, rfl, RXw_set hc hK, hO'⟩
      refine ⟨hin, hin, hin, fun g5 => ⟨hin, fin _ ((RXw_bit hc hO).2 (fun e => g5 (by rw [e]; rfl)))⟩, fun g5 => ⟨hin, fin _ ((RXw_bit hc hO).1 ((nI_eq (b := 1) (by omega) (by omega)).mp g5))⟩⟩
    · have : P.length = 300 := by
        have : ¬ P.length < 300 := fun q => g (nI_lt (b := 300) q (by omega))
        omega
      rw [this]
      exact k _ _ _ _ _ _ (Or.inr ⟨by simp; omega, rfl, rfl⟩)
  · have fin : Q sr hr kr or' (nI 300) 1 := k _ _ _ _ _ _ (Or.inr ⟨by simp; omega, rfl, rfl⟩)
    exact ⟨fun g => absurd g (by decide), fun _ => ⟨fun g => absurd g (by decide), fun _ => fin⟩⟩
theorem RXw_0 : RXw 0 (fun _ => false) := fun i hi => by rw [b_0]; simp
theorem x_halting {cnt : Nat} {tm : TM} {c0 co ov : Int32} {wr mv fo sr hr kr or' : Nat → Int32} {Q : (Nat → Int32) → (Nat → Int32) → (Nat → Int32) → (Nat → Int32) → Int32 → Int32 → Prop} (hW : WF cnt tm) (hX : RMx cnt tm c0 wr mv fo) (k : ∀ (sr' hr' kr' or2 : Nat → Int32) (count' ov' : Int32), LX (lH tm (2 * cnt)) sr' hr' kr' or2 count' ov' → Q sr' hr' kr' or2 count' ov') : pX0_addHaltingSituations (nI cnt) fo sr hr kr or' co ov Q := by
  have hc5 := hW.2.1
  refine Lp.up cnt (fun st v => v.1 = nI st ∧ LX (lH tm (2 * st)) v.2.1 v.2.2.1 v.2.2.2.1 v.2.2.2.2.1 v.2.2.2.2.2.1 v.2.2.2.2.2.2) ?_ (Nat.zero_le _) ⟨rfl, Or.inl ⟨by simp [lH], rfl, rfl, fun i e he => by simp [lH] at he⟩⟩
  rintro st ⟨l3, s1, h1, k1, o1, n1, v1⟩ hst ⟨e, hL⟩
  dsimp only at e hL
  subst e
  refine ⟨fun c => ?_, fun c => ?_⟩
  · have hc := (nI_leI (by omega) (by omega)).mp c
    rw [show st = cnt by omega] at hL
    exact k _ _ _ _ _ _ hL
  · have hlt' : st < cnt := by
      rcases Nat.lt_or_ge st cnt with g | g
      · exact g
      · exact absurd (nI_le g (by omega)) c
    refine Lp.up 2 (fun sy v => v.1 = nI sy ∧ LX (lH tm (2 * st + sy)) v.2.1 v.2.2.1 v.2.2.2.1 v.2.2.2.2.1 v.2.2.2.2.2.1 v.2.2.2.2.2.2) ?_ (Nat.zero_le _) ⟨rfl, hL⟩
    rintro sy ⟨l4, s2, h2, k2, o2, n2, v2⟩ hsy ⟨e, hL2⟩
    dsimp only at e hL2
    subst e
    refine ⟨fun c2 => ?_, fun c2 => ?_⟩
    · have hc2 := (nI_ltI (a := 1) (by omega) (by omega)).mp c2
      have : sy = 2 := by omega
      subst this
      intro x6 e6
      rw [e6, nI_1]
      exact ⟨hlt', rfl, hL2⟩
    · have hs2 : sy < 2 := by
        have : ¬ 1 < sy := fun q => c2 (nI_lt (a := 1) q (by omega))
        omega
      refine x_ends hW hX hlt' hs2 (fun hh => ⟨fun g => absurd g n10, fun _ => ?_⟩) (fun hh => ⟨fun _ => ?_, fun g => absurd rfl g⟩)
      · refine x_add (c := 10) (q := st) (s := sy) hs2 (by omega) RXw_0 RXw_0 hL2 (fun a1 a2 a3 a4 a5 a6 hA x10 e10 => ?_)
        rw [e10, nI_1]
        refine ⟨hs2, rfl, ?_⟩
        have : lH tm (2 * st + sy + 1) = lH tm (2 * st + sy) ++ [newE st 10 (fun _ => false) (fun _ => false) sy] := by
          simp only [lH]
          rw [if_pos hh]
          unfold entH
          rw [show (2 * st + sy) / 2 = st by omega, show (2 * st + sy) % 2 = sy by omega]
        show LX (lH tm (2 * st + sy + 1)) _ _ _ _ _ _
        rw [this]
        exact hA
      · intro x10 e10
        rw [e10, nI_1]
        refine ⟨hs2, rfl, ?_⟩
        have : lH tm (2 * st + sy + 1) = lH tm (2 * st + sy) := by
          simp only [lH]
          rw [if_neg hh, List.append_nil]
        show LX (lH tm (2 * st + sy + 1)) _ _ _ _ _ _
        rw [this]
        exact hL2
