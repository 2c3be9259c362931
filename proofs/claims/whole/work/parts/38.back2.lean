/-! own: backward reasoning, the class, the search -/
def LXF (F : List PE) (sr hr kr or' : Nat → Int32) : Prop := ∀ i e, F[i]? = some e → sr i = nI e.1 ∧ hr i = nI (e.2.1 + 6) ∧ RXw (kr i) e.2.2.1 ∧ RXw (or' i) e.2.2.2
theorem RXw_at {W : Int32} {f : Nat → Bool} {c : Nat} (h : RXw W f) (hc : c < 26) : ushr W (nI (c + 6)) &&& 1 = nI (if f c = true then 1 else 0) := by
  rw [ush1 W (by omega), h (c + 6) (by omega)]
  simp
theorem x_pred {cnt d i st sy : Nat} {tm : TM} {c0 co ov : Int32} {wr mv fo sr hr kr or' tsr thr tkr tor : Nat → Int32} {F P : List PE} {e : PE} {Q : (Nat → Int32) → (Nat → Int32) → (Nat → Int32) → (Nat → Int32) → Int32 → Int32 → Prop} (hW : WF cnt tm) (hX : RMx cnt tm c0 wr mv fo) (hst : st < cnt) (hsy : sy < 2) (hF : LXF F sr hr kr or') (hi : i < 300) (he : F[i]? = some e) (hE : WE cnt d e) (hd : d + 1 ≤ 9) (hP : LX P tsr thr tkr tor co ov)
    (k : ∀ (a1 a2 a3 a4 : Nat → Int32) (a5 a6 : Int32), LX (P ++ pred1 tm e (2 * st + sy)) a1 a2 a3 a4 a5 a6 → Q a1 a2 a3 a4 a5 a6) : pX0_addPredecessor (nI i) (nI st) (nI sy) (nI cnt) wr mv fo sr hr kr or' tsr thr tkr tor co ov Q := by
  have hc5 := hW.2.1
  obtain ⟨r1, r2, r3, r4⟩ := hF i e he
  obtain ⟨e1, e2, e3, e4, e5⟩ := hE
  have hin : vp_in (nI i) 300 := vp_in_nI hi (by omega)
  have no : (∀ x, ¬ Pre tm e (2 * st + sy) x) → Q tsr thr tkr tor co ov := fun h => k _ _ _ _ _ _ (by rw [pred1_no h, List.append_nil]; exact hP)
  refine ⟨fun g => absurd g (nI_pos (by omega)), fun _ => ⟨fun g => absurd g (nI_ge (b := 300) hi (by omega)), fun _ => ?_⟩⟩
  refine s_next hc5 hst hsy ⟨hin, ?_⟩
  rw [nI_clamp (show i < 2 ^ 31 by omega), r1, r2]
  obtain ⟨g1, g2⟩ := hX.2 (2 * st + sy) (by omega)
  cases ht : tm (2 * st + sy) with
  | none =>
    rw [g1 ht]
    have hn : ∀ x, ¬ Pre tm e (2 * st + sy) x := by
      rintro x ⟨a, b, t1, -⟩
      rw [ht] at t1; cases t1
    exact ⟨fun g => absurd g.symm (nI_m1 (by omega)), fun _ => no hn⟩
  | some x =>
    obtain ⟨a, b, dd⟩ := x
    obtain ⟨w1, w2, w3⟩ := g2 a b dd ht
    obtain ⟨h1, ha, hb, hdd⟩ := hW.2.2 _ _ _ _ ht
    rw [w3]
    refine ⟨fun g => ⟨hin, ?_⟩, fun g => no ?_⟩
    · have hde : dd = e.1 := (nI_eq (by omega) (by omega)).mp g
      refine s_mv hc5 hst hsy ?_
      rw [w2]
      have hcb : bc b e.2.1 < 26 := by unfold bc; split <;> omega
      have j113 : (e.2.2.1 (bc b e.2.1) = true → (e.2.2.2 (bc b e.2.1) = true ↔ a = 1)) → pX0_addPredecessor_j113 (nI i) (nI st) (nI sy) (nI cnt) wr mv fo sr hr kr or' Q (nI (bc b e.2.1 + 6)) (kr i) (or' i) tsr thr tkr tor co ov := by
        intro hcond
        refine x_add (q := st) (s := sy) hsy hcb r3 r4 hP (fun a1 a2 a3 a4 a5 a6 hA => k _ _ _ _ _ _ ?_)
        rw [pred1_yes (x := newE st (bc b e.2.1) e.2.2.1 e.2.2.2 sy) ⟨a, b, by rw [ht, hde], hcond, by rw [show (2 * st + sy) / 2 = st by omega, show (2 * st + sy) % 2 = sy by omega]⟩]
        exact hA
      have j52 : ∀ s1 : Int32, nI (e.2.1 + 6) + s1 = nI (bc b e.2.1 + 6) → pX0_addPredecessor_j52 (nI i) (nI st) (nI sy) (nI cnt) wr mv fo sr hr kr or' Q (nI (e.2.1 + 6)) s1 tsr thr tkr tor co ov := by
        intro s1 es x11 e11
        rw [es] at e11
        subst e11
        refine ⟨hin, ?_⟩
        intro x13 e13
        rw [nI_clamp (show i < 2 ^ 31 by omega)] at e13
        subst e13
        refine ⟨hin, ?_⟩
        intro x15 e15
        rw [nI_clamp (show i < 2 ^ 31 by omega)] at e15
        subst e15
        rw [RXw_at r3 hcb]
        cases hk : e.2.2.1 (bc b e.2.1) with
        | false =>
          refine ⟨fun _ => ⟨fun _ => j113 (fun q => by rw [hk] at q; cases q), fun q => absurd rfl q⟩, fun q => absurd q (by decide)⟩
        | true =>
          refine ⟨fun q => absurd rfl q, fun _ => ⟨fun q => absurd q n10, fun _ => ?_⟩⟩
          refine s_wr hc5 hst hsy ?_
          rw [w1, RXw_at r4 hcb]
          have hiff : nI (if e.2.2.2 (bc b e.2.1) = true then 1 else 0) = nI a ↔ (e.2.2.2 (bc b e.2.1) = true ↔ a = 1) := by
            cases ho : e.2.2.2 (bc b e.2.1) with
            | true =>
              rw [if_pos rfl, nI_eq (by omega) (by omega)]
              constructor
              · intro q; exact ⟨fun _ => q.symm, fun _ => rfl⟩
              · intro q; exact (q.mp rfl).symm
            | false =>
              rw [if_neg (by decide), nI_eq (by omega) (by omega)]
              constructor
              · intro q; exact ⟨fun z => (by cases z), fun z => (by omega)⟩
              · intro q
                have : ¬ a = 1 := fun z => by have := q.mpr z; cases this
                omega
          refine ⟨fun q => j113 (fun _ => hiff.mp q), fun q => no ?_⟩
          rintro x ⟨a', b', t1, t2, -⟩
          rw [ht, hde] at t1
          cases t1
          exact q (hiff.mpr (t2 hk))
      refine ⟨fun q => j52 1 ?_, fun q => j52 (-1) ?_⟩
      · have : ¬ b = 1 := fun z => q (by rw [z]; rfl)
        unfold bc
        rw [if_neg this, nI_1]
      · have : b = 1 := (nI_eq (b := 1) (by omega) (by omega)).mp q
        unfold bc
        rw [if_pos this, show e.2.1 + 6 = (e.2.1 - 1 + 6) + 1 by omega, pk_m1]
    · rintro x ⟨a', b', t1, -⟩
      rw [ht] at t1
      cases t1
      exact g rfl
theorem take_flat {F : List PE} {g : PE → List PE} {i : Nat} {e : PE} (he : F[i]? = some e) : (F.take (i + 1)).flatMap g = (F.take i).flatMap g ++ g e := by
  have : F.take (i + 1) = F.take i ++ [e] := by
    rw [List.take_succ, he]
    rfl
  rw [this, List.flatMap_append]
  simp
theorem take_len {F : List PE} {g : PE → List PE} {i : Nat} : ((F.take i).flatMap g).length ≤ (F.flatMap g).length := by
  have e : F.flatMap g = (F.take i).flatMap g ++ (F.drop i).flatMap g := by
    rw [← List.flatMap_append, List.take_append_drop]
  rw [e, List.length_append]
  omega
theorem x_all {cnt d : Nat} {tm : TM} {c0 co ov : Int32} {wr mv fo sr hr kr or' tsr thr tkr tor : Nat → Int32} {F : List PE} {Q : (Nat → Int32) → (Nat → Int32) → (Nat → Int32) → (Nat → Int32) → Int32 → Int32 → Prop} (hW : WF cnt tm) (hX : RMx cnt tm c0 wr mv fo) (hF : LXF F sr hr kr or') (hl : F.length ≤ 300) (hE : WL cnt d F) (hd : d + 1 ≤ 9)
    (k : ∀ (a1 a2 a3 a4 : Nat → Int32) (a5 a6 : Int32), LX (F.flatMap (fun e => preds tm e (2 * cnt))) a1 a2 a3 a4 a5 a6 → Q a1 a2 a3 a4 a5 a6) : pX0_addAllPredecessors (nI cnt) wr mv fo sr hr kr or' (nI F.length) tsr thr tkr tor co ov Q := by
  have hc5 := hW.2.1
  refine Lp.up F.length (fun i v => v.1 = nI i ∧ LX ((F.take i).flatMap (fun e => preds tm e (2 * cnt))) v.2.1 v.2.2.1 v.2.2.2.1 v.2.2.2.2.1 v.2.2.2.2.2.1 v.2.2.2.2.2.2) ?_ (Nat.zero_le _) ⟨rfl, Or.inl ⟨by simp, by simp; rfl, rfl, fun i e he => by simp at he⟩⟩
  rintro i ⟨l4, s1, h1, k1, o1, n1, v1⟩ hi ⟨e, hL⟩
  dsimp only at e hL
  subst e
  refine ⟨fun c => ?_, fun c => ?_⟩
  · have hc := (nI_leI (by omega) (by omega)).mp c
    rw [show i = F.length by omega, List.take_length] at hL
    exact k _ _ _ _ _ _ hL
  · have hlt' : i < F.length := by
      rcases Nat.lt_or_ge i F.length with g | g
      · exact g
      · exact absurd (nI_le g (by omega)) c
    refine ⟨fun c2 => absurd c2 (nI_ge (b := 300) (by omega) (by omega)), fun _ => ⟨fun c3 => ?_, fun c3 => ?_⟩⟩
    · rcases hL with ⟨-, -, h3, -⟩ | ⟨h1', h2', h3'⟩
      · exact absurd h3 c3
      · have := take_len (F := F) (g := fun e => preds tm e (2 * cnt)) (i := i)
        exact k _ _ _ _ _ _ (Or.inr ⟨by omega, h2', h3'⟩)
    · obtain ⟨e, he⟩ : ∃ e, F[i]? = some e := ⟨F[i], List.getElem?_eq_getElem hlt'⟩
      have hEe := hE e (List.mem_of_getElem? he)
      refine Lp.up cnt (fun st v => v.1 = nI st ∧ LX ((F.take i).flatMap (fun e => preds tm e (2 * cnt)) ++ preds tm e (2 * st)) v.2.1 v.2.2.1 v.2.2.2.1 v.2.2.2.2.1 v.2.2.2.2.2.1 v.2.2.2.2.2.2) ?_ (Nat.zero_le _) ⟨rfl, by simp only [preds, Nat.mul_zero, List.append_nil]; exact hL⟩
      rintro st ⟨l5, s2, h2, k2, o2, n2, v2⟩ hst ⟨e', hL2⟩
      dsimp only at e' hL2
      subst e'
      refine ⟨fun c4 => ?_, fun c4 => ?_⟩
      · have hc4 := (nI_leI (by omega) (by omega)).mp c4
        intro x8 e8
        rw [e8, nI_1]
        refine ⟨hlt', rfl, ?_⟩
        show LX ((F.take (i + 1)).flatMap (fun e => preds tm e (2 * cnt))) _ _ _ _ _ _
        rw [take_flat he]
        rw [show st = cnt by omega] at hL2
        exact hL2
      · have hst' : st < cnt := by
          rcases Nat.lt_or_ge st cnt with g | g
          · exact g
          · exact absurd (nI_le g (by omega)) c4
        refine x_pred (sy := 0) hW hX hst' (by omega) hF (by omega) he hEe hd hL2 (fun a1 a2 a3 a4 a5 a6 hA => ?_)
        refine x_pred (sy := 1) hW hX hst' (by omega) hF (by omega) he hEe hd hA (fun b1 b2 b3 b4 b5 b6 hB x23 e23 => ?_)
        rw [e23, nI_1]
        refine ⟨hst', rfl, ?_⟩
        show LX (_ ++ preds tm e (2 * st + 1 + 1)) _ _ _ _ _ _
        simp only [preds]
        rw [List.append_assoc] at hB
        rw [← List.append_assoc] at hB
        rw [← List.append_assoc, ← List.append_assoc]
        exact hB
def Mt (F : List PE) : Prop := ∃ e ∈ F, e.1 = 0 ∧ ∀ i, e.2.2.2 i = false
theorem RXw_zero {W : Int32} {f : Nat → Bool} (h : RXw W f) (hf : ∀ i, 20 ≤ i → f i = false) : W = 0 ↔ ∀ i, f i = false := by
  constructor
  · intro e i
    by_cases g : 20 ≤ i
    · exact hf i g
    · have := h (i + 6) (by omega)
      rw [e, b_0] at this
      simpa using this.symm
  · intro e
    apply b_ext
    intro i hi
    rw [h i hi, e, b_0]
    simp
theorem x_match {cnt d : Nat} {F : List PE} {sr hr kr or' : Nat → Int32} {Q : Int32 → Prop} (hF : LXF F sr hr kr or') (hl : F.length ≤ 300) (hc5 : cnt ≤ 5) (hE : WL cnt d F) (k1 : Mt F → Q 1) (k0 : ¬ Mt F → Q 0) : pX4_matchesStart sr or' (nI F.length) Q := by
  refine Lp.up F.length (fun i v => v = nI i ∧ ∀ j e, j < i → F[j]? = some e → ¬ (e.1 = 0 ∧ ∀ m, e.2.2.2 m = false)) ?_ (Nat.zero_le _) ⟨rfl, fun j e hj => absurd hj (Nat.not_lt_zero _)⟩
  rintro i v hi ⟨rfl, hno⟩
  refine ⟨fun c => k0 ?_, fun c => ?_⟩
  · have hc := (nI_leI (by omega) (by omega)).mp c
    rintro ⟨e, he, h2⟩
    obtain ⟨j, hj⟩ := List.getElem?_of_mem he
    have := (List.getElem?_eq_some_iff.mp hj).1
    exact hno j e (by omega) hj h2
  · have hlt' : i < F.length := by
      rcases Nat.lt_or_ge i F.length with g | g
      · exact g
      · exact absurd (nI_le g (by omega)) c
    obtain ⟨e, he⟩ : ∃ e, F[i]? = some e := ⟨F[i], List.getElem?_eq_getElem hlt'⟩
    have hmem := List.mem_of_getElem? he
    obtain ⟨e1, e2, e3, e4, e5⟩ := hE e hmem
    obtain ⟨r1, r2, r3, r4⟩ := hF i e he
    have hin : vp_in (nI i) 300 := vp_in_nI (by omega) (by omega)
    refine ⟨fun c2 => absurd c2 (nI_ge (b := 300) (by omega) (by omega)), fun _ => ⟨hin, ?_⟩⟩
    rw [nI_clamp (show i < 2 ^ 31 by omega), r1]
    have nx : ¬ (e.1 = 0 ∧ ∀ m, e.2.2.2 m = false) → pX4_matchesStart_j37 sr or' (nI F.length) Q (fun b => i < F.length ∧ b = nI (i + 1) ∧ ∀ j e, j < i + 1 → F[j]? = some e → ¬ (e.1 = 0 ∧ ∀ m, e.2.2.2 m = false)) (nI i) := by
      intro hne x5 e5'
      rw [e5', nI_1]
      refine ⟨hlt', rfl, fun j e' hj he' => ?_⟩
      by_cases q : j = i
      · subst q
        rw [he] at he'
        cases he'
        exact hne
      · exact hno j e' (by omega) he'
    refine ⟨fun g => nx (fun q => g (by rw [q.1]; rfl)), fun g => ⟨hin, fun g2 => nx (fun q => g2 ((RXw_zero r4 e5).mpr q.2)), fun g2 => k1 ⟨e, hmem, (nI_eq (b := 0) (by omega) (by omega)).mp g, (RXw_zero r4 e5).mp g2⟩⟩⟩
def good (tm : TM) (n j : Nat) : Prop := lv tm n j ≠ [] ∧ (lv tm n j).length ≤ 300 ∧ ¬ Mt (lv tm n j)
def Dep (tm : TM) (n lim : Nat) (r : Int32) : Prop := (∃ d, d ≤ lim ∧ lv tm n d = [] ∧ (∀ j, j < d → good tm n j) ∧ r = nI d) ∨ (r = -1005 ∧ ∀ d, d ≤ lim → (∀ j, j < d → good tm n j) → lv tm n d ≠ [])
theorem Dep_one {tm : TM} {n lim : Nat} {r r' : Int32} (h : Dep tm n lim r) (h' : Dep tm n lim r') : r = r' := by
  rcases h with ⟨d, a1, a2, a3, a4⟩ | ⟨a1, a2⟩
  · rcases h' with ⟨d', b1, b2, b3, b4⟩ | ⟨b1, b2⟩
    · have : d = d' := by
        rcases Nat.lt_trichotomy d d' with q | q | q
        · exact absurd a2 (b3 d q).1
        · exact q
        · exact absurd b2 (a3 d' q).1
      rw [a4, b4, this]
    · exact absurd a2 (b2 d a1 a3)
  · rcases h' with ⟨d', b1, b2, b3, b4⟩ | ⟨b1, b2⟩
    · exact absurd b2 (a2 d' b1 b3)
    · rw [a1, b1]
theorem Dep_none {tm : TM} {n lim d : Nat} (h1 : ∀ j, j < d → good tm n j) (h2 : lv tm n d ≠ []) (h3 : d = lim ∨ ¬ good tm n d) : Dep tm n lim (-1005) := by
  refine Or.inr ⟨rfl, fun d' hd' hg => ?_⟩
  rcases Nat.lt_trichotomy d' d with q | q | q
  · exact (h1 d' q).1
  · rw [q]; exact h2
  · rcases h3 with u | u
    · omega
    · exact absurd (hg d q) u
theorem LX_cnt {P : List PE} {sr hr kr or' : Nat → Int32} {co ov : Int32} (h : LX P sr hr kr or' co ov) : (co = 0 ↔ P = []) ∧ (P.length ≤ 300 → ov = 0 ∧ co = nI P.length ∧ LXF P sr hr kr or') ∧ (300 < P.length → ¬ ov = 0) := by
  rcases h with ⟨h1, h2, h3, h4⟩ | ⟨h1, h2, h3⟩
  · refine ⟨?_, fun _ => ⟨h3, h2, h4⟩, fun g => absurd g (by omega)⟩
    rw [h2]
    constructor
    · intro e
      have := (nI_eq (b := 0) (by omega) (by omega)).mp e
      exact List.length_eq_zero_iff.mp this
    · intro e; rw [e]; rfl
  · refine ⟨?_, fun g => absurd g (by omega), fun _ => by rw [h3]; decide⟩
    rw [h2]
    constructor
    · intro e; exact absurd e (by decide)
    · intro e; rw [e] at h1; simp at h1
theorem x_findDepth {cnt lim : Nat} {tm : TM} {c0 ec eo oc oo : Int32} {wr mv fo e1 e2 e3 e4 o1 o2 o3 o4 : Nat → Int32} {Q : Int32 → (Nat → Int32) → (Nat → Int32) → (Nat → Int32) → (Nat → Int32) → Int32 → Int32 → (Nat → Int32) → (Nat → Int32) → (Nat → Int32) → (Nat → Int32) → Int32 → Int32 → Prop} (hW : WF cnt tm) (hX : RMx cnt tm c0 wr mv fo) (hlim : lim ≤ 8)
    (k : ∀ r : Int32, Dep tm (2 * cnt) lim r → ∀ (a1 a2 a3 a4 : Nat → Int32) (a5 a6 : Int32) (b1 b2 b3 b4 : Nat → Int32) (b5 b6 : Int32), Q r a1 a2 a3 a4 a5 a6 b1 b2 b3 b4 b5 b6) : pX0_findDepth (nI lim) e1 e2 e3 e4 ec eo o1 o2 o3 o4 oc oo (nI cnt) wr mv fo Q := by
  have hc5 := hW.2.1
  refine x_halting hW hX (fun a1 a2 a3 a4 a5 a6 hA => ?_)
  refine Lp.up lim (fun d (v : Int32 × (Nat → Int32) × (Nat → Int32) × (Nat → Int32) × (Nat → Int32) × Int32 × Int32 × (Nat → Int32) × (Nat → Int32) × (Nat → Int32) × (Nat → Int32) × Int32 × Int32) => v.1 = nI d ∧ (∀ j, j < d → good tm (2 * cnt) j) ∧ (d % 2 = 0 → LX (lv tm (2 * cnt) d) v.2.1 v.2.2.1 v.2.2.2.1 v.2.2.2.2.1 v.2.2.2.2.2.1 v.2.2.2.2.2.2.1) ∧ (d % 2 = 1 → LX (lv tm (2 * cnt) d) v.2.2.2.2.2.2.2.1 v.2.2.2.2.2.2.2.2.1 v.2.2.2.2.2.2.2.2.2.1 v.2.2.2.2.2.2.2.2.2.2.1 v.2.2.2.2.2.2.2.2.2.2.2.1 v.2.2.2.2.2.2.2.2.2.2.2.2)) ?_ (Nat.zero_le _) ⟨rfl, fun j hj => absurd hj (Nat.not_lt_zero _), fun _ => hA, fun h => absurd h (by decide)⟩
  rintro d ⟨l3, a1, a2, a3, a4, a5, a6, b1, b2, b3, b4, b5, b6⟩ hd ⟨e, hg, hev, hod⟩
  dsimp only at e hev hod
  subst e
  have hWL := WL_lv hW d (by omega)
  have em : nI d - nI d / 2 * 2 = nI (d % 2) := rem2 (by omega)
  refine ⟨fun c => absurd c (nI_nlt hd (by omega)), fun _ => ⟨fun c => absurd c (nI_nlt (a := 8) (by omega) (by omega)), fun _ => ?_⟩⟩
  rw [em]
  refine ⟨fun c => ?_, fun c => ?_⟩
  · have hd1 : d % 2 = 1 := by
      have : ¬ d % 2 = 0 := fun q => c (by rw [q]; rfl)
      omega
    obtain ⟨q1, q2, q3⟩ := LX_cnt (hod hd1)
    refine ⟨fun g => ?_, fun g => k _ (Or.inl ⟨d, hd, q1.mp g, hg, rfl⟩) _ _ _ _ _ _ _ _ _ _ _ _⟩
    have hne : lv tm (2 * cnt) d ≠ [] := fun q => g (q1.mpr q)
    refine ⟨fun g2 => k _ (Dep_none hg hne (Or.inl ((nI_eq (by omega) (by omega)).mp g2))) _ _ _ _ _ _ _ _ _ _ _ _, fun g2 => ?_⟩
    have hdl : d < lim := by
      have : ¬ d = lim := fun q => g2 (by rw [q])
      omega
    rcases Nat.lt_or_ge 300 (lv tm (2 * cnt) d).length with u | u
    · have hov := q3 u
      exact ⟨fun _ => k _ (Dep_none hg hne (Or.inr (fun z => absurd z.2.1 (by omega)))) _ _ _ _ _ _ _ _ _ _ _ _, fun z => absurd z hov⟩
    · obtain ⟨v1, v2, v3⟩ := q2 u
      refine ⟨fun z => absurd v1 z, fun _ => ?_⟩
      subst v2
      refine x_match v3 u hc5 hWL (fun hm => ⟨fun z => absurd z n10, fun _ => k _ (Dep_none hg hne (Or.inr (fun z => z.2.2 hm))) _ _ _ _ _ _ _ _ _ _ _ _⟩) (fun hm => ⟨fun _ => ?_, fun z => absurd rfl z⟩)
      rw [em]
      refine ⟨fun _ => ?_, fun z => absurd z c⟩
      refine x_all hW hX v3 u hWL (by omega) (fun c1 c2 c3 c4 c5 c6 hC x25 e25 => ?_)
      rw [e25, nI_1]
      refine ⟨hdl, rfl, fun j hj => ?_, fun _ => hC, fun z => absurd z (by omega)⟩
      by_cases q : j = d
      · subst q; exact ⟨hne, u, hm⟩
      · exact hg j (by omega)
  · have hd0 : d % 2 = 0 := (nI_eq (b := 0) (by omega) (by omega)).mp c
    obtain ⟨q1, q2, q3⟩ := LX_cnt (hev hd0)
    refine ⟨fun g => ?_, fun g => k _ (Or.inl ⟨d, hd, q1.mp g, hg, rfl⟩) _ _ _ _ _ _ _ _ _ _ _ _⟩
    have hne : lv tm (2 * cnt) d ≠ [] := fun q => g (q1.mpr q)
    refine ⟨fun g2 => k _ (Dep_none hg hne (Or.inl ((nI_eq (by omega) (by omega)).mp g2))) _ _ _ _ _ _ _ _ _ _ _ _, fun g2 => ?_⟩
    have hdl : d < lim := by
      have : ¬ d = lim := fun q => g2 (by rw [q])
      omega
    rcases Nat.lt_or_ge 300 (lv tm (2 * cnt) d).length with u | u
    · have hov := q3 u
      exact ⟨fun _ => k _ (Dep_none hg hne (Or.inr (fun z => absurd z.2.1 (by omega)))) _ _ _ _ _ _ _ _ _ _ _ _, fun z => absurd z hov⟩
    · obtain ⟨v1, v2, v3⟩ := q2 u
      refine ⟨fun z => absurd v1 z, fun _ => ?_⟩
      subst v2
      refine x_match v3 u hc5 hWL (fun hm => ⟨fun z => absurd z n10, fun _ => k _ (Dep_none hg hne (Or.inr (fun z => z.2.2 hm))) _ _ _ _ _ _ _ _ _ _ _ _⟩) (fun hm => ⟨fun _ => ?_, fun z => absurd rfl z⟩)
      rw [em]
      refine ⟨fun z => absurd c z, fun _ => ?_⟩
      refine x_all hW hX v3 u hWL (by omega) (fun c1 c2 c3 c4 c5 c6 hC x25 e25 => ?_)
      rw [e25, nI_1]
      refine ⟨hdl, rfl, fun j hj => ?_, fun z => absurd z (by omega), fun _ => hC⟩
      by_cases q : j = d
      · subst q; exact ⟨hne, u, hm⟩
      · exact hg j (by omega)
