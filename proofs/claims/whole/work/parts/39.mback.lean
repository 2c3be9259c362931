/-! own: backward reasoning, the reference -/
def MBe (bf : Nat → Int32) (i : Nat) (e : PE) : Prop := bf (4 * i) = nI e.1 ∧ bf (4 * i + 1) = nI e.2.1 ∧ RMw (bf (4 * i + 2)) e.2.2.1 ∧ RMw (bf (4 * i + 3)) e.2.2.2
def MB (P : List PE) (bf : Nat → Int32) (bs : Int32) : Prop := bs = nI P.length ∧ ∀ i e, i ≤ 300 → P[i]? = some e → MBe bf i e
theorem e4 (n : Nat) : (4 : Int32) * nI n = nI (4 * n) := by rw [show (4 : Int32) = nI 4 from rfl, pk_mul]
theorem e2p (n : Nat) : nI n + 2 = nI (n + 2) := by rw [show (2 : Int32) = nI 2 from rfl, nI_add]
theorem e3p (n : Nat) : nI n + 3 = nI (n + 3) := by rw [show (3 : Int32) = nI 3 from rfl, nI_add]
theorem e2m (n : Nat) : (2 : Int32) * nI n = nI (2 * n) := by rw [show (2 : Int32) = nI 2 from rfl, pk_mul]
theorem upd4 (f : Nat → Int32) (n : Nat) (a b c d : Int32) (i r : Nat) (hr : r < 4) : upd (upd (upd (upd f (4 * n) a) (4 * n + 1) b) (4 * n + 2) c) (4 * n + 3) d (4 * i + r) = if i = n then (if r = 0 then a else if r = 1 then b else if r = 2 then c else d) else f (4 * i + r) := by
  simp only [upd_eq]
  by_cases e : i = n
  · subst e
    rw [if_pos rfl]
    rcases (show r = 0 ∨ r = 1 ∨ r = 2 ∨ r = 3 by omega) with rfl | rfl | rfl | rfl <;> simp
  · rw [if_neg e, if_neg (by omega), if_neg (by omega), if_neg (by omega), if_neg (by omega)]
theorem m_add {P : List PE} {x : PE} {K O bs : Int32} {bf : Nat → Int32} {Q : (Nat → Int32) → Int32 → Prop} (hP : MB P bf bs) (hl : P.length < 100000) (hK : RMw K x.2.2.1) (hO : RMw O x.2.2.2) (k : ∀ (bf' : Nat → Int32) (bs' : Int32), MB (P ++ [x]) bf' bs' → Q bf' bs') : pX9_addBefore (nI x.1) (nI x.2.1) K O bf bs Q := by
  obtain ⟨rfl, h2⟩ := hP
  refine ⟨fun g => ?_, fun g => ?_⟩
  · have hg : 300 < P.length := (nI_ltI (a := 300) (by omega) (by omega)).mp g
    intro x2 e2
    rw [e2, nI_1]
    refine k _ _ ⟨by simp, fun i e hi he => ?_⟩
    rw [List.getElem?_append_left (by omega)] at he
    exact h2 i e hi he
  · have hg : P.length ≤ 300 := by
      rcases Nat.lt_or_ge 300 P.length with q | q
      · exact absurd (nI_lt (a := 300) q (by omega)) g
      · exact q
    rw [e4, e2p, e3p, nI_1, nI_clamp (show 4 * P.length < 2 ^ 31 by omega), nI_clamp (show 4 * P.length + 1 < 2 ^ 31 by omega), nI_clamp (show 4 * P.length + 2 < 2 ^ 31 by omega), nI_clamp (show 4 * P.length + 3 < 2 ^ 31 by omega)]
    refine ⟨vp_in_nI (by omega) (by omega), vp_in_nI (by omega) (by omega), vp_in_nI (by omega) (by omega), vp_in_nI (by omega) (by omega), fun x7 e7 => ?_⟩
    rw [nI_1] at e7
    rw [e7]
    refine k _ _ ⟨by simp, fun i e hi he => ?_⟩
    unfold MBe
    rw [show 4 * i = 4 * i + 0 from rfl, upd4 _ _ _ _ _ _ i 0 (by omega), show 4 * i + 0 = 4 * i from rfl, upd4 _ _ _ _ _ _ i 1 (by omega), upd4 _ _ _ _ _ _ i 2 (by omega), upd4 _ _ _ _ _ _ i 3 (by omega)]
    by_cases g2 : i < P.length
    · rw [List.getElem?_append_left g2] at he
      have : ¬ i = P.length := by omega
      simp only [if_neg this]
      exact h2 i e hi he
    · rw [List.getElem?_append_right (by omega)] at he
      have hz : i - P.length < 1 := (List.getElem?_eq_some_iff.mp he).1
      have : i = P.length := by omega
      subst this
      simp at he
      subst he
      refine ⟨by simp, by simp, ?_, ?_⟩
      · simpa using hK
      · simpa using hO
theorem m_take {P : List PE} {pa bf : Nat → Int32} {ps bs : Int32} {Q : (Nat → Int32) → Int32 → Prop} (hP : MB P bf bs) (k : ∀ (pa' : Nat → Int32), MB P pa' bs → Q pa' bs) : pX9_takeBefore pa bf ps bs Q := by
  refine Lp.up 1300 (fun i (v : Int32 × (Nat → Int32)) => v.1 = nI i ∧ ∀ j, j < i → v.2 j = bf j) ?_ (Nat.zero_le _) ⟨rfl, fun j hj => absurd hj (Nat.not_lt_zero _)⟩
  rintro i ⟨l1, g⟩ hi ⟨e, hg⟩
  dsimp only at e hg
  subst e
  refine ⟨fun c => ?_, fun c => ?_⟩
  · have hc := (nI_leI (by omega) (by omega)).mp c
    refine k _ ⟨hP.1, fun i e hi he => ?_⟩
    have := hP.2 i e hi he
    unfold MBe at this ⊢
    rw [hg _ (by omega), hg _ (by omega), hg _ (by omega), hg _ (by omega)]
    exact this
  · have hlt' : i < 1300 := by
      rcases Nat.lt_or_ge i 1300 with g | g
      · exact g
      · exact absurd (nI_le g (by omega)) c
    have hin : vp_in (nI i) 1300 := vp_in_nI hlt' (by omega)
    refine ⟨hin, hin, fun x4 e4' => ?_⟩
    rw [e4', nI_1, nI_clamp (show i < 2 ^ 31 by omega)]
    refine ⟨hlt', rfl, fun j hj => ?_⟩
    show upd g i (bf i) j = bf j
    rw [upd_eq]
    by_cases q : j = i
    · rw [if_pos q, q]
    · rw [if_neg q]; exact hg j (by omega)
theorem w1024 : ∀ i, i < 32 → bt 1024 i = (false || decide (i = 10)) := by decide +kernel
theorem w10 {s : Nat} (hs : s < 2) : RMw (nI s <<< ((10 : Int32) &&& 31)) (fun i => if i = 10 then decide (s = 1) else false) := by
  rcases (show s = 0 ∨ s = 1 by omega) with rfl | rfl
  · show ∀ i, i < 32 → bt (nI 0 <<< ((10 : Int32) &&& 31)) i = (if i = 10 then decide (0 = 1) else false)
    decide +kernel
  · show ∀ i, i < 32 → bt (nI 1 <<< ((10 : Int32) &&& 31)) i = (if i = 10 then decide (1 = 1) else false)
    decide +kernel
theorem lH_len (tm : TM) : ∀ n, (lH tm n).length ≤ n
  | 0 => by simp [lH]
  | n + 1 => by
    have := lH_len tm n
    simp only [lH, List.length_append]
    split
    · simp; omega
    · simp; omega
theorem m_halting {cnt : Nat} {tm : TM} {c0 ps bs : Int32} {has wr mv nx pa bf : Nat → Int32} {Q : (Nat → Int32) → (Nat → Int32) → Int32 → Int32 → Prop} (hW : WF cnt tm) (hM : RMm cnt tm c0 has wr mv nx) (k : ∀ (pa' bf' : Nat → Int32) (ps' bs' : Int32), MB (lH tm (2 * cnt)) pa' ps' → Q pa' bf' ps' bs') : pX9_layHalting (nI cnt) has nx pa bf ps bs Q := by
  have hc5 := hW.2.1
  refine Lp.up (2 * cnt) (fun i (v : Int32 × (Nat → Int32) × Int32) => v.1 = nI i ∧ MB (lH tm i) v.2.1 v.2.2) ?_ (Nat.zero_le _) ⟨rfl, rfl, fun i e hi he => by simp [lH] at he⟩
  rintro i ⟨l1, b, n⟩ hi ⟨e, hB⟩
  dsimp only at e hB
  subst e
  refine ⟨fun c => ?_, fun c => ?_⟩
  · rw [e2m] at c
    have hc := (nI_leI (by omega) (by omega)).mp c
    rw [show i = 2 * cnt by omega] at hB
    exact m_take hB (fun pa' hp => k _ _ _ _ hp)
  · rw [e2m] at c
    have hlt' : i < 2 * cnt := by
      rcases Nat.lt_or_ge i (2 * cnt) with g | g
      · exact g
      · exact absurd (nI_le g (by omega)) c
    have hin : vp_in (nI i) 10 := vp_in_nI (by omega) (by omega)
    refine ⟨hin, ?_⟩
    rw [nI_clamp (show i < 2 ^ 31 by omega)]
    have hll := lH_len tm i
    have yes : hal tm i → pX9_layHalting_j37 (nI cnt) has nx Q (fun (v : Int32 × (Nat → Int32) × Int32) => i < 2 * cnt ∧ v.1 = nI (i + 1) ∧ MB (lH tm (i + 1)) v.2.1 v.2.2) pa ps (nI i) b n := by
      intro hh
      unfold pX9_layHalting_j37
      rw [rem2 (by omega), div2 (by omega)]
      refine m_add (x := entH i) hB (by omega) w1024 (w10 (by omega)) (fun bf' bs' hB' x10 e10 => ?_)
      rw [e10, nI_1]
      refine ⟨hlt', rfl, ?_⟩
      show MB (lH tm (i + 1)) bf' bs'
      simp only [lH]
      rw [if_pos hh]
      exact hB'
    have no : ¬ hal tm i → pX9_layHalting_j55 (nI cnt) has nx Q (fun (v : Int32 × (Nat → Int32) × Int32) => i < 2 * cnt ∧ v.1 = nI (i + 1) ∧ MB (lH tm (i + 1)) v.2.1 v.2.2) pa ps (nI i) b n := by
      intro hh x10 e10
      rw [e10, nI_1]
      refine ⟨hlt', rfl, ?_⟩
      show MB (lH tm (i + 1)) b n
      simp only [lH]
      rw [if_neg hh, List.append_nil]
      exact hB
    obtain ⟨g1, g2⟩ := hM.2 i (by omega)
    cases ht : tm i with
    | none =>
      rw [g1 ht]
      exact ⟨fun _ => yes (Or.inl ht), fun g => absurd rfl g⟩
    | some x =>
      obtain ⟨a, bb, dd⟩ := x
      obtain ⟨w0, w1, w2, w3⟩ := g2 a bb dd ht
      have hdd := (hW.2.2 _ _ _ _ ht).2.2.2
      rw [w0, w3]
      refine ⟨fun g => absurd g n10, fun _ => ⟨hin, fun g => no (fun q => ?_), fun g => yes (Or.inr ⟨a, bb, ?_⟩)⟩⟩
      · rcases q with q | ⟨a', b', q⟩
        · rw [ht] at q; cases q
        · rw [ht] at q; cases q; exact g rfl
      · rw [ht, (nI_eq (b := 9) (by omega) (by omega)).mp g]
theorem ssh1 (w : Int32) {i : Nat} (hi : i < 32) : (w >>> (nI i &&& 31)) &&& 1 = nI (if bt w i = true then 1 else 0) := by
  apply b_ext
  intro k hk
  rw [b_and, b_1 k hk, b_sshr i hi w hk]
  by_cases e : k = 0
  · subst e
    rw [if_pos (by omega)]
    cases h : bt w i with
    | true => simp [h]; rfl
    | false => simp [h]; rfl
  · cases h : bt w i with
    | true => simp [e]; exact (b_1 k hk).trans (by simp [e])
    | false => simp [e]; exact b_0 k
theorem bsh {s c : Nat} (hs : s < 2) (hc : c < 32) {i : Nat} (hi : i < 32) : bt (nI s <<< (nI c &&& 31)) i = (decide (i = c) && decide (s = 1)) := by
  rcases (show s = 0 ∨ s = 1 by omega) with rfl | rfl
  · rw [b_shl c hc _ hi, show nI 0 = 0 from rfl, b_0]; simp
  · have := bit1 hc hi
    rw [show (1 : Int32) = nI 1 from rfl] at this
    rw [this]; simp
theorem m_pred {cnt d i kk a b : Nat} {tm : TM} {wr mv pa bf : Nat → Int32} {bs : Int32} {P : List PE} {e : PE} {Q : (Nat → Int32) → Int32 → Prop} (hi : i < 300) (hk : kk < 10) (ht : tm kk = some (a, b, e.1)) (ha : a < 2) (hb : b < 2) (hwr : wr kk = nI a) (hmv : mv kk = nI b) (he : MBe pa i e) (hE : WE cnt d e) (hd : d + 1 ≤ 9) (hP : MB P bf bs) (hl : P.length < 100000)
    (k : ∀ (bf' : Nat → Int32) (bs' : Int32), MB (P ++ pred1 tm e kk) bf' bs' → Q bf' bs') : pX9_addPredecessor (nI (4 * i)) (nI kk) wr mv pa bf bs Q := by
  obtain ⟨r1, r2, r3, r4⟩ := he
  obtain ⟨e1, e2, e3, e4', e5⟩ := hE
  have hin : vp_in (nI kk) 10 := vp_in_nI (by omega) (by omega)
  have in1 : vp_in (nI (4 * i + 1)) 1300 := vp_in_nI (by omega) (by omega)
  have in2 : vp_in (nI (4 * i + 2)) 1300 := vp_in_nI (by omega) (by omega)
  have in3 : vp_in (nI (4 * i + 3)) 1300 := vp_in_nI (by omega) (by omega)
  have c1 : bc b e.2.1 < 20 := by unfold bc; split <;> omega
  have no : (∀ x, ¬ Pre tm e kk x) → Q bf bs := fun h => k _ _ (by rw [pred1_no h, List.append_nil]; exact hP)
  have j74 : (e.2.2.1 (bc b e.2.1) = true → (e.2.2.2 (bc b e.2.1) = true ↔ a = 1)) → pX9_addPredecessor_j74 (nI (4 * i)) (nI kk) wr mv pa Q (nI (bc b e.2.1)) bf bs := by
    intro hok
    unfold pX9_addPredecessor_j74
    rw [e2p, e3p, nI_clamp (show 4 * i + 2 < 2 ^ 31 by omega), nI_clamp (show 4 * i + 3 < 2 ^ 31 by omega), rem2 (by omega), div2 (by omega)]
    refine ⟨in2, in3, ?_⟩
    refine m_add (x := newE (kk / 2) (bc b e.2.1) e.2.2.1 e.2.2.2 (kk % 2)) hP hl ?_ ?_ (fun bf' bs' h => k _ _ (by rw [pred1_yes ⟨a, b, ht, hok, rfl⟩]; exact h))
    · intro j hj
      rw [b_or, r3 j hj, bit1 (by omega) hj]
      rfl
    · intro j hj
      rw [b_or, b_and, b_xor, r4 j hj, bit1 (by omega) hj, b_m1 j hj, bsh (by omega) (by omega) hj]
      show _ = (if j = bc b e.2.1 then decide (kk % 2 = 1) else e.2.2.2 j)
      by_cases q : j = bc b e.2.1
      · rw [if_pos q]; simp [q]
      · rw [if_neg q]; simp [q]
  have j23 : ∀ s1 : Int32, nI e.2.1 + s1 = nI (bc b e.2.1) → pX9_addPredecessor_j23 (nI (4 * i)) (nI kk) wr mv pa Q (nI e.2.1) s1 bf bs := by
    intro s1 es x4 ex
    rw [es] at ex
    subst ex
    rw [e2p, nI_clamp (show 4 * i + 2 < 2 ^ 31 by omega), ssh1 _ (show bc b e.2.1 < 32 by omega), r3 _ (by omega)]
    refine ⟨in2, fun g => ?_, fun g => ?_⟩
    · have hk0 : ¬ e.2.2.1 (bc b e.2.1) = true := fun q => g (by rw [if_pos q]; rfl)
      exact ⟨fun _ => j74 (fun q => absurd q hk0), fun g => absurd rfl g⟩
    · have hk1 : e.2.2.1 (bc b e.2.1) = true := by
        by_cases q : e.2.2.1 (bc b e.2.1) = true
        · exact q
        · rw [if_neg q] at g; exact absurd g (by decide)
      refine ⟨fun g => absurd g n10, fun _ => ?_⟩
      rw [e3p, nI_clamp (show 4 * i + 3 < 2 ^ 31 by omega), nI_clamp (show kk < 2 ^ 31 by omega), hwr, ssh1 _ (show bc b e.2.1 < 32 by omega), r4 _ (by omega)]
      have hiff : nI (if e.2.2.2 (bc b e.2.1) = true then 1 else 0) = nI a ↔ (e.2.2.2 (bc b e.2.1) = true ↔ a = 1) := by
        cases e.2.2.2 (bc b e.2.1) with
        | true =>
          rw [if_pos rfl, nI_eq (by omega) (by omega)]
          exact ⟨fun q => ⟨fun _ => q.symm, fun _ => rfl⟩, fun q => (q.mp rfl).symm⟩
        | false =>
          rw [if_neg (by decide), nI_eq (by omega) (by omega)]
          refine ⟨fun q => ⟨fun z => (by cases z), fun z => (by omega)⟩, fun q => ?_⟩
          have : ¬ a = 1 := fun z => by have := q.mpr z; cases this
          omega
      refine ⟨in3, hin, fun q => no ?_, fun q => j74 (fun _ => hiff.mp q)⟩
      rintro x ⟨a', b', t1, t2, -⟩
      rw [ht] at t1
      cases t1
      exact q (hiff.mpr (t2 hk1))
  unfold pX9_addPredecessor
  rw [nI_1, nI_clamp (show 4 * i + 1 < 2 ^ 31 by omega), nI_clamp (show kk < 2 ^ 31 by omega), r2, hmv]
  refine ⟨in1, hin, fun q => j23 1 ?_, fun q => j23 (-1) ?_⟩
  · have : ¬ b = 1 := fun z => q (by rw [z]; rfl)
    unfold bc
    rw [if_neg this, nI_1]
  · have : b = 1 := (nI_eq (b := 1) (by omega) (by omega)).mp q
    unfold bc
    rw [if_pos this]
    have : nI e.2.1 = nI (e.2.1 - 1 + 1) := by congr 1; omega
    rw [this, pk_m1]
theorem flat_len {F : List PE} {g : PE → List PE} {m : Nat} (h : ∀ e, (g e).length ≤ m) : (F.flatMap g).length ≤ m * F.length := by
  induction F with
  | nil => simp
  | cons e F ih =>
    rw [List.flatMap_cons, List.length_append, List.length_cons, Nat.mul_add]
    have := h e
    omega
theorem m_all {cnt d : Nat} {tm : TM} {c0 bs : Int32} {has wr mv nx pa bf : Nat → Int32} {F : List PE} {Q : (Nat → Int32) → (Nat → Int32) → Int32 → Int32 → Prop} (hW : WF cnt tm) (hM : RMm cnt tm c0 has wr mv nx) (hl : F.length ≤ 300) (hF : MB F pa (nI F.length)) (hE : WL cnt d F) (hd : d + 1 ≤ 9)
    (k : ∀ (pa' bf' : Nat → Int32) (ps' bs' : Int32), MB (F.flatMap (fun e => preds tm e (2 * cnt))) pa' ps' → Q pa' bf' ps' bs') : pX9_layPredecessors (nI cnt) has wr mv nx pa bf (nI F.length) bs Q := by
  have hc5 := hW.2.1
  have hlen : ∀ i, ((F.take i).flatMap (fun e => preds tm e (2 * cnt))).length ≤ 3000 := by
    intro i
    have h1 := flat_len (F := F.take i) (g := fun e => preds tm e (2 * cnt)) (m := 10) (fun e => Nat.le_trans (preds_len tm e _) (by omega))
    have h2 : (F.take i).length ≤ 300 := by rw [List.length_take]; omega
    omega
  refine Lp.up F.length (fun i (v : Int32 × (Nat → Int32) × Int32) => v.1 = nI i ∧ MB ((F.take i).flatMap (fun e => preds tm e (2 * cnt))) v.2.1 v.2.2) ?_ (Nat.zero_le _) ⟨rfl, by simp; rfl, fun i e hi he => by simp at he⟩
  rintro i ⟨l1, b1, n1⟩ hi ⟨e, hL⟩
  dsimp only at e hL
  subst e
  refine ⟨fun c => ?_, fun c => ?_⟩
  · have hc := (nI_leI (by omega) (by omega)).mp c
    rw [show i = F.length by omega, List.take_length] at hL
    exact m_take hL (fun pa' hp => k _ _ _ _ hp)
  · have hlt' : i < F.length := by
      rcases Nat.lt_or_ge i F.length with g | g
      · exact g
      · exact absurd (nI_le g (by omega)) c
    obtain ⟨e, he⟩ : ∃ e, F[i]? = some e := ⟨F[i], List.getElem?_eq_getElem hlt'⟩
    have hEe := hE e (List.mem_of_getElem? he)
    have hMe := hF.2 i e (by omega) he
    refine Lp.up (2 * cnt) (fun j (v : Int32 × (Nat → Int32) × Int32) => v.1 = nI j ∧ MB ((F.take i).flatMap (fun e => preds tm e (2 * cnt)) ++ preds tm e j) v.2.1 v.2.2) ?_ (Nat.zero_le _) ⟨rfl, by simp only [preds, List.append_nil]; exact hL⟩
    rintro j ⟨l2, b2, n2⟩ hj ⟨e', hL2⟩
    dsimp only at e' hL2
    subst e'
    refine ⟨fun c4 => ?_, fun c4 => ?_⟩
    · rw [e2m] at c4
      have hc4 := (nI_leI (by omega) (by omega)).mp c4
      intro x6 e6
      rw [e6, nI_1]
      refine ⟨hlt', rfl, ?_⟩
      show MB ((F.take (i + 1)).flatMap (fun e => preds tm e (2 * cnt))) _ _
      rw [take_flat he]
      rw [show j = 2 * cnt by omega] at hL2
      exact hL2
    · rw [e2m] at c4
      have hj' : j < 2 * cnt := by
        rcases Nat.lt_or_ge j (2 * cnt) with g | g
        · exact g
        · exact absurd (nI_le g (by omega)) c4
      have hin : vp_in (nI j) 10 := vp_in_nI (by omega) (by omega)
      have hin4 : vp_in (nI (4 * i)) 1300 := vp_in_nI (by omega) (by omega)
      rw [e4, nI_clamp (show j < 2 ^ 31 by omega), nI_clamp (show 4 * i < 2 ^ 31 by omega), hMe.1]
      refine ⟨hin, ?_⟩
      have fin : ∀ (b3 : Nat → Int32) (n3 : Int32), MB ((F.take i).flatMap (fun e => preds tm e (2 * cnt)) ++ preds tm e j ++ pred1 tm e j) b3 n3 → ∀ X7 : (Int32 × (Nat → Int32) × Int32) → Prop, pX9_layPredecessors_j61 (nI cnt) has wr mv nx Q X7 (fun (v : Int32 × (Nat → Int32) × Int32) => j < 2 * cnt ∧ v.1 = nI (j + 1) ∧ MB ((F.take i).flatMap (fun e => preds tm e (2 * cnt)) ++ preds tm e (j + 1)) v.2.1 v.2.2) pa (nI F.length) (nI i) (nI j) b3 n3 := by
        intro b3 n3 h3 X7 x9 e9
        rw [e9, nI_1]
        refine ⟨hj', rfl, ?_⟩
        show MB (_ ++ preds tm e (j + 1)) b3 n3
        simp only [preds]
        rw [← List.append_assoc]
        exact h3
      obtain ⟨g1, g2⟩ := hM.2 j (by omega)
      cases ht : tm j with
      | none =>
        rw [g1 ht]
        refine ⟨fun _ => fin _ _ ?_ _, fun g => absurd rfl g⟩
        rw [pred1_no, List.append_nil]
        · exact hL2
        · rintro x ⟨a, b, t1, -⟩
          rw [ht] at t1; cases t1
      | some x =>
        obtain ⟨a, b, dd⟩ := x
        obtain ⟨w0, w1, w2, w3⟩ := g2 a b dd ht
        obtain ⟨h1, ha, hb, hdd⟩ := hW.2.2 _ _ _ _ ht
        have he1 := hEe.1
        rw [w0, w3]
        refine ⟨fun g => absurd g n10, fun _ => ⟨hin, hin4, fun g => fin _ _ ?_ _, fun g => ?_⟩⟩
        · rw [pred1_no, List.append_nil]
          · exact hL2
          · rintro x ⟨a', b', t1, -⟩
            rw [ht] at t1
            cases t1
            exact g rfl
        · have hde : dd = e.1 := (nI_eq (by omega) (by omega)).mp g
          rw [hde] at ht
          refine m_pred (cnt := cnt) (d := d) (by omega) (by omega) ht ha hb w1 w2 hMe hEe hd hL2 ?_ (fun b3 n3 h3 => fin _ _ h3 _)
          rw [List.length_append]
          have := hlen i
          have := preds_len tm e j
          omega
theorem RMw_zero {W : Int32} {f : Nat → Bool} (h : RMw W f) (hf : ∀ i, 20 ≤ i → f i = false) : W = 0 ↔ ∀ i, f i = false := by
  constructor
  · intro e i
    by_cases g : 20 ≤ i
    · exact hf i g
    · have := h i (by omega)
      rw [e, b_0] at this
      exact this.symm
  · intro e
    apply b_ext
    intro i hi
    rw [h i hi, e, b_0]
theorem m_match {cnt d : Nat} {F : List PE} {pa : Nat → Int32} {Q : Int32 → Prop} (hF : MB F pa (nI F.length)) (hl : F.length ≤ 300) (hc5 : cnt ≤ 5) (hE : WL cnt d F) (k1 : Mt F → Q 1) (k0 : ¬ Mt F → Q 0) : pX9_matchesStart pa (nI F.length) Q := by
  refine Lp.up F.length (fun i (v : Int32 × Int32) => v.2 = nI i ∧ ((v.1 = 1 ∧ Mt F) ∨ (v.1 = 0 ∧ ∀ j e, j < i → F[j]? = some e → ¬ (e.1 = 0 ∧ ∀ m, e.2.2.2 m = false)))) ?_ (Nat.zero_le _) ⟨rfl, Or.inr ⟨rfl, fun j e hj => absurd hj (Nat.not_lt_zero _)⟩⟩
  rintro i ⟨l1, l2⟩ hi ⟨ee, hv⟩
  dsimp only at ee hv
  subst ee
  refine ⟨fun c => ?_, fun c => ?_⟩
  · have hc := (nI_leI (by omega) (by omega)).mp c
    rcases hv with ⟨rfl, hm⟩ | ⟨rfl, hno⟩
    · exact ⟨isB_1, k1 hm⟩
    · refine ⟨isB_0, k0 ?_⟩
      rintro ⟨e, he, h2⟩
      obtain ⟨j, hj⟩ := List.getElem?_of_mem he
      have := (List.getElem?_eq_some_iff.mp hj).1
      exact hno j e (by omega) hj h2
  · have hlt' : i < F.length := by
      rcases Nat.lt_or_ge i F.length with g | g
      · exact g
      · exact absurd (nI_le g (by omega)) c
    have yes : Mt F → pX9_matchesStart_j40 pa (nI F.length) Q (fun b => i < F.length ∧ b.2 = nI (i + 1) ∧ ((b.1 = 1 ∧ Mt F) ∨ (b.1 = 0 ∧ ∀ j e, j < i + 1 → F[j]? = some e → ¬ (e.1 = 0 ∧ ∀ m, e.2.2.2 m = false)))) (nI i) := by
      intro hm x3 e3
      rw [e3, nI_1]
      exact ⟨hlt', rfl, Or.inl ⟨rfl, hm⟩⟩
    rcases hv with ⟨rfl, hm⟩ | ⟨rfl, hno⟩
    · exact ⟨fun _ => yes hm, fun g => absurd g n10⟩
    · refine ⟨fun g => absurd rfl g, fun _ => ?_⟩
      obtain ⟨e, he⟩ : ∃ e, F[i]? = some e := ⟨F[i], List.getElem?_eq_getElem hlt'⟩
      have hmem := List.mem_of_getElem? he
      obtain ⟨e1, e2, e3, e4', e5⟩ := hE e hmem
      obtain ⟨r1, r2, r3, r4⟩ := hF.2 i e (by omega) he
      have nx : ¬ (e.1 = 0 ∧ ∀ m, e.2.2.2 m = false) → pX9_matchesStart_j44 pa (nI F.length) Q (fun b => i < F.length ∧ b.2 = nI (i + 1) ∧ ((b.1 = 1 ∧ Mt F) ∨ (b.1 = 0 ∧ ∀ j e, j < i + 1 → F[j]? = some e → ¬ (e.1 = 0 ∧ ∀ m, e.2.2.2 m = false)))) (nI i) := by
        intro hne x5 e5'
        rw [e5', nI_1]
        refine ⟨hlt', rfl, Or.inr ⟨rfl, fun j e' hj he' => ?_⟩⟩
        by_cases q : j = i
        · subst q
          rw [he] at he'
          cases he'
          exact hne
        · exact hno j e' (by omega) he'
      rw [e4, e3p, nI_clamp (show 4 * i < 2 ^ 31 by omega), nI_clamp (show 4 * i + 3 < 2 ^ 31 by omega), r1]
      exact ⟨vp_in_nI (by omega) (by omega), fun g => nx (fun q => g (by rw [q.1]; rfl)), fun g => ⟨vp_in_nI (by omega) (by omega), fun g2 => nx (fun q => g2 ((RMw_zero r4 e5).mpr q.2)), fun g2 => yes ⟨e, hmem, (nI_eq (b := 0) (by omega) (by omega)).mp g, (RMw_zero r4 e5).mp g2⟩⟩⟩
theorem m_depth {cnt lim : Nat} {tm : TM} {c0 ps bs : Int32} {has wr mv nx pa bf : Nat → Int32} {Q : Int32 → (Nat → Int32) → (Nat → Int32) → Int32 → Int32 → Prop} (hW : WF cnt tm) (hM : RMm cnt tm c0 has wr mv nx) (hlim : lim ≤ 8)
    (k : ∀ r : Int32, Dep tm (2 * cnt) lim r → ∀ (a1 a2 : Nat → Int32) (a5 a6 : Int32), Q r a1 a2 a5 a6) : pX9_depthFor (nI lim) (nI cnt) has wr mv nx pa bf ps bs Q := by
  have hc5 := hW.2.1
  refine m_halting hW hM (fun p1 b1 s1 t1 hA => ?_)
  refine Lp.up (lim + 1) (fun d (v : Int32 × (Nat → Int32) × (Nat → Int32) × Int32 × Int32) => v.1 = nI d ∧ (∀ j, j < d → good tm (2 * cnt) j) ∧ (lv tm (2 * cnt) d).length ≤ 3000 ∧ MB (lv tm (2 * cnt) d) v.2.1 v.2.2.2.1) ?_ (Nat.zero_le _) ⟨rfl, fun j hj => absurd hj (Nat.not_lt_zero _), Nat.le_trans (lH_len tm (2 * cnt)) (by omega), hA⟩
  rintro d ⟨l2, p2, b2, s2, t2⟩ hd ⟨e, hg, hlen, hB⟩
  dsimp only at e hg hlen hB
  subst e
  obtain ⟨rfl, hB2⟩ := hB
  refine ⟨fun c => ?_, fun c => ?_⟩
  · have hc := (nI_ltI (by omega) (by omega)).mp c
    exact k _ (Or.inr ⟨rfl, fun d' hd' _ => (hg d' (by omega)).1⟩) _ _ _ _
  · have hdl : d ≤ lim := by
      rcases Nat.lt_or_ge lim d with q | q
      · exact absurd (nI_lt q (by omega)) c
      · exact q
    have hWL := WL_lv hW d (by omega)
    refine ⟨fun g => ?_, fun g => ?_⟩
    · have hne : lv tm (2 * cnt) d ≠ [] := fun q => g (by rw [q]; rfl)
      refine ⟨fun g2 => ?_, fun g2 => ?_⟩
      · have := (nI_ltI (a := 300) (by omega) (by omega)).mp g2
        exact k _ (Dep_none hg hne (Or.inr (fun z => absurd z.2.1 (by omega)))) _ _ _ _
      · have hle : (lv tm (2 * cnt) d).length ≤ 300 := by
          rcases Nat.lt_or_ge 300 (lv tm (2 * cnt) d).length with q | q
          · exact absurd (nI_lt (a := 300) q (by omega)) g2
          · exact q
        refine m_match ⟨rfl, hB2⟩ hle hc5 hWL (fun hm => ⟨fun z => absurd z n10, fun _ => k _ (Dep_none hg hne (Or.inr (fun z => z.2.2 hm))) _ _ _ _⟩) (fun hm => ⟨fun _ => ?_, fun z => absurd rfl z⟩)
        refine m_all hW hM hle ⟨rfl, hB2⟩ hWL (by omega) (fun p3 b3 s3 t3 hC x17 e17 => ?_)
        rw [e17, nI_1]
        refine ⟨by omega, rfl, fun j hj => ?_, ?_, hC⟩
        · by_cases q : j = d
          · subst q; exact ⟨hne, hle, hm⟩
          · exact hg j (by omega)
        · have h1 := flat_len (F := lv tm (2 * cnt) d) (g := fun e => preds tm e (2 * cnt)) (m := 10) (fun e => Nat.le_trans (preds_len tm e _) (by omega))
          show ((lv tm (2 * cnt) d).flatMap (fun e => preds tm e (2 * cnt))).length ≤ 3000
          omega
    · have := (nI_eq (b := 0) (by omega) (by omega)).mp g
      exact k _ (Or.inl ⟨d, hdl, List.length_eq_zero_iff.mp this, hg, rfl⟩) _ _ _ _
theorem O_backwardDepth : Ob_backwardDepth Iv := by
  rintro c wr mv fo words st hd ti lo hi codes len states has write move next text typed tape on mt ms mh e1 e2 e3 e4' e5 e6 o1 o2 o3 o4 o5 o6 pa bf ps bs p ⟨cnt, tm, hW, hX, hM, hC, hT⟩
  have hI : Iv c wr mv fo words st hd ti lo hi codes len states has write move next text typed tape on mt ms mh := ⟨cnt, tm, hW, hX, hM, hC, hT⟩
  have hXc := hX.1
  have hMc := hM.1
  refine ⟨fun g => in_lo g ⟨fun _ => ⟨rfl, hI⟩, fun q => absurd rfl q⟩, fun g => ⟨fun g2 => ?_, fun g2 => in_hi (nle_lt g2) ⟨fun _ => ⟨rfl, hI⟩, fun q => absurd rfl q⟩⟩⟩
  obtain ⟨j, j1, j2, rfl⟩ := rng (lo := 1) (hi := 8) (by omega) g (le_nlt g2) (by omega)
  subst hXc
  refine x_findDepth hW hX j2 (fun r hr a1 a2 a3 a4 a5 a6 b1 b2 b3 b4 b5 b6 => ?_)
  refine in_ok g (le_nlt g2) ⟨fun q => absurd q n10, fun _ => ?_⟩
  rw [hMc]
  refine m_depth hW hM j2 (fun r' hr' a1 a2 a5 a6 => ⟨Dep_one hr hr', ?_⟩)
  exact hMc ▸ hI
