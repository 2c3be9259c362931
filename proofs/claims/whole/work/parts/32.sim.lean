/-! own: the run from the start, in both -/
def E0 : Ecf := (0, 0, fun _ => 0, 0, 0)
def cf (tm : TM) (i : Nat) : Ecf := itE tm E0 i
def nh (tm : TM) (L : Nat) : Prop := ∀ j, j < L → ¬ hlt tm (cf tm j)
theorem cf_succ {tm : TM} {i a b d : Nat} (h : rd tm (cf tm i).1 (cf tm i).2.1 (cf tm i).2.2.1 = some (a, b, d)) : cf tm (i + 1) = (d, mvd (cf tm i).2.1 b, wrt (cf tm i).2.2.1 (cf tm i).2.1 a, lmin (mvd (cf tm i).2.1 b) (cf tm i).2.2.2.1, lmax (mvd (cf tm i).2.1 b) (cf tm i).2.2.2.2) := stE_some h
theorem nhlt {tm : TM} {e : Ecf} (h : ¬ hlt tm e) : ∃ a b d, rd tm e.1 e.2.1 e.2.2.1 = some (a, b, d) := by
  cases hr : rd tm e.1 e.2.1 e.2.2.1 with
  | none => exact absurd hr h
  | some x => obtain ⟨a, b, d⟩ := x; exact ⟨a, b, d, rfl⟩
theorem CE_cf {cnt L : Nat} {tm : TM} (hW : WF cnt tm) (h : nh tm L) (hL : L ≤ 5000) : ∀ i, i ≤ L → CE cnt i (cf tm i)
  | 0, _ => ⟨by omega, Or.inl (by have := hW.1; show 0 < cnt; omega), by show -((0 : Nat) : Int) ≤ 0; omega, by show (0 : Int) ≤ 0; omega, by show (0 : Int) ≤ 0; omega, by show (0 : Int) ≤ ((0 : Nat) : Int); omega, by show (0 : Int) ≤ 0; omega, by show (0 : Int) ≤ 0; omega, fun _ => by show 0 < 2; omega, fun _ _ => rfl⟩
  | i + 1, hi => by
    have ih := CE_cf hW h hL i (by omega)
    obtain ⟨a, b, d, hr⟩ := nhlt (h i (by omega))
    exact CE_step hW ih (by omega) hr
theorem mvd_ne (h : Int) (b : Nat) : mvd h b = h + 1 ∨ mvd h b = h - 1 := by unfold mvd; split <;> omega
theorem ext_hi {tm : TM} {L : Nat} (h : nh tm L) : ∀ i, i ≤ L → (∀ j, j ≤ i → (cf tm j).2.1 ≤ (cf tm i).2.2.2.2 ∧ (cf tm i).2.2.2.1 ≤ (cf tm j).2.1) ∧ (∃ j, j ≤ i ∧ (cf tm j).2.1 = (cf tm i).2.2.2.2) ∧ ∃ j, j ≤ i ∧ (cf tm j).2.1 = (cf tm i).2.2.2.1
  | 0, _ => ⟨fun j hj => by rw [show j = 0 by omega]; exact ⟨Int.le_refl _, Int.le_refl _⟩, ⟨0, by omega, rfl⟩, ⟨0, by omega, rfl⟩⟩
  | i + 1, hi => by
    obtain ⟨i1, ⟨j1, h1, e1⟩, ⟨j2, h2, e2⟩⟩ := ext_hi h i (by omega)
    obtain ⟨a, b, d, hr⟩ := nhlt (h i (by omega))
    have es := cf_succ hr
    have eh : (cf tm (i + 1)).2.1 = mvd (cf tm i).2.1 b := by rw [es]
    have elo : (cf tm (i + 1)).2.2.2.1 = lmin (mvd (cf tm i).2.1 b) (cf tm i).2.2.2.1 := by rw [es]
    have ehi : (cf tm (i + 1)).2.2.2.2 = lmax (mvd (cf tm i).2.1 b) (cf tm i).2.2.2.2 := by rw [es]
    unfold lmin at elo
    unfold lmax at ehi
    refine ⟨fun j hj => ?_, ?_, ?_⟩
    · by_cases e : j = i + 1
      · subst e
        rw [elo, ehi, eh]
        constructor <;> split <;> omega
      · have := i1 j (by omega)
        rw [elo, ehi]
        constructor <;> split <;> omega
    · rw [ehi]
      by_cases c : (cf tm i).2.2.2.2 < mvd (cf tm i).2.1 b
      · rw [if_pos c]; exact ⟨i + 1, by omega, eh⟩
      · rw [if_neg c]; exact ⟨j1, by omega, e1⟩
    · rw [elo]
      by_cases c : mvd (cf tm i).2.1 b < (cf tm i).2.2.2.1
      · rw [if_pos c]; exact ⟨i + 1, by omega, eh⟩
      · rw [if_neg c]; exact ⟨j2, by omega, e2⟩
def RecR (tm : TM) (i : Nat) : Prop := ∀ j, j < i → (cf tm j).2.1 < (cf tm i).2.1
def RecL (tm : TM) (i : Nat) : Prop := ∀ j, j < i → (cf tm i).2.1 < (cf tm j).2.1
theorem rec_r {tm : TM} {i : Nat} (h : nh tm (i + 1)) : RecR tm (i + 1) ↔ (cf tm i).2.2.2.2 < (cf tm (i + 1)).2.1 := by
  obtain ⟨i1, ⟨j1, h1, e1⟩, -⟩ := ext_hi h i (by omega)
  constructor
  · intro g
    have := g j1 (by omega)
    omega
  · intro g j hj
    have := (i1 j (by omega)).1
    omega
theorem rec_l {tm : TM} {i : Nat} (h : nh tm (i + 1)) : RecL tm (i + 1) ↔ (cf tm (i + 1)).2.1 < (cf tm i).2.2.2.1 := by
  obtain ⟨i1, -, ⟨j1, h1, e1⟩⟩ := ext_hi h i (by omega)
  constructor
  · intro g
    have := g j1 (by omega)
    omega
  · intro g j hj
    have := (i1 j (by omega)).2
    omega
/-- where a run within a limit ends -/
def Ran (tm : TM) (lim L : Nat) : Prop := L ≤ lim ∧ nh tm L ∧ (L = lim ∨ hlt tm (cf tm L))
theorem Ran_one {tm : TM} {lim L L' : Nat} (h : Ran tm lim L) (h' : Ran tm lim L') : L = L' := by
  obtain ⟨a, b, c⟩ := h
  obtain ⟨a', b', c'⟩ := h'
  rcases Nat.lt_trichotomy L L' with g | g | g
  · rcases c with u | u
    · omega
    · exact absurd u (b' L g)
  · exact g
  · rcases c' with u | u
    · omega
    · exact absurd u (b L' g)
/-- the class's rows for the times up to L -/
def HX (tm : TM) (L : Nat) (sr hr rr lr tr : Nat → Int32) : Prop := ∀ i, i ≤ L → sr i = nI (cf tm i).1 ∧ hr i = iI (cf tm i).2.1 ∧ ((RecR tm i → rr i = 1) ∧ (¬ RecR tm i → rr i = 0)) ∧ ((RecL tm i → lr i = 1) ∧ (¬ RecL tm i → lr i = 0)) ∧ RB 200 13 (fun k => tr (13 * i + k)) (cf tm i).2.2.1
theorem x_keep {i : Nat} {p2 p3 st hd : Int32} {words sr hr rr lr tr : Nat → Int32} {Q : (Nat → Int32) → (Nat → Int32) → (Nat → Int32) → (Nat → Int32) → (Nat → Int32) → Prop} (hi : i ≤ 200) (h2 : isB p2) (h3 : isB p3) (k : ∀ tr' : Nat → Int32, (∀ j, j < 13 → tr' (13 * i + j) = words j) → (∀ j, j < 13 * i → tr' j = tr j) → Q (upd sr i st) (upd hr i hd) (upd rr i p2) (upd lr i p3) tr') : pX3_keep (nI i) p2 p3 words st hd sr hr rr lr tr Q := by
  have hin : vp_in (nI i) 201 := vp_in_nI (by omega) (by omega)
  refine ⟨fun c => absurd c (nI_pos (by omega)), fun _ => ⟨fun _ => ⟨hin, hin, hin, hin, ?_⟩, fun c => absurd (nI_le (b := 200) hi (by omega)) c⟩⟩
  rw [nI_clamp (show i < 2 ^ 31 by omega), vnb h2, vnb h3]
  refine Lp.up 13 (fun j v => v.1 = nI j ∧ (∀ m, m < j → v.2 (13 * i + m) = words m) ∧ ∀ m, m < 13 * i → v.2 m = tr m) ?_ (Nat.zero_le _) ⟨rfl, fun m hm => absurd hm (Nat.not_lt_zero _), fun _ _ => rfl⟩
  rintro j ⟨l5, g⟩ hj ⟨e, g1, g2⟩
  dsimp only at e g1 g2
  subst e
  have fin : ¬ j < 13 → Q (upd sr i st) (upd hr i hd) (upd rr i p2) (upd lr i p3) g := fun c => k g (fun m hm => g1 m (by omega)) g2
  refine ⟨fun c => fin ?_, fun c => ⟨fun c2 => fin ?_, fun c2 => ?_⟩⟩
  · have := (nI_leI (a := 13) (by omega) (by omega)).mp c
    omega
  · have := (nI_leI (by omega) (by omega)).mp c2
    omega
  · have hlt' : j < 13 := by
      rcases Nat.lt_or_ge j 13 with q | q
      · exact q
      · exact absurd (nI_le (a := 13) q (by omega)) c
    have ei : (13 : Int32) * nI i + nI j = nI (13 * i + j) := by rw [show (13 : Int32) = nI 13 from rfl, pk_mul, nI_add]
    rw [ei, nI_clamp (show 13 * i + j < 2 ^ 31 by omega), nI_clamp (show j < 2 ^ 31 by omega)]
    refine ⟨vp_in_nI hlt' (by omega), vp_in_nI (by omega) (by omega), ?_⟩
    intro x11 e11
    rw [e11, nI_1]
    refine ⟨hlt', rfl, fun m hm => ?_, fun m hm => ?_⟩
    · show upd g (13 * i + j) (words j) (13 * i + m) = words m
      rw [upd_eq]
      by_cases e : m = j
      · subst e; rw [if_pos rfl]
      · rw [if_neg (by omega)]; exact g1 m (by omega)
    · show upd g (13 * i + j) (words j) m = tr m
      rw [upd_eq, if_neg (by omega)]; exact g2 m hm
theorem HX_step {tm : TM} {L : Nat} {sr hr rr lr tr tr' words : Nat → Int32} {p2 p3 : Int32} (h : ∀ i, i < L → sr i = nI (cf tm i).1 ∧ hr i = iI (cf tm i).2.1 ∧ ((RecR tm i → rr i = 1) ∧ (¬ RecR tm i → rr i = 0)) ∧ ((RecL tm i → lr i = 1) ∧ (¬ RecL tm i → lr i = 0)) ∧ RB 200 13 (fun k => tr (13 * i + k)) (cf tm i).2.2.1) (h1 : ∀ j, j < 13 → tr' (13 * L + j) = words j) (h2 : ∀ j, j < 13 * L → tr' j = tr j) (hB : RB 200 13 words (cf tm L).2.2.1) (hr2 : (RecR tm L → p2 = 1) ∧ (¬ RecR tm L → p2 = 0)) (hr3 : (RecL tm L → p3 = 1) ∧ (¬ RecL tm L → p3 = 0)) : HX tm L (upd sr L (nI (cf tm L).1)) (upd hr L (iI (cf tm L).2.1)) (upd rr L p2) (upd lr L p3) tr' := by
  intro i hi
  simp only [upd_eq]
  by_cases e : i = L
  · subst e
    simp only [if_true]
    refine ⟨trivial, trivial, hr2, hr3, fun j hj => ?_⟩
    show bt (tr' (13 * i + j / 32)) (j % 32) = _
    rw [h1 _ (by omega)]
    exact hB j hj
  · simp only [if_neg e]
    obtain ⟨a1, a2, a3, a4, a5⟩ := h i (by omega)
    refine ⟨a1, a2, a3, a4, fun j hj => ?_⟩
    show bt (tr' (13 * i + j / 32)) (j % 32) = _
    rw [h2 _ (by omega)]
    exact a5 j hj
theorem x_record {cnt lim : Nat} {tm : TM} {c0 st hd ti lo hi la en : Int32} {wr mv fo words sr hr rr lr tr : Nat → Int32} {Q : (Nat → Int32) → Int32 → Int32 → Int32 → Int32 → Int32 → (Nat → Int32) → (Nat → Int32) → (Nat → Int32) → (Nat → Int32) → (Nat → Int32) → Int32 → Int32 → Prop} (hW : WF cnt tm) (hX : RMx cnt tm c0 wr mv fo) (hl : lim ≤ 200)
    (k : ∀ (L : Nat) (w' : Nat → Int32) (a1 a2 a3 a4 a5 : Int32) (sr' hr' rr' lr' tr' : Nat → Int32) (en' : Int32), Ran tm lim L → HX tm L sr' hr' rr' lr' tr' → (hlt tm (cf tm L) → en' = 1) → (¬ hlt tm (cf tm L) → en' = 0) → Q w' a1 a2 a3 a4 a5 sr' hr' rr' lr' tr' (nI L) en') :
    pX3_record (nI lim) 200 words st hd ti lo hi sr hr rr lr tr la en (nI cnt) wr mv fo Q := by
  refine sx_begin (by omega) (fun w1 hw1 => ?_)
  refine x_keep (i := 0) (by omega) isB_1 isB_1 (fun tr1 ht1 ht2 => ?_)
  intro x14 e14
  rw [show (200 : Int32) = nI 200 from rfl, if_neg (nI_nlt hl (by omega))] at e14
  subst e14
  have hB0 : RB 200 13 w1 (cf tm 0).2.2.1 := by
    intro j hj
    rw [hw1 _ (by omega), b_0]
    rfl
  have hx0 := HX_step (tm := tm) (L := 0) (sr := sr) (hr := hr) (rr := rr) (lr := lr) (tr := tr) (p2 := 1) (p3 := 1) (fun i hi => absurd hi (Nat.not_lt_zero _)) ht1 ht2 hB0 ⟨fun _ => rfl, fun g => absurd (fun j hj => absurd hj (Nat.not_lt_zero _)) g⟩ ⟨fun _ => rfl, fun g => absurd (fun j hj => absurd hj (Nat.not_lt_zero _)) g⟩
  refine Lp.up lim (fun i v => nh tm i ∧ ∃ w' sr' hr' rr' lr' tr' : Nat → Int32, RB 200 13 w' (cf tm i).2.2.1 ∧ HX tm i sr' hr' rr' lr' tr' ∧ v = (nI i, w', nI (cf tm i).1, iI (cf tm i).2.1, nI i, iI (cf tm i).2.2.2.1, iI (cf tm i).2.2.2.2, sr', hr', rr', lr', tr')) ?_ (Nat.zero_le _) ⟨fun j hj => absurd hj (Nat.not_lt_zero _), w1, _, _, _, _, tr1, hB0, hx0, rfl⟩
  rintro i v hi ⟨hn, w', sr', hr', rr', lr', tr', hB, hH, rfl⟩
  obtain ⟨c1, c2, c3, c4, c5, c6, c7, c8, c9, c10⟩ := CE_cf hW hn (by omega) i (Nat.le_refl _)
  have fin : (i = lim ∨ hlt tm (cf tm i)) → pX3_record_j114 (nI lim) 200 (nI cnt) wr mv fo Q (nI i) w' (nI (cf tm i).1) (iI (cf tm i).2.1) (nI i) (iI (cf tm i).2.2.2.1) (iI (cf tm i).2.2.2.2) sr' hr' rr' lr' tr' la en := by
    intro hend
    refine x_over (R := 200) hW hX (by omega) (by omega) hB c9 (by omega) (by omega) c2 (fun hr => ⟨isB_1, ?_⟩) (fun x hr => ⟨isB_0, ?_⟩)
    · exact k i _ _ _ _ _ _ _ _ _ _ _ _ ⟨hi, hn, hend⟩ hH (fun _ => rfl) (fun g => absurd hr g)
    · exact k i _ _ _ _ _ _ _ _ _ _ _ _ ⟨hi, hn, hend⟩ hH (fun g => by unfold hlt at g; rw [hr] at g; cases g) (fun _ => rfl)
  refine ⟨fun c => fin (Or.inl ?_), fun c => ?_⟩
  · have := (nI_leI (by omega) (by omega)).mp c
    omega
  · have hlt' : i < lim := by
      rcases Nat.lt_or_ge i lim with g | g
      · exact g
      · exact absurd (nI_le g (by omega)) c
    refine x_over (R := 200) hW hX (by omega) (by omega) hB c9 (by omega) (by omega) c2 (fun hr => ⟨fun _ => fin (Or.inr hr), fun g => absurd g n10⟩) (fun x hr => ⟨fun g => absurd rfl g, fun _ => ?_⟩)
    obtain ⟨a, b, d⟩ := x
    have hn' : nh tm (i + 1) := by
      intro j hj
      by_cases e : j = i
      · subst e
        intro g
        unfold hlt at g
        rw [hr] at g; cases g
      · exact hn j (by omega)
    have es := cf_succ hr
    refine x_adv (R := 200) hW hX (by omega) (by omega) hB c9 (by omega) (by omega) hr ⟨by omega, by omega⟩ ⟨by omega, by omega⟩ (by omega) (fun w2 hw2 x29 e29 => ?_)
    rw [nI_1] at e29
    subst e29
    have hB2 : RB 200 13 w2 (cf tm (i + 1)).2.2.1 := by rw [es]; exact hw2
    have e1 : d = (cf tm (i + 1)).1 := by rw [es]
    have e2 : mvd (cf tm i).2.1 b = (cf tm (i + 1)).2.1 := by rw [es]
    have e3 : lmin (mvd (cf tm i).2.1 b) (cf tm i).2.2.2.1 = (cf tm (i + 1)).2.2.2.1 := by rw [es]
    have e4 : lmax (mvd (cf tm i).2.1 b) (cf tm i).2.2.2.2 = (cf tm (i + 1)).2.2.2.2 := by rw [es]
    rw [e3, e4, e1, e2]
    have hm := mvd_ne (cf tm i).2.1 b
    rw [e2] at hm
    have kp : ∀ s2 s3 : Int32, isB s2 → isB s3 → ((RecR tm (i + 1) → s2 = 1) ∧ (¬ RecR tm (i + 1) → s2 = 0)) → ((RecL tm (i + 1) → s3 = 1) ∧ (¬ RecL tm (i + 1) → s3 = 0)) → pX3_record_j108 (nI lim) 200 (nI cnt) wr mv fo Q (fun b => i < lim ∧ nh tm (i + 1) ∧ ∃ w' sr' hr' rr' lr' tr' : Nat → Int32, RB 200 13 w' (cf tm (i + 1)).2.2.1 ∧ HX tm (i + 1) sr' hr' rr' lr' tr' ∧ b = (nI (i + 1), w', nI (cf tm (i + 1)).1, iI (cf tm (i + 1)).2.1, nI (i + 1), iI (cf tm (i + 1)).2.2.2.1, iI (cf tm (i + 1)).2.2.2.2, sr', hr', rr', lr', tr')) (nI lim) la en (nI (i + 1)) (nI (i + 1)) s2 s3 w2 (nI (cf tm (i + 1)).1) (iI (cf tm (i + 1)).2.1) (nI (i + 1)) (iI (cf tm (i + 1)).2.2.2.1) (iI (cf tm (i + 1)).2.2.2.2) sr' hr' rr' lr' tr' := by
      intro s2 s3 b2 b3 g2 g3
      refine x_keep (i := i + 1) (by omega) b2 b3 (fun tr2 ht1 ht2 => ⟨hlt', hn', w2, _, _, _, _, tr2, hB2, ?_, rfl⟩)
      exact HX_step (fun j hj => hH j (by omega)) ht1 ht2 hB2 g2 g3
    have kl : ∀ s2 : Int32, isB s2 → ((RecR tm (i + 1) → s2 = 1) ∧ (¬ RecR tm (i + 1) → s2 = 0)) → pX3_record_j91 (nI lim) 200 (nI cnt) wr mv fo Q (fun b => i < lim ∧ nh tm (i + 1) ∧ ∃ w' sr' hr' rr' lr' tr' : Nat → Int32, RB 200 13 w' (cf tm (i + 1)).2.2.1 ∧ HX tm (i + 1) sr' hr' rr' lr' tr' ∧ b = (nI (i + 1), w', nI (cf tm (i + 1)).1, iI (cf tm (i + 1)).2.1, nI (i + 1), iI (cf tm (i + 1)).2.2.2.1, iI (cf tm (i + 1)).2.2.2.2, sr', hr', rr', lr', tr')) (nI lim) la en (nI (i + 1)) (iI (cf tm i).2.2.2.1) (nI (i + 1)) s2 w2 (nI (cf tm (i + 1)).1) (iI (cf tm (i + 1)).2.1) (nI (i + 1)) (iI (cf tm (i + 1)).2.2.2.1) (iI (cf tm (i + 1)).2.2.2.2) sr' hr' rr' lr' tr' := by
      intro s2 b2 g2
      refine ⟨fun c => kp s2 0 b2 isB_0 g2 ⟨fun g => ?_, fun _ => rfl⟩, fun c => kp s2 1 b2 isB_1 g2 ⟨fun _ => rfl, fun g => ?_⟩⟩
      · rw [iI_le ⟨by omega, by omega⟩ ⟨by omega, by omega⟩] at c
        have := (rec_l hn').mp g
        omega
      · rw [iI_le ⟨by omega, by omega⟩ ⟨by omega, by omega⟩] at c
        exact absurd ((rec_l hn').mpr (by omega)) g
    refine ⟨fun c => kl 0 isB_0 ⟨fun g => ?_, fun _ => rfl⟩, fun c => kl 1 isB_1 ⟨fun _ => rfl, fun g => ?_⟩⟩
    · rw [iI_le ⟨by omega, by omega⟩ ⟨by omega, by omega⟩] at c
      have := (rec_r hn').mp g
      omega
    · rw [iI_le ⟨by omega, by omega⟩ ⟨by omega, by omega⟩] at c
      exact absurd ((rec_r hn').mpr (by omega)) g
