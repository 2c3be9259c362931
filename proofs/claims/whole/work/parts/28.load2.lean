/-! own: the machine out of a text -/
def eat (k : Nat) : Nat := 7 * (k / 2) + 3 * (k % 2)
def ent (cd : Nat → Int32) (k : Nat) : Option (Nat × Nat × Nat) := if cd (eat k) = 45 then none else some (if cd (eat k) = 49 then 1 else 0, if cd (eat k + 1) = 82 then 1 else 0, if cd (eat k + 2) = 90 then 9 else (cd (eat k + 2)).toNatClampNeg - 65)
def tmL (cd : Nat → Int32) (rows : Nat) : TM := fun k => if k < 2 * rows then ent cd k else none
theorem fw_len {cd : Nat → Int32} {len : Nat} (h : FW cd len none) : len ≤ 34 ∧ 7 * ((len + 1) / 7) = len + 1 ∧ 1 ≤ (len + 1) / 7 ∧ (len + 1) / 7 ≤ 5 := by
  obtain ⟨a, b, c⟩ := h
  have h34 : len ≤ 34 := by
    rcases Nat.lt_or_ge 34 len with q | q
    · have h := a 34 q
      unfold Fit at h
      rw [if_pos (by omega)] at h
      exact absurd h.2 (by omega)
    · exact q
  omega
theorem ent_ok {cd : Nat → Int32} {len k : Nat} (h : FW cd len none) (hk : k < 2 * ((len + 1) / 7)) (h45 : ¬ cd (eat k) = 45) : ∃ a b d : Nat, ent cd k = some (a, b, d) ∧ a < 2 ∧ b < 2 ∧ (d < (len + 1) / 7 ∨ d = 9) ∧ cd (eat k) - 48 = nI a ∧ (cd (eat k + 1) = 82 → b = 1) ∧ (¬ cd (eat k + 1) = 82 → b = 0) ∧ (cd (eat k + 2) = 90 → d = 9) ∧ (¬ cd (eat k + 2) = 90 → cd (eat k + 2) - 65 = nI d) := by
  obtain ⟨l34, l7, l1, l5⟩ := fw_len h
  obtain ⟨a, b, c⟩ := h
  have e0 : eat k % 7 = 3 * (k % 2) := by unfold eat; omega
  have hle : eat k + 2 < len := by unfold eat; omega
  have e2 : (eat k + 2) % 7 = 3 * (k % 2) + 2 := by omega
  have e3 : (eat k + 2) % 7 % 3 = 2 := by rcases Nat.mod_two_eq_zero_or_one k with q | q <;> omega
  have e4 : eat k % 7 % 3 = 0 := by rcases Nat.mod_two_eq_zero_or_one k with q | q <;> omega
  have f0 := a (eat k) (by omega)
  have f2 := a (eat k + 2) hle
  unfold Fit at f0 f2
  rw [if_neg (by omega), if_pos (by omega)] at f0
  rw [if_neg (by omega), if_neg (by omega), show (eat k + 2) - (eat k + 2) % 7 % 3 = eat k by omega, if_neg h45, if_neg (by omega)] at f2
  have hd : ∃ d : Nat, (if cd (eat k + 2) = 90 then 9 else (cd (eat k + 2)).toNatClampNeg - 65) = d ∧ (d < (len + 1) / 7 ∨ d = 9) ∧ (cd (eat k + 2) = 90 → d = 9) ∧ (¬ cd (eat k + 2) = 90 → cd (eat k + 2) - 65 = nI d) := by
    by_cases h90 : cd (eat k + 2) = 90
    · rw [if_pos h90]; exact ⟨9, rfl, Or.inr rfl, fun _ => rfl, fun q => absurd h90 q⟩
    · rw [if_neg h90]
      have hL : Ltr (cd (eat k + 2)) := f2.elim (fun q => absurd q h90) id
      have hb := c (eat k + 2) hle
      have hb2 : cd (eat k + 2) - 65 < nI ((len + 1) / 7) := Classical.byContradiction (fun q => hb ⟨hL, q⟩)
      generalize cd (eat k + 2) = x at hL hb2 h90 ⊢
      obtain ⟨z, z1, z2, rfl⟩ := iI_of x
      unfold Ltr at hL
      rw [show (65 : Int32) = iI 65 from rfl, iI_lt ⟨z1, z2⟩ ⟨by omega, by omega⟩, show (70 : Int32) = iI 70 from rfl, iI_le ⟨by omega, by omega⟩ ⟨z1, z2⟩] at hL
      rw [show (65 : Int32) = iI 65 from rfl, iI_sub, iI_nat, iI_lt ⟨by omega, by omega⟩ ⟨by omega, by omega⟩] at hb2
      rw [iI_clamp z1 z2]
      refine ⟨_, rfl, Or.inl (by omega), fun q => absurd q h90, fun _ => ?_⟩
      rw [show (65 : Int32) = iI 65 from rfl, iI_sub, iI_nat]
      congr 1
      omega
  obtain ⟨d, d1, d2, d3, d4⟩ := hd
  refine ⟨if cd (eat k) = 49 then 1 else 0, if cd (eat k + 1) = 82 then 1 else 0, d, ?_, ?_, ?_, d2, ?_, fun q => if_pos q, fun q => if_neg q, d3, d4⟩
  · unfold ent; rw [if_neg h45, d1]
  · split <;> omega
  · split <;> omega
  · rcases f0 with q | q | q
    · rw [q]; rfl
    · rw [q]; rfl
    · exact absurd q h45
theorem tmL_WF {cd : Nat → Int32} {len : Nat} (h : FW cd len none) : WF ((len + 1) / 7) (tmL cd ((len + 1) / 7)) := by
  obtain ⟨l34, l7, l1, l5⟩ := fw_len h
  refine ⟨l1, l5, ?_⟩
  intro k a b c hk
  unfold tmL at hk
  by_cases q : k < 2 * ((len + 1) / 7)
  · rw [if_pos q] at hk
    have h45 : ¬ cd (eat k) = 45 := fun e => by unfold ent at hk; rw [if_pos e] at hk; cases hk
    obtain ⟨a', b', d', e1, e2, e3, e4, -⟩ := ent_ok h q h45
    rw [e1] at hk
    cases hk
    exact ⟨q, e2, e3, e4⟩
  · rw [if_neg q] at hk; cases hk
theorem eat_e (st sy : Nat) : (7 : Int32) * nI st + 3 * nI sy = nI (7 * st + 3 * sy) := by rw [show (7 : Int32) = nI 7 from rfl, show (3 : Int32) = nI 3 from rfl, pk_mul, pk_mul, nI_add]
theorem eat_s {st sy : Nat} (h : sy < 2) : eat (2 * st + sy) = 7 * st + 3 * sy := by unfold eat; omega
theorem x_entry {cd : Nat → Int32} {len st sy : Nat} {w m f : Nat → Int32} {Q : (Nat → Int32) → (Nat → Int32) → (Nat → Int32) → Prop} (h : FW cd len none) (hst : st < (len + 1) / 7) (hsy : sy < 2) (k0 : ent cd (2 * st + sy) = none → Q w m f) (k1 : ∀ a b d, ent cd (2 * st + sy) = some (a, b, d) → Q (upd w (2 * st + sy) (nI a)) (upd m (2 * st + sy) (nI b)) (upd f (2 * st + sy) (nI d))) : pX5_copyEntry (nI st) (nI sy) (nI ((len + 1) / 7)) w m f cd (nI len) Q := by
  obtain ⟨l34, l7, l1, l5⟩ := fw_len h
  intro x1 e1
  rw [eat_e] at e1
  subst e1
  have he := eat_s (st := st) hsy
  refine x_code (by omega) (by omega) ⟨fun z => ?_, fun z => ?_⟩
  · have z' : ¬ cd (eat (2 * st + sy)) = 45 := by rw [he]; exact z
    obtain ⟨a, b, d, e1, e2, e3, e4, e5, e6, e7, e8, e9⟩ := ent_ok h (k := 2 * st + sy) (by omega) z'
    have fin := k1 a b d e1
    rw [he] at e5 e6 e7 e8 e9
    have tail : ∀ s0 : Int32, s0 = nI b → pX5_copyEntry_j44 (nI st) (nI sy) (nI ((len + 1) / 7)) cd (nI len) Q (nI (7 * st + 3 * sy)) (cd (7 * st + 3 * sy)) s0 w m f := by
      rintro s0 rfl
      show pX7_codeAt (nI (7 * st + 3 * sy) + 2) _ _ _
      rw [show (2 : Int32) = nI 2 from rfl, nI_add]
      refine x_code (by omega) (by omega) ⟨fun y => ?_, fun y => ?_⟩
      · refine s_put (by omega) hst hsy ?_
        rw [e5, e9 y]; exact fin
      · refine s_put (by omega) hst hsy ?_
        rw [e5, show (9 : Int32) = nI d by rw [e8 y]; rfl]; exact fin
    rw [nI_1]
    refine x_code (by omega) (by omega) ⟨fun y => tail 0 ?_, fun y => tail 1 ?_⟩
    · rw [e7 y]; rfl
    · rw [e6 y]; rfl
  · refine k0 ?_
    unfold ent; rw [he, if_pos z]
/-- after the first k entries -/
def Lx (tm : TM) (k : Nat) (w m f : Nat → Int32) : Prop := ∀ i, i < 10 → (i < k → (tm i = none → f i = -1) ∧ ∀ a b c, tm i = some (a, b, c) → w i = nI a ∧ m i = nI b ∧ f i = nI c) ∧ (k ≤ i → f i = -1)
theorem Lx_step {cd : Nat → Int32} {rows k : Nat} {w m f : Nat → Int32} (hk : k < 2 * rows) (h : Lx (tmL cd rows) k w m f) : (ent cd k = none → Lx (tmL cd rows) (k + 1) w m f) ∧ ∀ a b d, ent cd k = some (a, b, d) → Lx (tmL cd rows) (k + 1) (upd w k (nI a)) (upd m k (nI b)) (upd f k (nI d)) := by
  have ek : tmL cd rows k = ent cd k := by unfold tmL; rw [if_pos hk]
  constructor
  · intro e i hi
    refine ⟨fun q => ?_, fun q => (h i hi).2 (by omega)⟩
    by_cases g : i = k
    · subst g
      refine ⟨fun _ => (h i hi).2 (by omega), fun a b c hc => ?_⟩
      rw [ek, e] at hc; cases hc
    · exact (h i hi).1 (by omega)
  · intro a b d e i hi
    simp only [upd_eq]
    by_cases g : i = k
    · subst g
      simp only [if_true]
      refine ⟨fun q => ⟨fun hc => ?_, fun a' b' c' hc => ?_⟩, fun q => absurd q (by omega)⟩
      · rw [ek, e] at hc; cases hc
      · rw [ek, e] at hc; cases hc; exact ⟨rfl, rfl, rfl⟩
    · simp only [if_neg g]
      exact ⟨fun q => (h i hi).1 (by omega), fun q => (h i hi).2 (by omega)⟩
theorem x_copy {cd : Nat → Int32} {len : Nat} {c0 : Int32} {w m f : Nat → Int32} {Q : Int32 → (Nat → Int32) → (Nat → Int32) → (Nat → Int32) → Prop} (h : FW cd len none) (k : ∀ w' m' f' : Nat → Int32, RMx ((len + 1) / 7) (tmL cd ((len + 1) / 7)) (nI ((len + 1) / 7)) w' m' f' → Q (nI ((len + 1) / 7)) w' m' f') : pX5_copyFrom c0 w m f cd (nI len) Q := by
  obtain ⟨l34, l7, l1, l5⟩ := fw_len h
  unfold pX5_copyFrom pX7_rowCount
  rw [rows_e (by omega)]
  refine s_reset l5 (fun f' hf => ?_)
  refine Lp.up ((len + 1) / 7) (fun st v => v.1 = nI st ∧ Lx (tmL cd ((len + 1) / 7)) (2 * st) v.2.1 v.2.2.1 v.2.2.2) ?_ (Nat.zero_le _) ⟨rfl, fun i hi => ⟨fun q => absurd q (by omega), fun _ => hf i hi⟩⟩
  rintro st ⟨l2, w1, m1, f1⟩ hst ⟨e, hL⟩
  dsimp only at e hL
  subst e
  refine ⟨fun c => ?_, fun c => ?_⟩
  · have hc := (nI_leI (by omega) (by omega)).mp c
    refine k _ _ _ ⟨rfl, fun i hi => ?_⟩
    by_cases q : i < 2 * st
    · exact (hL i hi).1 q
    · refine ⟨fun _ => (hL i hi).2 (by omega), fun a b d hd => ?_⟩
      unfold tmL at hd
      rw [if_neg (by omega)] at hd; cases hd
  · have hlt : st < (len + 1) / 7 := by
      rcases Nat.lt_or_ge st ((len + 1) / 7) with g | g
      · exact g
      · exact absurd (nI_le g (by omega)) c
    refine Lp.up 2 (fun sy v => v.1 = nI sy ∧ Lx (tmL cd ((len + 1) / 7)) (2 * st + sy) v.2.1 v.2.2.1 v.2.2.2) ?_ (Nat.zero_le _) ⟨rfl, hL⟩
    rintro sy ⟨l3, w2, m2, f2⟩ hsy ⟨e, hL2⟩
    dsimp only at e hL2
    subst e
    refine ⟨fun c2 => ?_, fun c2 => ?_⟩
    · have hc2 := (nI_ltI (a := 1) (by omega) (by omega)).mp c2
      have : sy = 2 := by omega
      subst this
      intro x8 e8
      rw [e8, nI_1]
      exact ⟨hlt, rfl, hL2⟩
    · have hs2 : sy < 2 := by
        have : ¬ 1 < sy := fun q => c2 (nI_lt (a := 1) q (by omega))
        omega
      obtain ⟨g1, g2⟩ := Lx_step (k := 2 * st + sy) (by omega) hL2
      refine x_entry h hlt hs2 (fun he x13 e13 => ?_) (fun a b d he x13 e13 => ?_)
      · rw [e13, nI_1]; exact ⟨hs2, rfl, g1 he⟩
      · rw [e13, nI_1]; exact ⟨hs2, rfl, g2 a b d he⟩
def Lm (tm : TM) (k : Nat) (s w m f : Nat → Int32) : Prop := ∀ i, i < 10 → (i < k → (tm i = none → s i = 0) ∧ ∀ a b c, tm i = some (a, b, c) → s i = 1 ∧ w i = nI a ∧ m i = nI b ∧ f i = nI c) ∧ (k ≤ i → s i = 0)
theorem Lm_step {cd : Nat → Int32} {rows k : Nat} {s w m f : Nat → Int32} (hk : k < 2 * rows) (h : Lm (tmL cd rows) k s w m f) : (ent cd k = none → Lm (tmL cd rows) (k + 1) s w m f) ∧ ∀ a b d, ent cd k = some (a, b, d) → Lm (tmL cd rows) (k + 1) (upd s k 1) (upd w k (nI a)) (upd m k (nI b)) (upd f k (nI d)) := by
  have ek : tmL cd rows k = ent cd k := by unfold tmL; rw [if_pos hk]
  constructor
  · intro e i hi
    refine ⟨fun q => ?_, fun q => (h i hi).2 (by omega)⟩
    by_cases g : i = k
    · subst g
      refine ⟨fun _ => (h i hi).2 (by omega), fun a b c hc => ?_⟩
      rw [ek, e] at hc; cases hc
    · exact (h i hi).1 (by omega)
  · intro a b d e i hi
    simp only [upd_eq]
    by_cases g : i = k
    · subst g
      simp only [if_true]
      refine ⟨fun q => ⟨fun hc => ?_, fun a' b' c' hc => ?_⟩, fun q => absurd q (by omega)⟩
      · rw [ek, e] at hc; cases hc
      · rw [ek, e] at hc; cases hc; exact ⟨trivial, rfl, rfl, rfl⟩
    · simp only [if_neg g]
      exact ⟨fun q => (h i hi).1 (by omega), fun q => (h i hi).2 (by omega)⟩
theorem m_lay {cd : Nat → Int32} {len : Nat} {c0 mt ms mh : Int32} {s w m f tape on : Nat → Int32} {Q : Int32 → (Nat → Int32) → (Nat → Int32) → (Nat → Int32) → (Nat → Int32) → (Nat → Int32) → (Nat → Int32) → Int32 → Int32 → Int32 → Prop} (h : FW cd len none) (k : ∀ s' w' m' f' tape' on' : Nat → Int32, RMm ((len + 1) / 7) (tmL cd ((len + 1) / 7)) (nI ((len + 1) / 7)) s' w' m' f' → (∀ j, j < 10003 → tape' j = 0) → (∀ j, j < 10003 → on' j = if j = 5001 then 1 else 0) → Q (nI ((len + 1) / 7)) s' w' m' f' tape' on' 0 0 0) : pX9_layText (nI ((len + 1) / 7)) c0 s w m f cd tape on mt ms mh Q := by
  obtain ⟨l34, l7, l1, l5⟩ := fw_len h
  refine m_clear (fun s' hs => ?_)
  have e2 : (2 : Int32) * nI ((len + 1) / 7) = nI (2 * ((len + 1) / 7)) := by rw [show (2 : Int32) = nI 2 from rfl, pk_mul]
  refine Lp.up (2 * ((len + 1) / 7)) (fun i v => v.1 = nI i ∧ Lm (tmL cd ((len + 1) / 7)) i v.2.1 v.2.2.1 v.2.2.2.1 v.2.2.2.2) ?_ (Nat.zero_le _) ⟨rfl, fun i hi => ⟨fun q => absurd q (by omega), fun _ => hs i hi⟩⟩
  rintro i ⟨l2, s1, w1, m1, f1⟩ hi ⟨e, hL⟩
  dsimp only at e hL
  subst e
  unfold pX9_layText_B7
  dsimp only
  rw [e2]
  refine ⟨fun c => ?_, fun c => ?_⟩
  · have hc := (nI_leI (by omega) (by omega)).mp c
    refine sm_begin (fun tape' on' ht ho => k _ _ _ _ _ _ ⟨rfl, fun j hj => ?_⟩ ht ho)
    by_cases q : j < i
    · exact (hL j hj).1 q
    · refine ⟨fun _ => (hL j hj).2 (by omega), fun a b d hd => ?_⟩
      unfold tmL at hd
      rw [if_neg (by omega)] at hd; cases hd
  · have hlt : i < 2 * ((len + 1) / 7) := by
      rcases Nat.lt_or_ge i (2 * ((len + 1) / 7)) with g | g
      · exact g
      · exact absurd (nI_le g (by omega)) c
    obtain ⟨g1, g2⟩ := Lm_step hlt hL
    intro x11 e11
    rw [rem2 (by omega), div2 (by omega), eat_e] at e11
    have e12 : x11 = nI (eat i) := e11
    clear e11
    subst e12
    have he : eat i + 2 < len := by unfold eat; omega
    have hin : vp_in (nI (eat i)) 40 := vp_in_nI (by omega) (by omega)
    have cl : ∀ j, j < 40 → (nI j).toNatClampNeg = j := fun j hj => nI_clamp (by omega)
    refine ⟨hin, ?_⟩
    rw [cl _ (by omega)]
    have nx : ∀ s w m f, Lm (tmL cd ((len + 1) / 7)) (i + 1) s w m f → pX9_layText_j99 (nI ((len + 1) / 7)) cd Q (fun b => i < 2 * ((len + 1) / 7) ∧ b.1 = nI (i + 1) ∧ Lm (tmL cd ((len + 1) / 7)) (i + 1) b.2.1 b.2.2.1 b.2.2.2.1 b.2.2.2.2) (nI ((len + 1) / 7)) tape on mt ms mh (nI i) s w m f := by
      intro s w m f hh x14 e14
      rw [e14, nI_1]
      exact ⟨hlt, rfl, hh⟩
    refine ⟨fun z => nx _ _ _ _ (g1 (by unfold ent; rw [if_pos z])), fun z => ⟨hin, ?_⟩⟩
    obtain ⟨a, b, d, h1, h2, h3, h4, h5, h6, h7, h8, h9⟩ := ent_ok h hlt z
    have fin := g2 a b d h1
    have hin2 : vp_in (nI (eat i) + 2) 40 := by
      rw [show (2 : Int32) = nI 2 from rfl, nI_add]; exact vp_in_nI (by omega) (by omega)
    have hin1 : vp_in (nI (eat i) + 1) 40 := by
      rw [nI_1]; exact vp_in_nI (by omega) (by omega)
    have c2' : (nI (eat i) + 2).toNatClampNeg = eat i + 2 := by
      rw [show (2 : Int32) = nI 2 from rfl, nI_add]; exact cl _ (by omega)
    have c1' : (nI (eat i) + 1).toNatClampNeg = eat i + 1 := by
      rw [nI_1]; exact cl _ (by omega)
    have layq : ∀ d32 b32 : Int32, d32 = nI d → b32 = nI b → pX9_layText_j96 (nI ((len + 1) / 7)) cd Q (fun b => i < 2 * ((len + 1) / 7) ∧ b.1 = nI (i + 1) ∧ Lm (tmL cd ((len + 1) / 7)) (i + 1) b.2.1 b.2.2.1 b.2.2.2.1 b.2.2.2.2) (nI ((len + 1) / 7)) tape on mt ms mh (nI i) (nI i) (cd (eat i) - 48) b32 d32 s1 w1 m1 f1 := by
      rintro d32 b32 rfl rfl
      have hi10 : vp_in (nI i) 10 := vp_in_nI (by omega) (by omega)
      refine ⟨hi10, hi10, hi10, hi10, ?_⟩
      rw [nI_clamp (show i < 2 ^ 31 by omega), vnb_1, h5]
      exact nx _ _ _ _ fin
    have tail : ∀ b32 : Int32, b32 = nI b → pX9_layText_j67 (nI ((len + 1) / 7)) cd Q (fun b => i < 2 * ((len + 1) / 7) ∧ b.1 = nI (i + 1) ∧ Lm (tmL cd ((len + 1) / 7)) (i + 1) b.2.1 b.2.2.1 b.2.2.2.1 b.2.2.2.2) (nI ((len + 1) / 7)) tape on mt ms mh (nI i) (nI (eat i)) (nI i) (cd (eat i) - 48) b32 s1 w1 m1 f1 := by
      intro b32 hb
      refine ⟨hin2, ?_⟩
      rw [c2']
      exact ⟨fun y => ⟨hin2, layq _ _ (h9 y) hb⟩, fun y => layq _ _ (by rw [h8 y]; rfl) hb⟩
    refine ⟨hin1, ?_⟩
    rw [c1']
    exact ⟨fun y => tail 0 (by rw [h7 y]; rfl), fun y => tail 1 (by rw [h6 y]; rfl)⟩
theorem O_load : Ob_load Iv := by
  intro c wr mv fo words st hd ti lo hi codes len ss has wri mov nex text typ tape on mt ms mh hI
  obtain ⟨cnt, tm, hW, hX, hM, hC, ⟨n, hn, e1, e2, hc⟩⟩ := id hI
  subst e1 e2
  have sub1 : ∀ j, j ≤ n → ¬ (0 : Int32) ≤ nI j → False := fun j hj q => q (nI_pos' (by omega))
  refine x_fw hn (fun hF => ⟨fun h => absurd rfl h, fun _ => ?_⟩) (fun j hj hF => ⟨fun _ => ?_, fun h => absurd h (nI_m1 (by omega))⟩)
  · show pX8_load_j26 _ _ _ ((nI n + 1) / 7) _ _ _ _ _ _ _ _ _ _ _
    rw [rows_e hn]
    refine ⟨fun h => absurd rfl h, fun _ => ?_⟩
    refine x_copy hF (fun w' m' f' hR => sx_begin (by omega) (fun ww hw => ?_))
    have hF2 := FW_cong hc hF
    refine m_fw hn (fun hG => ?_) (fun j hj hG => ?_)
    · intro x3 e3
      rw [rows_e hn] at e3
      subst e3
      refine ⟨fun h => absurd h (by decide), fun _ => ?_⟩
      refine m_lay hF2 (fun s' w2 m2 f2 tape' on' hR2 ht ho => ⟨fun h => absurd h (by decide), fun _ => ⟨rfl, ?_⟩⟩)
      have ec : tmL codes ((n + 1) / 7) = tmL text ((n + 1) / 7) := by
        obtain ⟨l34, l7, l1, l5⟩ := fw_len hF
        funext k
        unfold tmL
        by_cases q : k < 2 * ((n + 1) / 7)
        · rw [if_pos q, if_pos q]
          have h2 : eat k + 2 < n := by unfold eat; omega
          unfold ent
          rw [hc (eat k) (by omega), hc (eat k + 1) (by omega), hc (eat k + 2) (by omega)]
        · rw [if_neg q, if_neg q]
      exact ⟨(n + 1) / 7, tmL codes ((n + 1) / 7), tmL_WF hF, hR, by rw [ec]; exact hR2, CR_0 (fw_len hF).2.2.1 hw ht ho, 0, by omega, rfl, rfl, fun j hj => absurd hj (Nat.not_lt_zero _)⟩
    · have := FW_one hF2 hG; cases this
  · refine ⟨fun _ => ?_, fun h => absurd h (nI_m1 (by omega))⟩
    have hF2 := FW_cong hc hF
    refine m_fw hn (fun hG => ?_) (fun i hi hG => ?_)
    · have := FW_one hF2 hG; cases this
    · have hij := FW_one hF2 hG
      cases hij
      intro x3 e3
      refine ⟨fun _ => ⟨fun _ => ⟨rfl, ?_⟩, fun h => (sub1 j hj h).elim⟩, fun h => (sub1 j hj h).elim⟩
      exact ⟨cnt, tm, hW, hX, hM, hC, 0, by omega, rfl, rfl, fun j hj => absurd hj (Nat.not_lt_zero _)⟩
