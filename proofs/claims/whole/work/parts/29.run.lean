/-! own: tapes, one step -/
theorem b_1 : ∀ i, i < 32 → bt 1 i = decide (i = 0) := by decide +kernel
theorem and1 (x : Int32) : x &&& 1 = nI (if bt x 0 = true then 1 else 0) := by
  apply b_ext
  intro i hi
  rw [b_and, b_1 i hi]
  cases hb : bt x 0 with
  | true =>
    show _ = bt 1 i
    rw [b_1 i hi]
    by_cases e : i = 0
    · subst e; rw [hb]; rfl
    · simp [e]
  | false =>
    show _ = bt 0 i
    rw [b_0]
    by_cases e : i = 0
    · subst e; rw [hb]; rfl
    · simp [e]
theorem sh5 {j : Nat} (h : j < 2147483648) : nI j >>> ((5 : Int32) &&& 31) = nI (j / 32) := pk_shrN h _ 5 (by decide)
theorem m31 {j : Nat} (h : j < 2147483648) : nI j &&& 31 = nI (j % 32) := pk_andN (by omega) 5 (by decide)
theorem ush1 (w : Int32) {i : Nat} (hi : i < 32) : ushr w (nI i) &&& 1 = nI (if bt w i = true then 1 else 0) := by
  rw [and1]
  congr 1
  unfold ushr
  rw [b_ushr i hi w 0]
  rfl
theorem bit1 {i k : Nat} (hi : i < 32) (hk : k < 32) : bt ((1 : Int32) <<< (nI i &&& 31)) k = decide (k = i) := by
  rw [b_shl i hi 1 hk]
  by_cases e : k = i
  · subst e
    simp [b_1 0 (by omega)]
  · by_cases g : i ≤ k
    · rw [b_1 (k - i) (by omega)]
      have : ¬ k - i = 0 := by omega
      simp [e, this]
    · simp [e, g]
theorem x_bit {n j st : Nat} {row : Nat → Int32} {Q : Int32 → Prop} (hn : n < 2147483648) (hj : j < 2147483648) (h : st + j / 32 < n) (hst : st < 1000000) (k : Q (nI (if bt (row (st + j / 32)) (j % 32) = true then 1 else 0))) : pX6_bitOf n (nI st) (nI j) row Q := by
  intro x1 e1
  rw [sh5 hj, nI_add] at e1
  subst e1
  refine ⟨fun q => absurd q (nI_pos (by omega)), fun _ => ⟨fun q => absurd q (nI_ge h (by omega)), fun _ => ⟨vp_in_nI h hn, ?_⟩⟩⟩
  rw [nI_clamp (show st + j / 32 < 2 ^ 31 by omega), m31 hj, ush1 _ (by omega)]
  exact k
theorem cellof {t : Int → Nat} {z : Int} (h : t z < 2) : (if decide (t z = 1) = true then 1 else 0) = t z := by
  rcases (show t z = 0 ∨ t z = 1 by omega) with e | e <;> simp [e]
theorem x_read {R n : Nat} {words : Nat → Int32} {t : Int → Nat} {z : Int} {Q : Int32 → Prop} (hR : 2 * R + 1 ≤ 32 * n) (hn : n < 1000000) (hB : RB R n words t) (ht : ∀ p, t p < 2) (h1 : -(R : Int) ≤ z) (h2 : z ≤ R) (k : Q (nI (t z))) : pX6_read n (iI z) (nI R) words Q := by
  have eR : nI R = iI (R : Int) := iI_nat R
  refine ⟨fun c => ?_, fun _ => ⟨fun _ => ?_, fun c => ?_⟩⟩
  · rw [eR, iI_neg, iI_lt ⟨by omega, by omega⟩ ⟨by omega, by omega⟩] at c; omega
  · have ej : iI z + nI R = nI (z + R).toNat := by
      rw [eR, iI_add, iI_nat]; congr 1; omega
    rw [ej]
    refine x_bit (st := 0) (by omega) (by omega) (by omega) (by omega) ?_
    rw [Nat.zero_add, hB _ (by omega), show (((z + R).toNat : Nat) : Int) - R = z by omega, cellof (ht z)]
    exact k
  · rw [eR, iI_le ⟨by omega, by omega⟩ ⟨by omega, by omega⟩] at c; omega
theorem x_write {R n a : Nat} {words : Nat → Int32} {t : Int → Nat} {z : Int} {Q : (Nat → Int32) → Prop} (hR : 2 * R + 1 ≤ 32 * n) (hn : n < 1000000) (hB : RB R n words t) (ha : a < 2) (h1 : -(R : Int) ≤ z) (h2 : z ≤ R) (k : ∀ w' : Nat → Int32, RB R n w' (fun p => if p = z then a else t p) → Q w') : pX6_write n (iI z) (nI a) (nI R) words Q := by
  have eR : nI R = iI (R : Int) := iI_nat R
  refine ⟨fun c => ?_, fun _ => ⟨fun _ => ?_, fun c => ?_⟩⟩
  · rw [eR, iI_neg, iI_lt ⟨by omega, by omega⟩ ⟨by omega, by omega⟩] at c; omega
  · intro x3 e3
    have ej : iI z + nI R = nI (z + R).toNat := by
      rw [eR, iI_add, iI_nat]; congr 1; omega
    rw [ej] at e3
    generalize hj : (z + R).toNat = j at e3
    have hz : (j : Int) - R = z := by omega
    have hjl : j < 32 * n := by omega
    subst e3
    intro x4 e4
    rw [m31 (by omega)] at e4
    intro x5 e5
    rw [sh5 (by omega)] at e5
    subst e5
    have hin : vp_in (nI (j / 32)) n := vp_in_nI (by omega) (by omega)
    rw [nI_clamp (show j / 32 < 2 ^ 31 by omega)]
    have key : ∀ v : Int32, (∀ i, i < 32 → bt v i = if i = j % 32 then decide (a = 1) else bt (words (j / 32)) i) → RB R n (upd words (j / 32) v) (fun p => if p = z then a else t p) := by
      intro v hv i hi
      show bt (upd words (j / 32) v (i / 32)) (i % 32) = decide ((if (i : Int) - R = z then a else t ((i : Int) - R)) = 1)
      rw [upd_eq]
      by_cases e : i = j
      · subst e
        rw [if_pos rfl, hv _ (by omega), if_pos rfl, if_pos hz]
      · have hne : ¬ (i : Int) - R = z := by omega
        rw [if_neg hne]
        by_cases g : i / 32 = j / 32
        · rw [if_pos g, hv _ (by omega), if_neg (by omega), ← g]
          exact hB i hi
        · rw [if_neg g]
          exact hB i hi
    refine ⟨fun c => absurd c (nI_ge (by omega) (by omega)), fun _ => ⟨fun c => ⟨hin, hin, k _ (key _ (fun i hi => ?_))⟩, fun c => ⟨hin, hin, k _ (key _ (fun i hi => ?_))⟩⟩⟩
    · have ea : a = 0 := by
        have : ¬ a = 1 := fun e => c (by rw [e]; rfl)
        omega
      rw [e4, b_and, b_xor, bit1 (by omega) hi, b_m1 i hi, ea]
      by_cases e : i = j % 32
      · simp [e]
      · simp [e]
    · have ea : a = 1 := (nI_eq (b := 1) (by omega) (by omega)).mp c
      rw [e4, b_or, bit1 (by omega) hi, ea]
      by_cases e : i = j % 32
      · simp [e]
      · simp [e]
  · rw [eR, iI_le ⟨by omega, by omega⟩ ⟨by omega, by omega⟩] at c; omega
/-- one step of a machine: state, head, tape, lowest, highest -/
abbrev Cfg : Type := Nat × Int × (Int → Nat)
def rd (tm : TM) (q : Nat) (h : Int) (t : Int → Nat) : Option (Nat × Nat × Nat) := tm (2 * q + t h)
def mvd (h : Int) (b : Nat) : Int := if b = 1 then h + 1 else h - 1
def wrt (t : Int → Nat) (h : Int) (a : Nat) : Int → Nat := fun p => if p = h then a else t p
def lmin (a b : Int) : Int := if a < b then a else b
def lmax (a b : Int) : Int := if b < a then a else b
theorem rd_some {cnt q a b d : Nat} {tm : TM} {h : Int} {t : Int → Nat} (hW : WF cnt tm) (e : rd tm q h t = some (a, b, d)) : q < cnt ∧ a < 2 ∧ b < 2 ∧ (d < cnt ∨ d = 9) := by
  obtain ⟨h1, h2, h3, h4⟩ := hW.2.2 _ _ _ _ e
  exact ⟨by omega, h2, h3, h4⟩
theorem x_over {cnt q R n : Nat} {tm : TM} {c0 : Int32} {wr mv fo words : Nat → Int32} {t : Int → Nat} {h : Int} {Q : Int32 → Prop} (hW : WF cnt tm) (hX : RMx cnt tm c0 wr mv fo) (hR : 2 * R + 1 ≤ 32 * n) (hn : n < 1000000) (hB : RB R n words t) (ht : ∀ p, t p < 2) (h1 : -(R : Int) ≤ h) (h2 : h ≤ R) (hq : q < cnt ∨ q = 9) (k1 : rd tm q h t = none → Q 1) (k0 : ∀ x, rd tm q h t = some x → Q 0) : pX2_isOver n (nI R) words (nI q) (iI h) (nI cnt) fo Q := by
  have hc5 := hW.2.1
  refine ⟨fun c => k1 ?_, fun c => ?_⟩
  · have e9 : q = 9 := (nI_eq (b := 9) (by omega) (by omega)).mp c
    cases hr : rd tm q h t with
    | none => rfl
    | some x =>
      obtain ⟨a, b, d⟩ := x
      have := (rd_some hW hr).1
      omega
  · have hq' : q < cnt := hq.elim id (fun e => absurd (by rw [e]; rfl) c)
    refine x_read hR hn hB ht h1 h2 (s_has hW hX hq' (ht h) (fun e => ⟨fun g => absurd rfl g, fun _ => k1 e⟩) (fun x e => ⟨fun _ => k0 x e, fun g => absurd g n10⟩))
theorem iI_ite {a b x y : Int} (ha : -2147483648 ≤ a ∧ a < 2147483648) (hb : -2147483648 ≤ b ∧ b < 2147483648) : (if iI a < iI b then iI x else iI y) = iI (if a < b then x else y) := by
  by_cases e : a < b
  · rw [if_pos ((iI_lt ha hb).mpr e), if_pos e]
  · rw [if_neg (fun g => e ((iI_lt ha hb).mp g)), if_neg e]
theorem x_adv {cnt q R n tmv a b d : Nat} {tm : TM} {c0 : Int32} {wr mv fo words : Nat → Int32} {t : Int → Nat} {h lo hi : Int} {Q : (Nat → Int32) → Int32 → Int32 → Int32 → Int32 → Int32 → Prop} (hW : WF cnt tm) (hX : RMx cnt tm c0 wr mv fo) (hR : 2 * R + 1 ≤ 32 * n) (hn : n < 1000000) (hB : RB R n words t) (ht : ∀ p, t p < 2) (h1 : -(R : Int) ≤ h) (h2 : h ≤ R) (hr : rd tm q h t = some (a, b, d))
    (hlo : -1000000 ≤ lo ∧ lo ≤ 1000000) (hhi : -1000000 ≤ hi ∧ hi ≤ 1000000) (hRR : R < 100000) (k : ∀ w' : Nat → Int32, RB R n w' (wrt t h a) → Q w' (nI d) (iI (mvd h b)) (nI (tmv + 1)) (iI (lmin (mvd h b) lo)) (iI (lmax (mvd h b) hi))) : pX2_advance n (nI R) words (nI q) (iI h) (nI tmv) (iI lo) (iI hi) (nI cnt) wr mv fo Q := by
  have hc5 := hW.2.1
  obtain ⟨hq, ha, hb, hd⟩ := rd_some hW hr
  obtain ⟨w1, w2, w3⟩ := (hX.2 (2 * q + t h) (by have := ht h; omega)).2 a b d hr
  refine x_read hR hn hB ht h1 h2 (s_wr hc5 hq (ht h) ?_)
  rw [w1]
  refine x_write hR hn hB ha h1 h2 (fun w' hw' => s_mv hc5 hq (ht h) ?_)
  rw [w2]
  have fin : ∀ s2 : Int32, iI h + s2 = iI (mvd h b) → pX2_advance_j55 n (nI R) (nI cnt) wr mv fo Q (nI (t h)) (iI h) s2 w' (nI q) (iI h) (nI tmv) (iI lo) (iI hi) := by
    intro s2 e2 x9 e9
    rw [e2] at e9
    subst e9
    refine s_next hc5 hq (ht h) ?_
    rw [w3]
    intro x12 e12
    rw [nI_1] at e12
    subst e12
    have hm : -1000000 ≤ mvd h b ∧ mvd h b ≤ 1000000 := by unfold mvd; split <;> omega
    intro x13 e13
    rw [iI_ite ⟨by omega, by omega⟩ ⟨by omega, by omega⟩] at e13
    intro x14 e14
    rw [iI_ite ⟨by omega, by omega⟩ ⟨by omega, by omega⟩] at e14
    rw [e13, e14]
    exact k w' hw'
  refine ⟨fun c => fin (-1) ?_, fun c => fin 1 ?_⟩
  · have : ¬ b = 1 := fun e => c (by rw [e]; rfl)
    rw [iI_m1, iI_add]
    unfold mvd
    rw [if_neg this]
    congr 1
  · have : b = 1 := (nI_eq (b := 1) (by omega) (by omega)).mp c
    rw [iI_1, iI_add]
    unfold mvd
    rw [if_pos this]
/-! the reference's step -/
theorem at_e (h : Int) : iI h + 5000 + 1 = iI (h + 5001) := by
  rw [show (5000 : Int32) = iI 5000 from rfl, iI_1, iI_add, iI_add]
  congr 1
  omega
theorem m_over {cnt q : Nat} {tm : TM} {c0 : Int32} {has wr mv nx tape : Nat → Int32} {t : Int → Nat} {h : Int} {Q : Int32 → Prop} (hW : WF cnt tm) (hM : RMm cnt tm c0 has wr mv nx) (hB : ∀ j : Nat, j < 10003 → tape j = nI (t ((j : Int) - 5001))) (ht : ∀ p, t p < 2) (h1 : -5001 ≤ h) (h2 : h ≤ 5001) (hq : q < cnt ∨ q = 9) (k1 : rd tm q h t = none → Q 1) (k0 : ∀ x, rd tm q h t = some x → Q 0) : pX9_hasHalted has tape (nI q) (iI h) Q := by
  have hc5 := hW.2.1
  refine ⟨fun c => k1 ?_, fun c => ?_⟩
  · have e9 : q = 9 := (nI_eq (b := 9) (by omega) (by omega)).mp c
    cases hr : rd tm q h t with
    | none => rfl
    | some x =>
      obtain ⟨a, b, d⟩ := x
      have := (rd_some hW hr).1
      omega
  · have hq' : q < cnt := hq.elim id (fun e => absurd (by rw [e]; rfl) c)
    rw [at_e]
    refine ⟨iI_in (by omega) (by omega) (by omega), ?_⟩
    have et : tape (iI (h + 5001)).toNatClampNeg = nI (t h) := by
      rw [iI_clamp (by omega) (by omega), hB _ (by omega)]
      congr 2
      omega
    rw [et, slot_e]
    have := ht h
    refine ⟨vp_in_nI (by omega) (by omega), ?_⟩
    rw [nI_clamp (show 2 * q + t h < 2 ^ 31 by omega)]
    obtain ⟨g1, g2⟩ := hM.2 (2 * q + t h) (by omega)
    cases hr : tm (2 * q + t h) with
    | none => rw [g1 hr]; exact ⟨fun g => absurd rfl g, fun _ => k1 hr⟩
    | some x =>
      obtain ⟨a, b, d⟩ := x
      rw [(g2 _ _ _ hr).1]
      exact ⟨fun _ => k0 _ hr, fun g => absurd g n10⟩
theorem m_adv {cnt q tmv a b d : Nat} {tm : TM} {c0 : Int32} {has wr mv nx tape on : Nat → Int32} {t : Int → Nat} {h lo hi : Int} {Q : (Nat → Int32) → (Nat → Int32) → Int32 → Int32 → Int32 → Prop} (hW : WF cnt tm) (hM : RMm cnt tm c0 has wr mv nx) (hB : ∀ j : Nat, j < 10003 → tape j = nI (t ((j : Int) - 5001))) (hO : ∀ j : Nat, j < 10003 → on j = if lo ≤ (j : Int) - 5001 ∧ (j : Int) - 5001 ≤ hi then 1 else 0) (ht : ∀ p, t p < 2) (h1 : -5000 ≤ h) (h2 : h ≤ 5000) (hlh : lo ≤ h ∧ h ≤ hi) (hr : rd tm q h t = some (a, b, d))
    (k : ∀ tape' on' : Nat → Int32, (∀ j : Nat, j < 10003 → tape' j = nI (wrt t h a ((j : Int) - 5001))) → (∀ j : Nat, j < 10003 → on' j = if lmin (mvd h b) lo ≤ (j : Int) - 5001 ∧ (j : Int) - 5001 ≤ lmax (mvd h b) hi then 1 else 0) → Q tape' on' (nI (tmv + 1)) (nI d) (iI (mvd h b))) : pX9_makeStep wr mv nx tape on (nI tmv) (nI q) (iI h) Q := by
  have hc5 := hW.2.1
  obtain ⟨hq, ha, hb, hd⟩ := rd_some hW hr
  have hth := ht h
  obtain ⟨w0, w1, w2, w3⟩ := (hM.2 (2 * q + t h) (by omega)).2 a b d hr
  intro x1 e1
  rw [at_e] at e1
  subst e1
  have hin : vp_in (iI (h + 5001)) 10003 := iI_in (by omega) (by omega) (by omega)
  have ecl : (iI (h + 5001)).toNatClampNeg = (h + 5001).toNat := iI_clamp (by omega) (by omega)
  refine ⟨hin, ?_⟩
  intro x3 e3
  have et : tape (iI (h + 5001)).toNatClampNeg = nI (t h) := by
    rw [ecl, hB _ (by omega)]
    congr 2
    omega
  rw [et, slot_e] at e3
  subst e3
  have hin2 : vp_in (nI (2 * q + t h)) 10 := vp_in_nI (by omega) (by omega)
  refine ⟨hin2, hin, hin2, ?_⟩
  rw [nI_clamp (show 2 * q + t h < 2 ^ 31 by omega), ecl, w1, w2]
  have fin : ∀ s2 : Int32, iI h + s2 = iI (mvd h b) → pX9_makeStep_j57 wr mv nx Q (nI (2 * q + t h)) (iI h) s2 (upd tape (h + 5001).toNat (nI a)) on (nI tmv) (nI q) (iI h) := by
    intro s2 e2 x8 e8
    rw [e2] at e8
    subst e8
    refine ⟨hin2, ?_⟩
    intro x10 e10
    rw [nI_clamp (show 2 * q + t h < 2 ^ 31 by omega), w3] at e10
    intro x11 e11
    rw [nI_1] at e11
    subst e10 e11
    have hm : h - 1 ≤ mvd h b ∧ mvd h b ≤ h + 1 := by unfold mvd; split <;> omega
    rw [at_e]
    refine ⟨iI_in (by omega) (by omega) (by omega), ?_⟩
    rw [iI_clamp (z := mvd h b + 5001) (by omega) (by omega), vnb_1]
    refine k _ _ (fun j hj => ?_) (fun j hj => ?_)
    · rw [upd_eq]
      unfold wrt
      by_cases e : j = (h + 5001).toNat
      · rw [if_pos e, if_pos (by omega)]
      · rw [if_neg e, if_neg (by omega)]; exact hB j hj
    · rw [upd_eq]
      have hs : mvd h b = h + 1 ∨ mvd h b = h - 1 := by unfold mvd; split <;> omega
      unfold lmin lmax
      by_cases e : j = (mvd h b + 5001).toNat
      · rw [if_pos e, if_pos]
        split <;> split <;> omega
      · rw [if_neg e, hO j hj]
        have : (lo ≤ (j : Int) - 5001 ∧ (j : Int) - 5001 ≤ hi) ↔ ((if mvd h b < lo then mvd h b else lo) ≤ (j : Int) - 5001 ∧ (j : Int) - 5001 ≤ (if hi < mvd h b then mvd h b else hi)) := by
          split <;> split <;> omega
        simp only [this]
  refine ⟨fun c => fin (-1) ?_, fun c => fin 1 ?_⟩
  · have : ¬ b = 1 := fun e => c (by rw [e]; rfl)
    rw [iI_m1, iI_add]
    unfold mvd
    rw [if_neg this]
    congr 1
  · have : b = 1 := (nI_eq (b := 1) (by omega) (by omega)).mp c
    rw [iI_1, iI_add]
    unfold mvd
    rw [if_pos this]
