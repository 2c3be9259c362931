/-! own: the text -/
theorem div7 {i : Nat} (h : i < 2147483648) : nI i / 7 = nI (i / 7) := pk_div (d := 7) h (by omega) (by omega)
theorem rem7 {i : Nat} (h : i < 2147483648) : nI i - nI i / 7 * 7 = nI (i % 7) := pk_rem (d := 7) h (by omega) (by omega)
theorem div3 {i : Nat} (h : i < 2147483648) : nI i / 3 = nI (i / 3) := pk_div (d := 3) h (by omega) (by omega)
theorem rem3 {i : Nat} (h : i < 2147483648) : nI i - nI i / 3 * 3 = nI (i % 3) := pk_rem (d := 3) h (by omega) (by omega)
theorem div2 {i : Nat} (h : i < 2147483648) : nI i / 2 = nI (i / 2) := pk_div (d := 2) h (by omega) (by omega)
theorem rem2 {i : Nat} (h : i < 2147483648) : nI i - nI i / 2 * 2 = nI (i % 2) := pk_rem (d := 2) h (by omega) (by omega)
def chr (tm : TM) (r c : Nat) : Int32 := if c = 6 then 95 else match tm (2 * r + c / 3) with
  | none => 45
  | some (a, b, d) => if c % 3 = 0 then nI (48 + a) else if c % 3 = 1 then (if b = 1 then 82 else 76) else if d = 9 then 90 else nI (65 + d)
theorem x_chr {cnt r c : Nat} {tm : TM} {c0 : Int32} {wr mv fo : Nat → Int32} {Q : Int32 → Prop} (hW : WF cnt tm) (hX : RMx cnt tm c0 wr mv fo) (hr : r < cnt) (hc : c < 7) (k : Q (chr tm r c)) : pX5_characterAt (nI r) (nI c) (nI cnt) wr mv fo Q := by
  have hc5 := hW.2.1
  unfold chr at k
  refine ⟨fun h6 => ?_, fun h6 => ?_⟩
  · have g6 : ¬ c = 6 := fun e => h6 (by rw [e]; rfl)
    rw [if_neg g6] at k
    intro x2 e2
    rw [div3 (by omega)] at e2
    subst e2
    obtain ⟨g1, g2⟩ := hX.2 (2 * r + c / 3) (by omega)
    refine s_has hW hX hr (by omega) (fun ht => ⟨fun h => absurd rfl h, fun _ => ?_⟩) (fun x ht => ⟨fun _ => ?_, fun h => absurd h n10⟩)
    · rw [ht] at k; exact k
    · obtain ⟨a, b, d⟩ := x
      rw [ht] at k
      dsimp only at k
      obtain ⟨w1, w2, w3⟩ := g2 a b d ht
      obtain ⟨-, ha, hb, hd⟩ := hW.2.2 _ _ _ _ ht
      intro x6 e6
      rw [rem3 (by omega)] at e6
      subst e6
      refine ⟨fun z => ?_, fun z => ⟨fun z1 => ?_, fun z1 => ?_⟩⟩
      · have g : c % 3 = 0 := (nI_eq (b := 0) (by omega) (by omega)).mp z
        rw [if_pos g] at k
        refine s_wr hc5 hr (by omega) ?_
        rw [w1, show (48 : Int32) = nI 48 from rfl, nI_add]
        exact k
      · have g : c % 3 = 1 := (nI_eq (b := 1) (by omega) (by omega)).mp z1
        rw [if_neg (by omega), if_pos g] at k
        refine s_mv hc5 hr (by omega) ?_
        rw [w2]
        refine ⟨fun y => ?_, fun y => ?_⟩
        · rw [if_neg (fun e => y (by rw [e]; rfl))] at k; exact k
        · rw [if_pos ((nI_eq (b := 1) (by omega) (by omega)).mp y)] at k; exact k
      · have g0 : ¬ c % 3 = 0 := fun e => z (by rw [e]; rfl)
        have g1 : ¬ c % 3 = 1 := fun e => z1 (by rw [e]; rfl)
        rw [if_neg g0, if_neg g1] at k
        refine s_next hc5 hr (by omega) ?_
        rw [w3]
        refine ⟨fun y => ?_, fun y => ?_⟩
        · rw [if_neg (fun e => y (by rw [e]; rfl))] at k
          refine s_next hc5 hr (by omega) ?_
          rw [w3, show (65 : Int32) = nI 65 from rfl, nI_add]
          exact k
        · rw [if_pos ((nI_eq (b := 9) (by omega) (by omega)).mp y)] at k; exact k
  · have g6 : c = 6 := (nI_eq (b := 6) (by omega) (by omega)).mp h6
    rw [if_pos g6] at k; exact k
theorem O_textAt : Ob_textAt Iv := by
  intro c wr mv fo words st hd ti lo hi codes len ss has wri mov nex text typ tape on mt ms mh p1 hI
  obtain ⟨cnt, tm, hW, hX, hM, hC, hT⟩ := id hI
  have hc5 := hW.2.1
  have hc1 := hW.1
  have ec : c = nI cnt := hX.1
  have es : ss = nI cnt := hM.1
  subst ec es
  have e7 : (7 : Int32) * nI cnt - 1 = nI (7 * cnt - 1) := by rw [show (7 : Int32) = nI 7 from rfl, pk_mul, show (1 : Int32) = nI 1 from rfl, pk_sub (by omega)]
  have e8 : (7 : Int32) * nI cnt - 2 = nI (7 * cnt - 2) := by rw [show (7 : Int32) = nI 7 from rfl, pk_mul, show (2 : Int32) = nI 2 from rfl, pk_sub (by omega)]
  refine ⟨fun c1 => ?_, fun c1 => ?_⟩
  · exact in_lo c1 ⟨fun h => absurd rfl h, fun _ => ⟨rfl, hI⟩⟩
  rw [e7]
  refine ⟨fun c2 => ?_, fun c2 => ?_⟩
  · have c3 : ¬ nI (7 * cnt - 2) < p1 := by
      intro q
      obtain ⟨z, a, b, rfl⟩ := iI_of p1
      rw [iI_nat, iI_lt ⟨a, b⟩ ⟨by omega, by omega⟩] at c2
      rw [iI_nat, iI_lt ⟨by omega, by omega⟩ ⟨a, b⟩] at q
      omega
    obtain ⟨i, -, hi', rfl⟩ := rng (lo := 0) (hi := 7 * cnt - 2) (by omega) c1 c3 (by omega)
    rw [rem7 (by omega), div7 (by omega)]
    refine x_chr hW hX (by omega) (by omega) ?_
    show pX9_in _ _ _ _
    rw [e8]
    refine in_ok c1 c3 ⟨fun _ => ?_, fun h => absurd h n10⟩
    intro x4 e4
    rw [rem7 (by omega)] at e4
    subst e4
    unfold chr
    refine ⟨fun h6 => ?_, fun h6 => ?_⟩
    · have g6 : ¬ i % 7 = 6 := fun e => h6 (by rw [e]; rfl)
      rw [if_neg g6]
      intro x6 e6
      rw [div7 (by omega), div3 (by omega), slot_e] at e6
      subst e6
      have hin := vp_in_nI (n := 2 * (i / 7) + i % 7 / 3) (N := 10) (by omega) (by omega)
      refine ⟨hin, ?_⟩
      rw [nI_clamp (show 2 * (i / 7) + i % 7 / 3 < 2 ^ 31 by omega), rem3 (by omega)]
      obtain ⟨g1, g2⟩ := hM.2 (2 * (i / 7) + i % 7 / 3) (by omega)
      cases ht : tm (2 * (i / 7) + i % 7 / 3) with
      | none => rw [g1 ht]; exact ⟨fun h => absurd rfl h, fun _ => ⟨rfl, hI⟩⟩
      | some x =>
        obtain ⟨a, b, d⟩ := x
        obtain ⟨w0, w1, w2, w3⟩ := g2 a b d ht
        obtain ⟨-, ha, hb, hd⟩ := hW.2.2 _ _ _ _ ht
        rw [w0, w1, w2, w3]
        dsimp only
        refine ⟨fun _ => ⟨fun z => ⟨fun z1 => ⟨hin, ?_⟩, fun z1 => ⟨hin, ?_⟩⟩, fun z => ⟨hin, ?_⟩⟩, fun h => absurd h n10⟩
        · have q0 : ¬ i % 7 % 3 = 0 := fun e => z (by rw [e]; rfl)
          have q1 : ¬ i % 7 % 3 = 1 := fun e => z1 (by rw [e]; rfl)
          rw [if_neg q0, if_neg q1]
          refine ⟨fun y => ⟨hin, ?_, hI⟩, fun y => ⟨?_, hI⟩⟩
          · rw [if_neg (fun e => y (by rw [e]; rfl)), show (65 : Int32) = nI 65 from rfl, nI_add]
          · rw [if_pos ((nI_eq (b := 9) (by omega) (by omega)).mp y)]
        · have q1 : i % 7 % 3 = 1 := (nI_eq (b := 1) (by omega) (by omega)).mp z1
          rw [if_neg (by omega), if_pos q1]
          refine ⟨fun y => ⟨?_, hI⟩, fun y => ⟨?_, hI⟩⟩
          · rw [if_neg (fun e => y (by rw [e]; rfl))]
          · rw [if_pos ((nI_eq (b := 1) (by omega) (by omega)).mp y)]
        · have q0 : i % 7 % 3 = 0 := (nI_eq (b := 0) (by omega) (by omega)).mp z
          rw [if_pos q0, show (48 : Int32) = nI 48 from rfl, nI_add]
          exact ⟨rfl, hI⟩
    · have g6 : i % 7 = 6 := (nI_eq (b := 6) (by omega) (by omega)).mp h6
      rw [if_pos g6]
      exact ⟨rfl, hI⟩
  · refine in_hi ?_ ⟨fun h => absurd rfl h, fun _ => ⟨rfl, hI⟩⟩
    rw [e8]
    obtain ⟨z, a, b, rfl⟩ := iI_of p1
    rw [iI_nat, iI_lt ⟨a, b⟩ ⟨by omega, by omega⟩] at c2
    rw [iI_nat, iI_lt ⟨by omega, by omega⟩ ⟨a, b⟩]
    omega
/-- a character that stands where it may -/
def Fit (cd : Nat → Int32) (j : Nat) : Prop := if j % 7 = 6 then cd j = 95 ∧ j < 34 else if j % 7 % 3 = 0 then (cd j = 48 ∨ cd j = 49 ∨ cd j = 45) else if cd (j - j % 7 % 3) = 45 then cd j = 45 else if j % 7 % 3 = 1 then (cd j = 76 ∨ cd j = 82) else (cd j = 90 ∨ (¬ cd j < 65 ∧ ¬ (70 : Int32) ≤ cd j))
def Ltr (x : Int32) : Prop := ¬ x < 65 ∧ ¬ (70 : Int32) ≤ x
theorem x_code {cd : Nat → Int32} {j len : Nat} {Q : Int32 → Prop} (hl : len ≤ 40) (hj : j < len) (k : Q (cd j)) : pX7_codeAt (nI j) cd (nI len) Q := by
  refine ⟨fun h => absurd h (nI_pos (by omega)), fun _ => ⟨fun h => absurd h (nI_ge hj (by omega)), fun _ => ⟨fun h => absurd h (nI_ge (b := 40) (by omega) (by omega)), fun _ => ⟨vp_in_nI (by omega) (by omega), ?_⟩⟩⟩⟩
  rw [nI_clamp (show j < 2 ^ 31 by omega)]; exact k
theorem x_letter {x : Int32} {Q : Int32 → Prop} (k1 : Ltr x → Q 1) (k0 : ¬ Ltr x → Q 0) : pX7_isStateLetter x Q := ⟨fun h => k0 (fun q => q.1 h), fun h => ⟨fun h2 => k0 (fun q => q.2 h2), fun h2 => k1 ⟨h, h2⟩⟩⟩
theorem m_letter {x : Int32} {Q : Int32 → Prop} (k1 : Ltr x → Q 1) (k0 : ¬ Ltr x → Q 0) : pX9_in x 65 69 Q := by
  refine ⟨fun h => k0 (fun q => q.1 h), fun h => ⟨fun h2 => k0 (fun q => q.2 ?_), fun h2 => k1 ⟨h, fun q => h2 ?_⟩⟩⟩
  · obtain ⟨z, a, b, rfl⟩ := iI_of x
    rw [show (69 : Int32) = iI 69 from rfl, iI_lt ⟨by omega, by omega⟩ ⟨a, b⟩] at h2
    rw [show (70 : Int32) = iI 70 from rfl, iI_le ⟨by omega, by omega⟩ ⟨a, b⟩]
    omega
  · obtain ⟨z, a, b, rfl⟩ := iI_of x
    rw [show (70 : Int32) = iI 70 from rfl, iI_le ⟨by omega, by omega⟩ ⟨a, b⟩] at q
    rw [show (69 : Int32) = iI 69 from rfl, iI_lt ⟨by omega, by omega⟩ ⟨a, b⟩]
    omega
theorem x_fits {cd : Nat → Int32} {j len : Nat} {Q : Int32 → Prop} (hl : len ≤ 40) (hj : j < len) (k1 : Fit cd j → Q 1) (k0 : ¬ Fit cd j → Q 0) : pX7_fits (nI j) cd (nI len) Q := by
  unfold Fit at k1 k0
  refine x_code hl hj ?_
  intro x3 e3
  rw [rem7 (by omega)] at e3
  subst e3
  refine ⟨fun h6 => ?_, fun h6 => ?_⟩
  · have g6 : ¬ j % 7 = 6 := fun e => h6 (by rw [e]; rfl)
    rw [if_neg g6] at k1 k0
    intro x5 e5
    rw [rem3 (by omega)] at e5
    subst e5
    refine ⟨fun z => ?_, fun z => ?_⟩
    · have q0 : ¬ j % 7 % 3 = 0 := fun e => z (by rw [e]; rfl)
      rw [if_neg q0] at k1 k0
      rw [pk_sub (show j % 7 % 3 ≤ j by omega)]
      refine x_code hl (by omega) ⟨fun y => ?_, fun y => ?_⟩
      · rw [if_neg y] at k1 k0
        refine ⟨fun z1 => ?_, fun z1 => ?_⟩
        · rw [if_neg (fun e => z1 (by rw [e]; rfl))] at k1 k0
          exact ⟨fun g => k1 (Or.inl g), fun g => x_letter (fun hl => ⟨fun h => absurd h n10, fun _ => k1 (Or.inr hl)⟩) (fun hl => ⟨fun _ => k0 (fun q => q.elim g hl), fun h => absurd rfl h⟩)⟩
        · rw [if_pos ((nI_eq (b := 1) (by omega) (by omega)).mp z1)] at k1 k0
          exact ⟨fun g => k1 (Or.inl g), fun g => ⟨fun g2 => k0 (fun q => q.elim g g2), fun g2 => k1 (Or.inr g2)⟩⟩
      · rw [if_pos y] at k1 k0
        exact ⟨fun g => k0 g, fun g => k1 g⟩
    · rw [if_pos ((nI_eq (b := 0) (by omega) (by omega)).mp z)] at k1 k0
      exact ⟨fun g => k1 (Or.inl g), fun g => ⟨fun g1 => k1 (Or.inr (Or.inl g1)), fun g1 => ⟨fun g2 => k0 (fun q => q.elim g (fun q => q.elim g1 g2)), fun g2 => k1 (Or.inr (Or.inr g2))⟩⟩⟩
  · rw [if_pos ((nI_eq (b := 6) (by omega) (by omega)).mp h6)] at k1 k0
    refine ⟨fun g => k0 (fun q => g q.1), fun g => ⟨fun g2 => k0 (fun q => ?_), fun g2 => k1 ⟨g, ?_⟩⟩⟩
    · have := (nI_leI (a := 34) (by omega) (by omega)).mp g2
      omega
    · have : ¬ 34 ≤ j := fun q => g2 (nI_le (a := 34) q (by omega))
      omega
theorem m_fits {cd : Nat → Int32} {j : Nat} {Q : Int32 → Prop} (hj : j < 40) (k1 : Fit cd j → Q 1) (k0 : ¬ Fit cd j → Q 0) : pX9_fits (nI j) cd Q := by
  unfold Fit at k1 k0
  refine ⟨vp_in_nI (by omega) (by omega), ?_⟩
  rw [nI_clamp (show j < 2 ^ 31 by omega)]
  intro x2 e2
  subst e2
  intro x3 e3
  rw [rem7 (by omega)] at e3
  subst e3
  refine ⟨fun h6 => ?_, fun h6 => ?_⟩
  · have g6 : ¬ j % 7 = 6 := fun e => h6 (by rw [e]; rfl)
    rw [if_neg g6] at k1 k0
    rw [rem3 (show j % 7 < 2147483648 by omega), pk_sub (show j % 7 % 3 ≤ j by omega)]
    refine ⟨vp_in_nI (by omega) (by omega), ?_⟩
    rw [nI_clamp (show j - j % 7 % 3 < 2 ^ 31 by omega)]
    intro x6 e6
    subst e6
    refine ⟨fun z => ?_, fun z => ?_⟩
    · have q0 : ¬ j % 7 % 3 = 0 := fun e => z (by rw [e]; rfl)
      rw [if_neg q0] at k1 k0
      refine ⟨fun y => ?_, fun y => ?_⟩
      · rw [if_neg y] at k1 k0
        refine ⟨fun z1 => ?_, fun z1 => ?_⟩
        · rw [if_neg (fun e => z1 (by rw [e]; rfl))] at k1 k0
          exact m_letter (fun hl => ⟨fun _ => k1 (Or.inr hl), fun h => absurd h n10⟩) (fun hl => ⟨fun h => absurd rfl h, fun _ => ⟨fun g => k0 (fun q => q.elim g hl), fun g => k1 (Or.inl g)⟩⟩)
        · rw [if_pos ((nI_eq (b := 1) (by omega) (by omega)).mp z1)] at k1 k0
          exact ⟨fun g => k1 (Or.inl g), fun g => ⟨fun g2 => k0 (fun q => q.elim g g2), fun g2 => k1 (Or.inr g2)⟩⟩
      · rw [if_pos y] at k1 k0
        exact ⟨fun g => k0 g, fun g => k1 g⟩
    · rw [if_pos ((nI_eq (b := 0) (by omega) (by omega)).mp z)] at k1 k0
      exact ⟨fun g => k1 (Or.inl g), fun g => ⟨fun g1 => k1 (Or.inr (Or.inl g1)), fun g1 => ⟨fun g2 => k0 (fun q => q.elim g (fun q => q.elim g1 g2)), fun g2 => k1 (Or.inr (Or.inr g2))⟩⟩⟩
  · have e6 := (nI_eq (b := 6) (by omega) (by omega)).mp h6
    rw [if_pos e6] at k1 k0
    rw [div7 (by omega)]
    refine ⟨fun g => k0 (fun q => g q.1), fun g => ⟨fun g2 => k0 (fun q => ?_), fun g2 => k1 ⟨g, ?_⟩⟩⟩
    · have := (nI_leI (a := 4) (by omega) (by omega)).mp g2
      omega
    · have : ¬ 4 ≤ j / 7 := fun q => g2 (nI_le (a := 4) q (by omega))
      omega
