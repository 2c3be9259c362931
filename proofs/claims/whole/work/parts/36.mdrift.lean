/-! own: translated cycles in the reference -/
theorem m_rec {L i : Nat} {tm : TM} {w : Bool} {cells heads sts : Nat → Int32} {Q : Int32 → Prop} {cnt : Nat} (hW : WF cnt tm) (hn : nh tm L) (hL : L ≤ 200) (hH : HM tm L cells heads sts) (hi : i ≤ L) (k1 : Rec tm w i → Q 1) (k0 : ¬ Rec tm w i → Q 0) : pX9_isRecord (nI i) (sI w) heads Q := by
  have hin : vp_in (nI i) 201 := vp_in_nI (by omega) (by omega)
  have ei : heads i = iI (hdq tm i) := (hH i hi).2.1
  have bi := cf_b hW hn hL hi w
  refine Lp.up i (fun e v => (v = (1, nI e) ∧ ∀ j, j < e → sg w (hdq tm j) < sg w (hdq tm i)) ∨ (v = (0, nI e) ∧ ¬ Rec tm w i)) ?_ (Nat.zero_le _) (Or.inl ⟨rfl, fun j hj => absurd hj (Nat.not_lt_zero _)⟩)
  rintro e v he (⟨rfl, hr⟩ | ⟨rfl, hr⟩)
  · refine ⟨fun c => ⟨isB_1, k1 (fun j hj => hr j ?_)⟩, fun c => ⟨fun g => absurd g n10, fun _ => ?_⟩⟩
    · have := (nI_leI (by omega) (by omega)).mp c
      omega
    · have hlt' : e < i := by
        rcases Nat.lt_or_ge e i with q | q
        · exact q
        · exact absurd (nI_le q (by omega)) c
      have be := cf_b hW hn hL (show e ≤ L by omega) w
      have ee : heads e = iI (hdq tm e) := (hH e (by omega)).2.1
      rw [nI_clamp (show e < 2 ^ 31 by omega), nI_clamp (show i < 2 ^ 31 by omega), ei, ee, sI_mul, sI_mul]
      refine ⟨vp_in_nI (by omega) (by omega), hin, fun g => ?_, fun g => ?_⟩
      · rw [iI_le ⟨by omega, by omega⟩ ⟨by omega, by omega⟩] at g
        intro x3 e3
        rw [e3, nI_1]
        refine ⟨hlt', Or.inr ⟨rfl, fun q => ?_⟩⟩
        have := q e hlt'
        omega
      · rw [iI_le ⟨by omega, by omega⟩ ⟨by omega, by omega⟩] at g
        intro x3 e3
        rw [e3, nI_1]
        refine ⟨hlt', Or.inl ⟨rfl, fun j hj => ?_⟩⟩
        by_cases q : j = e
        · subst q; omega
        · exact hr j (by omega)
  · refine ⟨fun c => ⟨isB_0, k0 hr⟩, fun c => ⟨fun _ => ?_, fun g => absurd rfl g⟩⟩
    have hlt' : e < i := by
      rcases Nat.lt_or_ge e i with q | q
      · exact q
      · exact absurd (nI_le q (by omega)) c
    intro x3 e3
    rw [e3, nI_1]
    exact ⟨hlt', Or.inr ⟨rfl, hr⟩⟩
theorem low_up {tm : TM} {w : Bool} {t1 t : Nat} {B : Int} (h : Low tm w t1 t B) (ht : t1 ≤ t + 1) : Low tm w t1 (t + 1) (if sg w (hdq tm (t + 1)) < B then sg w (hdq tm (t + 1)) else B) := by
  obtain ⟨h1, j0, j1, j2, j3⟩ := h
  refine ⟨fun j a b => ?_, ?_⟩
  · by_cases e : j = t + 1
    · subst e; split <;> omega
    · have := h1 j a (by omega)
      split <;> omega
  · by_cases c : sg w (hdq tm (t + 1)) < B
    · rw [if_pos c]; exact ⟨t + 1, ht, Nat.le_refl _, rfl⟩
    · rw [if_neg c]; exact ⟨j0, j1, by omega, j3⟩
theorem sg_eq {w : Bool} {x y : Int} (h : sg w x = sg w y) : x = y := by cases w <;> simp only [sg_t, sg_f] at h <;> omega
theorem m_isDrift {cnt L t1 t2 : Nat} {tm : TM} {w : Bool} {cells heads sts : Nat → Int32} {Q : Int32 → Prop} (hW : WF cnt tm) (hn : nh tm L) (hL : L ≤ 200) (hH : HM tm L cells heads sts) (h12 : t1 < t2) (h2 : t2 ≤ L) (hr2 : Rec tm w t2) (k1 : Dr tm w t1 t2 → Q 1) (k0 : ¬ Dr tm w t1 t2 → Q 0) : pX9_isDrift (nI t1) (nI t2) (sI w) cells heads sts Q := by
  have hin1 : vp_in (nI t1) 201 := vp_in_nI (by omega) (by omega)
  have hin2 : vp_in (nI t2) 201 := vp_in_nI (by omega) (by omega)
  have e1 : heads t1 = iI (hdq tm t1) := (hH t1 (by omega)).2.1
  have e2 : heads t2 = iI (hdq tm t2) := (hH t2 h2).2.1
  have b1 := cf_b hW hn hL (show t1 ≤ L by omega) w
  have b2 := cf_b hW hn hL h2 w
  have q1 := (cf_h hW hn hL (show t1 ≤ L by omega)).2.2.1
  have q2 := (cf_h hW hn hL h2).2.2.1
  have hpos := hr2 t1 h12
  refine ⟨hin1, hin2, ?_⟩
  rw [nI_clamp (show t1 < 2 ^ 31 by omega), nI_clamp (show t2 < 2 ^ 31 by omega), (hH t1 (by omega)).1, (hH t2 h2).1, e1]
  refine ⟨fun c => k0 (fun hd => c (by rw [hd.2.1])), fun c => ?_⟩
  have hq := (nI_eq (by omega) (by omega)).mp c
  refine m_rec hW hn hL hH (by omega) (fun hr1 => ⟨fun _ => ⟨hin1, ?_⟩, fun g => absurd g n10⟩) (fun hr1 => ⟨fun g => absurd rfl g, fun _ => k0 (fun hd => hr1 hd.1)⟩)
  intro x8 e8
  subst e8
  refine Lp.up (t2 + 1) (fun t v => ∃ B : Int, v = (iI B, nI t) ∧ (t = t1 → B = hdq tm t1) ∧ t1 ≤ t ∧ (t1 < t → ∃ s, t = s + 1 ∧ Low tm w t1 s (sg w B))) ?_ (i0 := t1) (by omega) ⟨_, rfl, fun _ => rfl, Nat.le_refl _, fun h => absurd h (Nat.lt_irrefl _)⟩
  rintro t v ht ⟨B, rfl, hB0, ht1, hB⟩
  have hBb : -200 ≤ B ∧ B ≤ 200 ∧ -200 ≤ sg w B ∧ sg w B ≤ 200 := by
    rcases Nat.eq_or_lt_of_le ht1 with q | q
    · rw [hB0 q.symm]; exact b1
    · obtain ⟨s, rfl, -, j0, j1, j2, j3⟩ := hB q
      have := cf_b hW hn hL (show j0 ≤ L by omega) w
      rw [← sg_eq j3]
      exact this
  refine ⟨fun c => ⟨hin2, ?_⟩, fun c => ?_⟩
  · have hc := (nI_ltI (by omega) (by omega)).mp c
    have et : t = t2 + 1 := by omega
    subst et
    obtain ⟨s, hs, hLow⟩ := hB (by omega)
    have : s = t2 := by omega
    subst this
    have hBle : sg w B ≤ sg w (hdq tm t1) := hLow.1 t1 (Nat.le_refl _) (by omega)
    rw [nI_clamp (show s < 2 ^ 31 by omega), e2]
    intro x11 e11
    rw [iI_sub] at e11
    subst e11
    have ep : iI (hdq tm t1) + sI w = iI (hdq tm t1 + sg w 1) := by
      cases w
      · show iI (hdq tm t1) + (-1) = iI (hdq tm t1 + (-1))
        rw [iI_m1, iI_add]
      · show iI (hdq tm t1) + 1 = iI (hdq tm t1 + 1)
        rw [iI_1, iI_add]
    refine Lp.up (sg w (hdq tm t1) - sg w B + 1).toNat (fun i v => v = iI (sg w (sg w B + i)) ∧ ∀ c : Int, sg w B ≤ c → c < sg w B + i → tpq tm t1 (sg w c) = tpq tm s (sg w c + (hdq tm s - hdq tm t1))) ?_ (Nat.zero_le _) ⟨by rw [show sg w B + ((0 : Nat) : Int) = sg w B by omega, sg_sg], fun c c1 c2 => absurd c1 (by omega)⟩
    rintro i v hi ⟨rfl, hc2⟩
    unfold pX9_isDrift_B98
    dsimp only
    rw [ep]
    have b3 := sg_b w (c := sg w B + i) ⟨by omega, by omega⟩
    have bw : -1 ≤ sg w 1 ∧ sg w 1 ≤ 1 := by cases w <;> simp only [sg_t, sg_f] <;> omega
    rw [iI_eq ⟨by omega, by omega⟩ ⟨by omega, by omega⟩]
    have hend : sg w (sg w B + i) = hdq tm t1 + sg w 1 ↔ (i : Int) = sg w (hdq tm t1) - sg w B + 1 := by
      cases w <;> simp only [sg_t, sg_f] <;> omega
    refine ⟨fun g => k1 ((Dr_low hLow).mpr ⟨hr1, hq, fun c c1 c2 => hc2 c c1 ?_⟩), fun g => ?_⟩
    · have := hend.mp g
      omega
    · have hlt' : (i : Int) < sg w (hdq tm t1) - sg w B + 1 := by
        have : ¬ (i : Int) = sg w (hdq tm t1) - sg w B + 1 := fun q => g (hend.mpr q)
        omega
      have z1 : -201 ≤ sg w (sg w B + i) ∧ sg w (sg w B + i) ≤ 201 := by
        cases w <;> simp only [sg_t, sg_f] at * <;> omega
      have z2 : -201 ≤ sg w (sg w B + i) + (hdq tm s - hdq tm t1) ∧ sg w (sg w B + i) + (hdq tm s - hdq tm t1) ≤ 201 := by
        cases w <;> simp only [sg_t, sg_f] at * <;> omega
      refine m_sym (t := tpq tm t1) (by omega) z1.1 z1.2 (hH t1 (by omega)).2.2 ?_
      rw [iI_add]
      refine m_sym (t := tpq tm s) (by omega) z2.1 z2.2 (hH s h2).2.2 ?_
      have l1 : tpq tm t1 (sg w (sg w B + i)) < 2 := (cf_h hW hn hL (show t1 ≤ L by omega)).2.2.2.1 _
      have l2 : tpq tm s (sg w (sg w B + i) + (hdq tm s - hdq tm t1)) < 2 := (cf_h hW hn hL h2).2.2.2.1 _
      refine ⟨fun ge => ?_, fun ge => k0 (fun hd => ge ?_)⟩
      · have ge' := (nI_eq (by omega) (by omega)).mp ge
        intro x18 e18
        have e19 : iI (sg w (sg w B + i)) + sI w = iI (sg w (sg w B + ((i + 1 : Nat) : Int))) := by
          cases w
          · show iI (-(-B + i)) + (-1) = iI (-(-B + ((i + 1 : Nat) : Int)))
            rw [iI_m1, iI_add]; congr 1; omega
          · show iI (B + i) + 1 = iI (B + ((i + 1 : Nat) : Int))
            rw [iI_1, iI_add]; congr 1; omega
        rw [e19] at e18
        refine ⟨by omega, e18, fun c c1 c2 => ?_⟩
        by_cases q : c = sg w B + i
        · rw [q]; exact ge'
        · exact hc2 c c1 (by omega)
      · rw [((Dr_low hLow).mp hd).2.2 (sg w B + i) (by omega) (by omega)]
  · have hlt' : t ≤ t2 := by
      rcases Nat.lt_or_ge t2 t with q | q
      · exact absurd (nI_lt q (by omega)) c
      · exact q
    have et : heads t = iI (hdq tm t) := (hH t (by omega)).2.1
    have bt' := cf_b hW hn hL (show t ≤ L by omega) w
    rw [nI_clamp (show t < 2 ^ 31 by omega), et, sI_mul, sI_mul]
    have hint : vp_in (nI t) 201 := vp_in_nI (by omega) (by omega)
    have hlowB : Low tm w t1 t (if sg w (hdq tm t) < sg w B then sg w (hdq tm t) else sg w B) := by
      rcases Nat.eq_or_lt_of_le ht1 with q | q
      · subst q
        rw [hB0 rfl, if_neg (by omega)]
        exact low_one
      · obtain ⟨s, rfl, hl⟩ := hB q
        exact low_up hl (by omega)
    have nx : ∀ B' : Int, sg w B' = (if sg w (hdq tm t) < sg w B then sg w (hdq tm t) else sg w B) → pX9_isDrift_j75 (nI t1) (nI t2) (sI w) cells heads sts Q (fun b => t < t2 + 1 ∧ ∃ B : Int, b = (iI B, nI (t + 1)) ∧ (t + 1 = t1 → B = hdq tm t1) ∧ t1 ≤ t + 1 ∧ (t1 < t + 1 → ∃ s, t + 1 = s + 1 ∧ Low tm w t1 s (sg w B))) (iI (hdq tm t1)) (nI t) (iI B') := by
      intro B' hB' x21 e21
      rw [e21, nI_1]
      exact ⟨by omega, B', rfl, fun q => absurd q (by omega), by omega, fun _ => ⟨t, rfl, by rw [hB']; exact hlowB⟩⟩
    refine ⟨hint, fun g => nx B ?_, fun g => ⟨hint, nx (hdq tm t) ?_⟩⟩
    · rw [iI_le ⟨by omega, by omega⟩ ⟨by omega, by omega⟩] at g
      rw [if_neg (by omega)]
    · rw [iI_le ⟨by omega, by omega⟩ ⟨by omega, by omega⟩] at g
      rw [if_pos (by omega)]
theorem m_look {cnt L t2 : Nat} {tm : TM} {w : Bool} {cells heads sts : Nat → Int32} {Q : Int32 → Int32 → Prop} (hW : WF cnt tm) (hn : nh tm L) (hL : L ≤ 200) (hH : HM tm L cells heads sts) (h2 : t2 ≤ L) (k1 : ∀ t1, t1 < t2 → Df tm w t1 t2 → (∀ j, t1 < j → j < t2 → ¬ Df tm w j t2) → Q (nI (t2 - t1)) (iI (hdq tm t2 - hdq tm t1))) (k0 : (∀ j, j < t2 → ¬ Df tm w j t2) → Q (-1005) (-1005)) : pX9_look (nI t2) (sI w) cells heads sts (-1005) (-1005) Q := by
  refine m_rec hW hn hL hH h2 (fun hr2 => ⟨fun _ => ?_, fun g => absurd g n10⟩) (fun hr2 => ⟨fun g => absurd rfl g, fun _ => k0 (fun j _ hd => hr2 hd.1)⟩)
  intro x4 e4
  rw [iI_nat, iI_1, iI_sub] at e4
  subst e4
  refine Lp.up (t2 + 1) (fun i v => (v = (iI ((t2 : Int) - 1 - i), -1005, -1005) ∧ i ≤ t2 ∧ ∀ j, t2 ≤ j + i → j < t2 → ¬ Df tm w j t2) ∨ (∃ t1, t1 < t2 ∧ i = t2 - t1 ∧ Df tm w t1 t2 ∧ (∀ j, t1 < j → j < t2 → ¬ Df tm w j t2) ∧ v = (iI ((t2 : Int) - 1 - i), nI (t2 - t1), iI (hdq tm t2 - hdq tm t1)))) ?_ (Nat.zero_le _) (Or.inl ⟨by rw [show (t2 : Int) - 1 - ((0 : Nat) : Int) = (t2 : Int) - 1 by omega], Nat.zero_le _, fun j a b => absurd a (by omega)⟩)
  rintro i v hi (⟨rfl, hi2, hj⟩ | ⟨t1, a1, rfl, a2, a3, rfl⟩)
  · refine ⟨fun c => k0 (fun j hj2 => hj j ?_ hj2), fun c => ⟨fun g => absurd g (by decide), fun _ => ?_⟩⟩
    · rw [iI_0, iI_lt ⟨by omega, by omega⟩ ⟨by omega, by omega⟩] at c
      omega
    · rw [iI_0, iI_lt ⟨by omega, by omega⟩ ⟨by omega, by omega⟩] at c
      obtain ⟨t1, ht1⟩ : ∃ t1, t1 = t2 - 1 - i := ⟨_, rfl⟩
      have ev : iI ((t2 : Int) - 1 - i) = nI t1 := by rw [iI_nat, ht1]; congr 1; omega
      have hl1 : t1 < t2 := by omega
      rw [ev]
      refine m_isDrift hW hn hL hH hl1 h2 hr2 (fun hd => ⟨fun g => absurd g n10, fun _ => ?_⟩) (fun hd => ⟨fun _ => ?_, fun g => absurd rfl g⟩)
      · intro x11 e11
        rw [pk_sub (by omega)] at e11
        subst e11
        refine ⟨vp_in_nI (by omega) (by omega), vp_in_nI (by omega) (by omega), ?_⟩
        rw [nI_clamp (show t1 < 2 ^ 31 by omega), nI_clamp (show t2 < 2 ^ 31 by omega), (hH t1 (by omega)).2.1, (hH t2 h2).2.1]
        intro x14 e14
        rw [iI_sub] at e14
        subst e14
        intro x10 e10
        rw [← ev, iI_m1, iI_add] at e10
        refine ⟨by omega, Or.inr ⟨t1, hl1, by omega, ⟨hr2, hd⟩, fun j a b => hj j (by omega) b, ?_⟩⟩
        rw [e10]
        congr 2
        omega
      · intro x10 e10
        rw [← ev, iI_m1, iI_add] at e10
        refine ⟨by omega, Or.inl ⟨by rw [e10]; congr 2; omega, by omega, fun j a b => ?_⟩⟩
        by_cases q : j = t1
        · subst q; exact fun h => hd h.2
        · exact hj j (by omega) b
  · have fin := k1 t1 a1 a2 a3
    exact ⟨fun _ => fin, fun _ => ⟨fun _ => fin, fun c => absurd (nI_pos' (by omega)) c⟩⟩
theorem m_look_done {t2 d : Nat} {cells heads sts : Nat → Int32} {w : Bool} {cnt L : Nat} {tm : TM} {by' : Int32} {Q : Int32 → Int32 → Prop} (hW : WF cnt tm) (hn : nh tm L) (hL : L ≤ 200) (hH : HM tm L cells heads sts) (h2 : t2 ≤ L) (hd : d < 1000000) (k : Q (nI d) by') : pX9_look (nI t2) (sI w) cells heads sts (nI d) by' Q := by
  refine m_rec hW hn hL hH h2 (fun hr2 => ⟨fun _ => ?_, fun g => absurd g n10⟩) (fun hr2 => ⟨fun g => absurd rfl g, fun _ => k⟩)
  intro x4 e4
  refine Lp.up 1 (fun i v => v = (x4, nI d, by')) ?_ (Nat.zero_le _) rfl
  rintro i v hi rfl
  exact ⟨fun _ => k, fun _ => ⟨fun _ => k, fun c => absurd (nI_pos' (by omega)) c⟩⟩
theorem m_findDrift {cnt L T : Nat} {tm : TM} {cells heads sts : Nat → Int32} {e0 l0 : Int32} {Q : Int32 → Int32 → Prop} (hW : WF cnt tm) (hn : nh tm L) (hL : L ≤ 200) (hT : T ≤ L + 1) (hH : HM tm L cells heads sts) (k0 : (∀ w a b, a < b → b < T → ¬ Df tm w a b) → Q (-1005) (-1005)) (k1 : ∀ w t1 t2, t2 < T → DfX tm w t1 t2 → Q (nI (t2 - t1)) (iI (hdq tm t2 - hdq tm t1))) : pX9_findDrift cells heads sts (nI T) e0 l0 Q := by
  by_cases hT0 : T = 0
  · subst hT0
    refine Lp.up 1 (fun i v => v = (1, -1005, -1005)) ?_ (Nat.zero_le _) rfl
    rintro i v hi rfl
    exact ⟨fun _ => k0 (fun w a b _ h => absurd h (Nat.not_lt_zero _)), fun c => absurd (by decide) c⟩
  refine Lp.up (T + 1) (fun i v => (v = (nI i, -1005, -1005) ∧ 1 ≤ i ∧ i ≤ T ∧ ∀ w a b, a < b → b < i → ¬ Df tm w a b) ∨ (∃ w t1 t2, t2 < T ∧ DfX tm w t1 t2 ∧ i = t2 + 1 ∧ v = (nI i, nI (t2 - t1), iI (hdq tm t2 - hdq tm t1)))) ?_ (i0 := 1) (by omega) (Or.inl ⟨rfl, by omega, by omega, fun w a b h1 h2 => absurd h1 (by omega)⟩)
  rintro i v hi (⟨rfl, hi1, hiT, hno⟩ | ⟨w, t1, t2, b1, b2, rfl, rfl⟩)
  · refine ⟨fun c => k0 (fun w a b h1 h2 => hno w a b h1 ?_), fun c => ⟨fun g => absurd g (by decide), fun _ => ?_⟩⟩
    · have := (nI_leI (by omega) (by omega)).mp c
      omega
    · have hlt' : i < T := by
        rcases Nat.lt_or_ge i T with q | q
        · exact q
        · exact absurd (nI_le q (by omega)) c
      refine m_look (w := true) hW hn hL hH (by omega) (fun t1 a1 a2 a3 => ?_) (fun hr0 => ?_)
      · refine m_look_done (w := false) hW hn hL hH (by omega) (by omega) (fun x9 e9 => ?_)
        rw [e9, nI_1]
        exact ⟨by omega, Or.inr ⟨true, t1, i, hlt', ⟨a1, a2, a3, hno⟩, rfl, rfl⟩⟩
      · refine m_look (w := false) hW hn hL hH (by omega) (fun t1 a1 a2 a3 => ?_) (fun hl0 => ?_)
        · intro x9 e9
          rw [e9, nI_1]
          exact ⟨by omega, Or.inr ⟨false, t1, i, hlt', ⟨a1, a2, a3, hno⟩, rfl, rfl⟩⟩
        · intro x9 e9
          rw [e9, nI_1]
          refine ⟨by omega, Or.inl ⟨rfl, by omega, by omega, fun w a b h1 h2 => ?_⟩⟩
          by_cases q : b = i
          · subst q
            cases w
            · exact hl0 a h1
            · exact hr0 a h1
          · exact hno w a b h1 (by omega)
  · have fin := k1 w t1 t2 b1 b2
    exact ⟨fun _ => fin, fun _ => ⟨fun _ => fin, fun c => absurd (nI_pos' (by omega)) c⟩⟩
theorem df_hlt {tm : TM} {w : Bool} {a L : Nat} (hn : nh tm L) (ha : a < L) (hh : hlt tm (cf tm L)) : ¬ Df tm w a L := by
  rintro ⟨-, -, e1, e2⟩
  have e3 := e2 (sg w (hdq tm a)) ⟨a, Nat.le_refl _, by omega, Int.le_refl _⟩ (Int.le_refl _)
  rw [sg_sg, show hdq tm a + (hdq tm L - hdq tm a) = hdq tm L by omega] at e3
  refine hn a ha ?_
  unfold hlt rd at hh ⊢
  have e4 : (cf tm a).2.2.1 (cf tm a).2.1 = (cf tm L).2.2.1 (cf tm L).2.1 := e3
  rw [e1, e4]
  exact hh
theorem m_drift {cnt lim L : Nat} {tm : TM} {cells heads sts : Nat → Int32} {ti ha e0 l0 : Int32} {Q : Int32 → Int32 → Prop} (hW : WF cnt tm) (hl : lim ≤ 200) (hH : HM tm L cells heads sts) (hS : Sim tm lim L ti ha) (k0 : (∀ w a b, a < b → b ≤ L → ¬ Df tm w a b) → Q (-1005) (-1005)) (k1 : ∀ w t1 t2, t2 ≤ L → DfX tm w t1 t2 → Q (nI (t2 - t1)) (iI (hdq tm t2 - hdq tm t1))) : pX9_findDrift cells heads sts ti e0 l0 Q := by
  obtain ⟨⟨r1, r2, r3⟩, hc⟩ := hS
  rcases hc with ⟨u1, u2, rfl⟩ | ⟨u1, u2, rfl⟩
  · refine m_findDrift hW r2 (by omega) (by omega) hH (fun h => k0 (fun w a b h1 h2 => ?_)) (fun w t1 t2 h1 h2 => k1 w t1 t2 (by omega) h2)
    by_cases q : b = L
    · subst q; exact df_hlt r2 h1 u1
    · exact h w a b h1 (by omega)
  · exact m_findDrift hW r2 (by omega) (by omega) hH (fun h => k0 (fun w a b h1 h2 => h w a b h1 (by omega))) (fun w t1 t2 h1 h2 => k1 w t1 t2 (by omega) h2)
theorem O_driftPeriod : Ob_driftPeriod Iv := by
  intro c wr mv fo words st hd ti lo hi codes len ss has wri mov nex text typ tape on mt ms mh hw' hst hhd hti hlo hhi hsr hhr hrr hlr htr hla hen hea hlat mc mhe mst mtm mha mdl mdb p1 hI
  obtain ⟨cnt, tm, hW, hX, hM, hC, hT⟩ := id hI
  have ec : c = nI cnt := hX.1
  have es : ss = nI cnt := hM.1
  subst ec es
  rcases lim_cases p1 with h | ⟨l, l1, l2, rfl⟩
  · exact lim_out h ⟨fun g => absurd rfl g, fun _ => mlim_out h ⟨fun g => absurd rfl g, fun _ => ⟨rfl, hI⟩⟩⟩
  · refine lim_in l1 l2 ⟨fun _ => ?_, fun g => absurd g n10⟩
    refine x_record hW hX l2 (fun L w1 a1 a2 a3 a4 a5 sr1 hr1 rr1 lr1 tr1 en1 hR hH he1 he0 => ?_)
    have hR' := hR
    obtain ⟨hR1, hR2, hR3⟩ := hR'
    refine x_findDrift hW hR2 (by omega) hH (fun hno => ⟨fun _ => ?_, fun g => absurd rfl g⟩) (fun w t1 t2 ht2 hx => ⟨fun g => absurd g n10, fun _ => ?_⟩)
    · refine mlim_in l1 l2 ⟨fun _ => ?_, fun g => absurd g n10⟩
      refine m_sim hW hM l2 (fun L2 c2 h2 s2 ti2 ha2 hH2 hS => ?_)
      have := Ran_one hR hS.1
      subst this
      exact m_drift hW l2 hH2 hS (fun _ => ⟨rfl, hI⟩) (fun w t1 t2 h1 hx => absurd hx.2.1 (hno _ _ _ hx.1 h1))
    · refine mlim_in l1 l2 ⟨fun _ => ?_, fun g => absurd g n10⟩
      refine m_sim hW hM l2 (fun L2 c2 h2 s2 ti2 ha2 hH2 hS => ?_)
      have := Ran_one hR hS.1
      subst this
      refine m_drift hW l2 hH2 hS (fun hno => absurd hx.2.1 (hno _ _ _ hx.1 ht2)) (fun w' s1 s2 h1 hm => ⟨?_, hI⟩)
      obtain ⟨-, rfl, rfl⟩ := DfX_one hx hm
      exact pk_sub (by have := hx.1; omega)
theorem O_driftOffset : Ob_driftOffset Iv := by
  intro c wr mv fo words st hd ti lo hi codes len ss has wri mov nex text typ tape on mt ms mh hw' hst hhd hti hlo hhi hsr hhr hrr hlr htr hla hen hea hlat mc mhe mst mtm mha mdl mdb p1 hI
  obtain ⟨cnt, tm, hW, hX, hM, hC, hT⟩ := id hI
  have ec : c = nI cnt := hX.1
  have es : ss = nI cnt := hM.1
  subst ec es
  rcases lim_cases p1 with h | ⟨l, l1, l2, rfl⟩
  · exact lim_out h ⟨fun g => absurd rfl g, fun _ => mlim_out h ⟨fun g => absurd rfl g, fun _ => ⟨rfl, hI⟩⟩⟩
  · refine lim_in l1 l2 ⟨fun _ => ?_, fun g => absurd g n10⟩
    refine x_record hW hX l2 (fun L w1 a1 a2 a3 a4 a5 sr1 hr1 rr1 lr1 tr1 en1 hR hH he1 he0 => ?_)
    have hR' := hR
    obtain ⟨hR1, hR2, hR3⟩ := hR'
    refine x_findDrift hW hR2 (by omega) hH (fun hno => ⟨fun _ => ?_, fun g => absurd rfl g⟩) (fun w t1 t2 ht2 hx => ⟨fun g => absurd g n10, fun _ => ?_⟩)
    · refine mlim_in l1 l2 ⟨fun _ => ?_, fun g => absurd g n10⟩
      refine m_sim hW hM l2 (fun L2 c2 h2 s2 ti2 ha2 hH2 hS => ?_)
      have := Ran_one hR hS.1
      subst this
      exact m_drift hW l2 hH2 hS (fun _ => ⟨rfl, hI⟩) (fun w t1 t2 h1 hx => absurd hx.2.1 (hno _ _ _ hx.1 h1))
    · have ht1 : t1 < t2 := hx.1
      refine x_headAt (by omega) (x_headAt (by omega) ?_)
      rw [(hH t2 ht2).2.1, (hH t1 (by omega)).2.1, iI_sub]
      refine mlim_in l1 l2 ⟨fun _ => ?_, fun g => absurd g n10⟩
      refine m_sim hW hM l2 (fun L2 c2 h2 s2 ti2 ha2 hH2 hS => ?_)
      have := Ran_one hR hS.1
      subst this
      refine m_drift hW l2 hH2 hS (fun hno => absurd hx.2.1 (hno _ _ _ hx.1 ht2)) (fun w' s1 s2 h1 hm => ⟨?_, hI⟩)
      obtain ⟨-, rfl, rfl⟩ := DfX_one hx hm
      rfl
