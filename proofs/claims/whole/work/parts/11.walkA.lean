theorem sw_df {x : Int32} (h0 : ¬ x = 0) (h1 : ¬ x = 1) : Op.lookupswitch.offset (#[((0 : Int), (28 : Int)), (1, 38)] : Array (Int × Int)).toList 56 x.toInt = 56 := by
  have e0 : ¬ x.toInt = 0 := fun h => h0 (Int32.toInt_inj.mp (h.trans (by decide)))
  have e1 : ¬ x.toInt = 1 := fun h => h1 (Int32.toInt_inj.mp (h.trans (by decide)))
  simp [Op.lookupswitch.offset, e0, e1, Ne.symm e0, Ne.symm e1, eq_comm]

def pJ7_fill_53178_B5 (n_a0 : Nat) (p1 : Int32) (Q : (Nat → Int32) → Prop) (l3 : Int32) (X5 : (Int32 × (Nat → Int32)) → Prop) : (Int32 × (Nat → Int32)) → Prop := fun v => match v with
  | (l2, w_a0) => ((l3 ≤ l2 → Q w_a0) ∧ (¬ l3 ≤ l2 → (vp_in l2 n_a0 ∧ (∀ x4 : Int32, x4 = l2 + 1 → X5 (x4, upd w_a0 l2.toNatClampNeg p1)))))
def pJ7_fill_53178 (n_a0 : Nat) (p1 : Int32) (v_a0 : Nat → Int32) (Q : (Nat → Int32) → Prop) : Prop :=
  (∀ x1 : Int32, x1 = nI n_a0 → Lp (pJ7_fill_53178_B5 n_a0 p1 Q x1) (0, v_a0))
abbrev rmJ7_fill_53178 : Room := { frames := 0, cells := 0, slots := 0, locals := 0 }
set_option maxHeartbeats 4000000 in
set_option maxRecDepth 100000 in
theorem mJ7_fill_53178 (l : Launch) (D : va_G) (cy : Cy) (h_a0 : Nat) (n_a0 : Nat) (v_a0 : Nat → Int32) (p1 : Int32) (Q : (Nat → Int32) → Prop) (h : pJ7_fill_53178 n_a0 p1 v_a0 Q) : Cv l yJ7_fill_53178 wsJ7_fill_53178 rmJ7_fill_53178 0 0 D cy [(h_a0, .inl (cy.1, n_a0, .inl v_a0))] [.ref h_a0, .int p1] (fun (u : (Nat → Int32)) => Q u) (fun (u : (Nat → Int32)) => [(h_a0, .inl (cy.1, n_a0, .inl u))]) := by
  refine of_v (cc := cJ7_fill_53178) (maxL := 4) (by decide) rfl (Nat.le_of_ble_eq_true rfl) ?_
  intro p e s m args below meth c A ls QQ T0 RT hP hD hS hl
  obtain ⟨hx, hb, hr, hts, hown, hlocks, hml, hin, hK, hN, hA⟩ := T0
  have hown : s.vm.findClass RJ7 = some m.cls := hown
  have hl : lv_has ls 4 [(0, .ref h_a0), (1, .int p1)] := hl
  have L5 : ∀ (l3 : Int32) (v : Int32 × (Nat → Int32)), Lp (pJ7_fill_53178_B5 n_a0 p1 Q l3) v → ∀ (H : Heap) (locs : List Loc) (ls : Array Slot), va_P D vwCl [(h_a0, .inl (cy.1, n_a0, .inl v.2))] H → va_D A [(h_a0, .inl (cy.1, n_a0, .inl v.2))] → va_S A s.heap H locs → lv_has ls 4 [(0, .ref h_a0), (1, .int p1), (2, .int v.1), (3, .int l3)] → W p l e rmJ7_fill_53178 s m args below meth c H locs 0 0 QQ (F0 m 5 ls []) := by
    intro l3
    intro v h
    refine h (fun v => ∀ (H : Heap) (locs : List Loc) (ls : Array Slot), va_P D vwCl [(h_a0, .inl (cy.1, n_a0, .inl v.2))] H → va_D A [(h_a0, .inl (cy.1, n_a0, .inl v.2))] → va_S A s.heap H locs → lv_has ls 4 [(0, .ref h_a0), (1, .int p1), (2, .int v.1), (3, .int l3)] → W p l e rmJ7_fill_53178 s m args below meth c H locs 0 0 QQ (F0 m 5 ls [])) ?_
    clear h v
    intro v X5 hY5 h H locs ls hP hD hS hl
    obtain ⟨l2, w_a0⟩ := v
    have hP : va_P D vwCl [(h_a0, .inl (cy.1, n_a0, .inl w_a0))] H := hP
    have hD : va_D A [(h_a0, .inl (cy.1, n_a0, .inl w_a0))] := hD
    have hl : lv_has ls 4 [(0, .ref h_a0), (1, .int p1), (2, .int l2), (3, .int l3)] := hl
    refine lv_iload_n hx hb dJ7_fill_53178_5 rfl (lv_at hl 2 rfl) ?_
    refine lv_iload_n hx hb dJ7_fill_53178_6 rfl (lv_at hl 3 rfl) ?_
    refine lv_icmp_ge (tgt := 20) hx hb dJ7_fill_53178_7 (by decide) (fun c2 => ?_) (fun c2 => ?_)
    · replace h := h.1 c2
      exact RT 20 H locs ls w_a0 dJ7_fill_53178_20 h (hP.sub [0] rfl) (hD.sub [0] (by decide) rfl) hS
    · replace h := h.2 c2
      refine lv_aload_n hx hb dJ7_fill_53178_10 rfl (lv_at hl 0 rfl) ?_
      refine lv_iload_n hx hb dJ7_fill_53178_11 rfl (lv_at hl 2 rfl) ?_
      refine lv_iload_n hx hb dJ7_fill_53178_12 rfl (lv_at hl 1 rfl) ?_
      have b3 := h.1
      replace h := h.2
      refine va_iast hx hb hK hP hD hS 0 0 rfl rfl b3 dJ7_fill_53178_13 (fun H locs hP hD hS => ?_)
      have hP : va_P D vwCl [(h_a0, .inl (cy.1, n_a0, .inl (upd w_a0 l2.toNatClampNeg p1)))] H := hP
      have hD : va_D A [(h_a0, .inl (cy.1, n_a0, .inl (upd w_a0 l2.toNatClampNeg p1)))] := hD
      obtain ⟨x4, ex4⟩ : ∃ y : Int32, y = l2 + 1 := ⟨_, rfl⟩
      replace h := h x4 ex4
      refine lv_iinc (v := x4) (lv' := [(2, .int x4), (0, .ref h_a0), (1, .int p1), (3, .int l3)]) hx hb dJ7_fill_53178_14 hl (k := 2) rfl (by rw [ex4]; rfl) (by decide) rfl (fun ls hl => ?_)
      refine lv_goto (tgt := 5) hx hb dJ7_fill_53178_17 (by decide) ?_
      exact hY5 (x4, upd w_a0 l2.toNatClampNeg p1) h H locs ls (hP.sub [0] rfl) (hD.sub [0] (by decide) rfl) hS (lv_sub hl [1, 2, 0, 3] rfl)
  obtain ⟨H, hH⟩ : ∃ H, H = s.heap := ⟨_, rfl⟩
  obtain ⟨locs, hlo⟩ : ∃ z : List Loc, z = [] := ⟨_, rfl⟩
  have hS0 := hS
  rw [← hH] at hP ⊢
  rw [← hlo]
  replace hS : va_S A s.heap H locs := by rw [hH, hlo]; exact hS0
  refine lv_iconst (v := 0) hx hb dJ7_fill_53178_0 (by decide) ?_
  refine lv_istore_n (lv' := [(2, .int 0), (0, .ref h_a0), (1, .int p1)]) hx hb dJ7_fill_53178_1 rfl hl (by decide) rfl (fun ls hl => ?_)
  refine lv_aload_n hx hb dJ7_fill_53178_2 rfl (lv_at hl 1 rfl) ?_
  refine va_alen (v := nI n_a0) hx hb hK hP 0 0 rfl rfl rfl dJ7_fill_53178_3 ?_
  refine lv_topi (fun x1 ex1 => ?_)
  replace h := h x1 ex1
  refine lv_istore_n (lv' := [(3, .int x1), (2, .int 0), (0, .ref h_a0), (1, .int p1)]) hx hb dJ7_fill_53178_4 rfl hl (by decide) rfl (fun ls hl => ?_)
  exact L5 x1 (0, v_a0) h H locs ls (hP.sub [0] rfl) (hD.sub [0] (by decide) rfl) hS (lv_sub hl [2, 3, 1, 0] rfl)
def pX6_clear (n_this : Nat) (v_words : Nat → Int32) (Q : (Nat → Int32) → Prop) : Prop :=
  pJ7_fill_53178 n_this 0 v_words (fun w1 => Q w1)
abbrev rmX6_clear : Room := { frames := 1, cells := 0, slots := 0, locals := 23 }
theorem hdS_J7_fill_53178 : yJ7_fill_53178.cls ≠ "java/lang/invoke/MethodHandle" ∧ yJ7_fill_53178.cls ≠ "java/lang/invoke/VarHandle" ∧ (parseMethodDescriptor yJ7_fill_53178.desc).map (fun d => d.parameters.length) = some 2 := by decide +kernel
set_option maxHeartbeats 4000000 in
set_option maxRecDepth 100000 in
theorem mX6_clear (l : Launch) (D : va_G) (cy : Cy) (h_this : Nat) (h_this_words : Nat) (n_this : Nat) (v_radius : Int32) (v_words : Nat → Int32) (Q : (Nat → Int32) → Prop) (h : pX6_clear n_this v_words Q) : Cv l yX6_clear wsX6_clear rmX6_clear 0 0 D cy [(h_this, .inr (6, [.int v_radius, .ref h_this_words])), (h_this_words, .inl (cy.1, n_this, .inl v_words))] [.ref h_this] (fun (u : (Nat → Int32)) => Q u) (fun (u : (Nat → Int32)) => [(h_this, .inr (6, [.int v_radius, .ref h_this_words])), (h_this_words, .inl (cy.1, n_this, .inl u))]) := by
  refine of_v (cc := cX6_clear) (maxL := 1) (by decide) rfl (Nat.le_of_ble_eq_true rfl) ?_
  intro p e s m args below meth c A ls QQ T0 RT hP hD hS hl
  obtain ⟨hx, hb, hr, hts, hown, hlocks, hml, hin, hK, hN, hA⟩ := T0
  have hown : s.vm.findClass RX6 = some m.cls := hown
  have hl : lv_has ls 1 [(0, .ref h_this)] := hl
  have iX6 : ∀ w ∈ wsX60, w ∈ wsX6_clear := fun _ h => List.mem_cons_of_mem _ (List.mem_append_right _ h)
  have k23 := hts (.fieldLink RX6 23 "HaltingDecider$Tape" "words" "[I") (List.mem_of_getElem? (i := 1) (by decide +kernel))
  obtain ⟨H, hH⟩ : ∃ H, H = s.heap := ⟨_, rfl⟩
  obtain ⟨locs, hlo⟩ : ∃ z : List Loc, z = [] := ⟨_, rfl⟩
  have hS0 := hS
  rw [← hH] at hP ⊢
  rw [← hlo]
  replace hS : va_S A s.heap H locs := by rw [hH, hlo]; exact hS0
  refine lv_aload_n hx hb dX6_clear_0 rfl (lv_at hl 0 rfl) ?_
  refine va_get (D := D) (ci := 6) (v := .ref h_this_words) (C := RX6) (T := TX6) (N := 2) hx hb hts iX6 hown hK hP 0 rfl rfl 1 (by decide) k23 (fun _ h9 => h9) rfl dX6_clear_1 ?_
  refine lv_iconst (v := 0) hx hb dX6_clear_4 (by decide) ?_
  refine call_vS (As := [.ref h_this_words, .int 0]) (rest := []) (wr := [(h_this, .inr (6, [.int v_radius, .ref h_this_words]))]) ⟨hx, hb, hml, hown, hts⟩ (mJ7_fill_53178 l D cy h_this_words n_this v_words 0 _ h) (va_cwS 2 hts gX6_clear_J7_fill_53178 rfl rfl rfl hdS_J7_fill_53178 ⟨Nat.le_of_ble_eq_true rfl, Nat.le_of_ble_eq_true rfl⟩) hP hK hN hD hS hA [1] [0] rfl rfl (by decide) (by decide) (by decide) rfl hl.1 rfl (Nat.le_of_ble_eq_true rfl) dX6_clear_5 ⟨Nat.le_of_ble_eq_true rfl, Nat.le_of_ble_eq_true rfl⟩ (fun w1 H locs h hP hD hS => ?_)
  have hP : va_P D vwCl [(h_this, .inr (6, [.int v_radius, .ref h_this_words])), (h_this_words, .inl (cy.1, n_this, .inl w1))] H := hP
  have hD : va_D A [(h_this, .inr (6, [.int v_radius, .ref h_this_words])), (h_this_words, .inl (cy.1, n_this, .inl w1))] := hD
  exact RT 8 H locs ls w1 dX6_clear_8 h (hP.sub [0, 1] rfl) (hD.sub [0, 1] (by decide) rfl) hS
def pX2_begin (n_this_tape : Nat) (v_tape_words : Nat → Int32) (v_state : Int32) (v_head : Int32) (v_time : Int32) (v_lowest : Int32) (v_highest : Int32) (Q : (Nat → Int32) → Int32 → Int32 → Int32 → Int32 → Int32 → Prop) : Prop :=
  pX6_clear n_this_tape v_tape_words (fun w1 => Q w1 0 0 0 0 0)
abbrev rmX2_begin : Room := { frames := 2, cells := 0, slots := 0, locals := 43 }
theorem hdV_X6_clear : yX6_clear.cls = RX6 ∧ yX6_clear.cls ≠ "java/lang/invoke/MethodHandle" ∧ yX6_clear.cls ≠ "java/lang/invoke/VarHandle" ∧ (parseMethodDescriptor yX6_clear.desc).map (fun d => d.parameters.length) = some 0 := by decide +kernel
set_option maxHeartbeats 4000000 in
set_option maxRecDepth 100000 in
theorem mX2_begin (l : Launch) (D : va_G) (cy : Cy) (h_this : Nat) (h_this_tape : Nat) (h_this_tape_words : Nat) (n_this_tape : Nat) (v_state : Int32) (v_head : Int32) (v_time : Int32) (v_lowest : Int32) (v_highest : Int32) (v_tape_radius : Int32) (v_tape_words : Nat → Int32) (Q : (Nat → Int32) → Int32 → Int32 → Int32 → Int32 → Int32 → Prop) (h : pX2_begin n_this_tape v_tape_words v_state v_head v_time v_lowest v_highest Q) : Cv l yX2_begin wsX2_begin rmX2_begin 0 0 D cy [(h_this, .inr (2, [.ref h_this_tape, .int v_state, .int v_head, .int v_time, .int v_lowest, .int v_highest])), (h_this_tape, .inr (6, [.int v_tape_radius, .ref h_this_tape_words])), (h_this_tape_words, .inl (cy.1, n_this_tape, .inl v_tape_words))] [.ref h_this] (fun (u : (Nat → Int32) × Int32 × Int32 × Int32 × Int32 × Int32) => Q u.1 u.2.1 u.2.2.1 u.2.2.2.1 u.2.2.2.2.1 u.2.2.2.2.2) (fun (u : (Nat → Int32) × Int32 × Int32 × Int32 × Int32 × Int32) => [(h_this, .inr (2, [.ref h_this_tape, .int u.2.1, .int u.2.2.1, .int u.2.2.2.1, .int u.2.2.2.2.1, .int u.2.2.2.2.2])), (h_this_tape, .inr (6, [.int v_tape_radius, .ref h_this_tape_words])), (h_this_tape_words, .inl (cy.1, n_this_tape, .inl u.1))]) := by
  refine of_v (cc := cX2_begin) (maxL := 1) (by decide) rfl (Nat.le_of_ble_eq_true rfl) ?_
  intro p e s m args below meth c A ls QQ T0 RT hP hD hS hl
  obtain ⟨hx, hb, hr, hts, hown, hlocks, hml, hin, hK, hN, hA⟩ := T0
  have hown : s.vm.findClass RX2 = some m.cls := hown
  have hl : lv_has ls 1 [(0, .ref h_this)] := hl
  have iX2 : ∀ w ∈ wsX20, w ∈ wsX2_begin := fun _ h => List.mem_cons_of_mem _ (List.mem_append_left _ (List.mem_append_right _ h))
  have k14 := hts (.fieldLink RX2 14 "HaltingDecider$Configuration" "tape" "LHaltingDecider$Tape;") (List.mem_of_getElem? (i := 1) (by decide +kernel))
  have k26 := hts (.fieldLink RX2 26 "HaltingDecider$Configuration" "state" "I") (List.mem_of_getElem? (i := 2) (by decide +kernel))
  have k30 := hts (.fieldLink RX2 30 "HaltingDecider$Configuration" "head" "I") (List.mem_of_getElem? (i := 3) (by decide +kernel))
  have k33 := hts (.fieldLink RX2 33 "HaltingDecider$Configuration" "time" "I") (List.mem_of_getElem? (i := 4) (by decide +kernel))
  have k36 := hts (.fieldLink RX2 36 "HaltingDecider$Configuration" "lowest" "I") (List.mem_of_getElem? (i := 5) (by decide +kernel))
  have k39 := hts (.fieldLink RX2 39 "HaltingDecider$Configuration" "highest" "I") (List.mem_of_getElem? (i := 6) (by decide +kernel))
  obtain ⟨H, hH⟩ : ∃ H, H = s.heap := ⟨_, rfl⟩
  obtain ⟨locs, hlo⟩ : ∃ z : List Loc, z = [] := ⟨_, rfl⟩
  have hS0 := hS
  rw [← hH] at hP ⊢
  rw [← hlo]
  replace hS : va_S A s.heap H locs := by rw [hH, hlo]; exact hS0
  refine lv_aload_n hx hb dX2_begin_0 rfl (lv_at hl 0 rfl) ?_
  refine va_get (D := D) (ci := 2) (v := .ref h_this_tape) (C := RX2) (T := TX2) (N := 6) hx hb hts iX2 hown hK hP 0 rfl rfl 0 (by decide) k14 (fun _ h9 => h9) rfl dX2_begin_1 ?_
  refine call_vV (As := []) (rest := []) (wr := [(h_this, .inr (2, [.ref h_this_tape, .int v_state, .int v_head, .int v_time, .int v_lowest, .int v_highest]))]) ⟨hx, hb, hml, hown, hts⟩ (mX6_clear l D cy h_this_tape h_this_tape_words n_this_tape v_tape_radius v_tape_words _ h) (cwV 0 hts gX2_begin_X6_clear rfl rfl rfl hdV_X6_clear ⟨Nat.le_of_ble_eq_true rfl, Nat.le_of_ble_eq_true rfl⟩) hP hK hN hD hS hA [1, 2] [0] rfl rfl (by decide) (by decide) (by decide) (ci := 6) rfl rfl rfl rfl hl.1 rfl (Nat.le_of_ble_eq_true rfl) dX2_begin_4 ⟨Nat.le_of_ble_eq_true rfl, Nat.le_of_ble_eq_true rfl⟩ (fun w1 H locs h hP hD hS => ?_)
  have hP : va_P D vwCl [(h_this, .inr (2, [.ref h_this_tape, .int v_state, .int v_head, .int v_time, .int v_lowest, .int v_highest])), (h_this_tape, .inr (6, [.int v_tape_radius, .ref h_this_tape_words])), (h_this_tape_words, .inl (cy.1, n_this_tape, .inl w1))] H := hP
  have hD : va_D A [(h_this, .inr (2, [.ref h_this_tape, .int v_state, .int v_head, .int v_time, .int v_lowest, .int v_highest])), (h_this_tape, .inr (6, [.int v_tape_radius, .ref h_this_tape_words])), (h_this_tape_words, .inl (cy.1, n_this_tape, .inl w1))] := hD
  refine lv_aload_n hx hb dX2_begin_7 rfl (lv_at hl 0 rfl) ?_
  refine lv_iconst (v := 0) hx hb dX2_begin_8 (by decide) ?_
  refine va_put (D := D) (ci := 2) (v := .int 0) (ty := .int) (C := RX2) (T := TX2) (N := 6) hx hb hts iX2 tyX2 tyX2_ok nmX2 hown hK hP hD hS 0 rfl rfl 1 (by decide) k26 (fun _ h9 => h9) rfl (tyX2_ok 1 (by decide)) rfl rfl (Nat.le_of_ble_eq_true rfl) dX2_begin_9 (fun H locs hP hD hS => ?_)
  have hP : va_P D vwCl [(h_this, .inr (2, [.ref h_this_tape, .int 0, .int v_head, .int v_time, .int v_lowest, .int v_highest])), (h_this_tape, .inr (6, [.int v_tape_radius, .ref h_this_tape_words])), (h_this_tape_words, .inl (cy.1, n_this_tape, .inl w1))] H := hP
  have hD : va_D A [(h_this, .inr (2, [.ref h_this_tape, .int 0, .int v_head, .int v_time, .int v_lowest, .int v_highest])), (h_this_tape, .inr (6, [.int v_tape_radius, .ref h_this_tape_words])), (h_this_tape_words, .inl (cy.1, n_this_tape, .inl w1))] := hD
  refine lv_aload_n hx hb dX2_begin_12 rfl (lv_at hl 0 rfl) ?_
  refine lv_iconst (v := 0) hx hb dX2_begin_13 (by decide) ?_
  refine va_put (D := D) (ci := 2) (v := .int 0) (ty := .int) (C := RX2) (T := TX2) (N := 6) hx hb hts iX2 tyX2 tyX2_ok nmX2 hown hK hP hD hS 0 rfl rfl 2 (by decide) k30 (fun _ h9 => h9) rfl (tyX2_ok 2 (by decide)) rfl rfl (Nat.le_of_ble_eq_true rfl) dX2_begin_14 (fun H locs hP hD hS => ?_)
  have hP : va_P D vwCl [(h_this, .inr (2, [.ref h_this_tape, .int 0, .int 0, .int v_time, .int v_lowest, .int v_highest])), (h_this_tape, .inr (6, [.int v_tape_radius, .ref h_this_tape_words])), (h_this_tape_words, .inl (cy.1, n_this_tape, .inl w1))] H := hP
  have hD : va_D A [(h_this, .inr (2, [.ref h_this_tape, .int 0, .int 0, .int v_time, .int v_lowest, .int v_highest])), (h_this_tape, .inr (6, [.int v_tape_radius, .ref h_this_tape_words])), (h_this_tape_words, .inl (cy.1, n_this_tape, .inl w1))] := hD
  refine lv_aload_n hx hb dX2_begin_17 rfl (lv_at hl 0 rfl) ?_
  refine lv_iconst (v := 0) hx hb dX2_begin_18 (by decide) ?_
  refine va_put (D := D) (ci := 2) (v := .int 0) (ty := .int) (C := RX2) (T := TX2) (N := 6) hx hb hts iX2 tyX2 tyX2_ok nmX2 hown hK hP hD hS 0 rfl rfl 3 (by decide) k33 (fun _ h9 => h9) rfl (tyX2_ok 3 (by decide)) rfl rfl (Nat.le_of_ble_eq_true rfl) dX2_begin_19 (fun H locs hP hD hS => ?_)
  have hP : va_P D vwCl [(h_this, .inr (2, [.ref h_this_tape, .int 0, .int 0, .int 0, .int v_lowest, .int v_highest])), (h_this_tape, .inr (6, [.int v_tape_radius, .ref h_this_tape_words])), (h_this_tape_words, .inl (cy.1, n_this_tape, .inl w1))] H := hP
  have hD : va_D A [(h_this, .inr (2, [.ref h_this_tape, .int 0, .int 0, .int 0, .int v_lowest, .int v_highest])), (h_this_tape, .inr (6, [.int v_tape_radius, .ref h_this_tape_words])), (h_this_tape_words, .inl (cy.1, n_this_tape, .inl w1))] := hD
  refine lv_aload_n hx hb dX2_begin_22 rfl (lv_at hl 0 rfl) ?_
  refine lv_iconst (v := 0) hx hb dX2_begin_23 (by decide) ?_
  refine va_put (D := D) (ci := 2) (v := .int 0) (ty := .int) (C := RX2) (T := TX2) (N := 6) hx hb hts iX2 tyX2 tyX2_ok nmX2 hown hK hP hD hS 0 rfl rfl 4 (by decide) k36 (fun _ h9 => h9) rfl (tyX2_ok 4 (by decide)) rfl rfl (Nat.le_of_ble_eq_true rfl) dX2_begin_24 (fun H locs hP hD hS => ?_)
  have hP : va_P D vwCl [(h_this, .inr (2, [.ref h_this_tape, .int 0, .int 0, .int 0, .int 0, .int v_highest])), (h_this_tape, .inr (6, [.int v_tape_radius, .ref h_this_tape_words])), (h_this_tape_words, .inl (cy.1, n_this_tape, .inl w1))] H := hP
  have hD : va_D A [(h_this, .inr (2, [.ref h_this_tape, .int 0, .int 0, .int 0, .int 0, .int v_highest])), (h_this_tape, .inr (6, [.int v_tape_radius, .ref h_this_tape_words])), (h_this_tape_words, .inl (cy.1, n_this_tape, .inl w1))] := hD
  refine lv_aload_n hx hb dX2_begin_27 rfl (lv_at hl 0 rfl) ?_
  refine lv_iconst (v := 0) hx hb dX2_begin_28 (by decide) ?_
  refine va_put (D := D) (ci := 2) (v := .int 0) (ty := .int) (C := RX2) (T := TX2) (N := 6) hx hb hts iX2 tyX2 tyX2_ok nmX2 hown hK hP hD hS 0 rfl rfl 5 (by decide) k39 (fun _ h9 => h9) rfl (tyX2_ok 5 (by decide)) rfl rfl (Nat.le_of_ble_eq_true rfl) dX2_begin_29 (fun H locs hP hD hS => ?_)
  have hP : va_P D vwCl [(h_this, .inr (2, [.ref h_this_tape, .int 0, .int 0, .int 0, .int 0, .int 0])), (h_this_tape, .inr (6, [.int v_tape_radius, .ref h_this_tape_words])), (h_this_tape_words, .inl (cy.1, n_this_tape, .inl w1))] H := hP
  have hD : va_D A [(h_this, .inr (2, [.ref h_this_tape, .int 0, .int 0, .int 0, .int 0, .int 0])), (h_this_tape, .inr (6, [.int v_tape_radius, .ref h_this_tape_words])), (h_this_tape_words, .inl (cy.1, n_this_tape, .inl w1))] := hD
  exact RT 32 H locs ls (w1, 0, 0, 0, 0, 0) dX2_begin_32 h (hP.sub [0, 1, 2] rfl) (hD.sub [0, 1, 2] (by decide) rfl) hS
def pX6_bitOf (n_a0 : Nat) (p1 : Int32) (p2 : Int32) (v_a0 : Nat → Int32) (Q : Int32 → Prop) : Prop :=
  (∀ x1 : Int32, x1 = p1 + (p2 >>> (5 &&& 31)) → ((x1 < 0 → Q 0) ∧ (¬ x1 < 0 → (((nI n_a0) ≤ x1 → Q 0) ∧ (¬ (nI n_a0) ≤ x1 → (vp_in x1 n_a0 ∧ Q ((ushr (v_a0 x1.toNatClampNeg) (p2 &&& 31)) &&& 1)))))))
abbrev rmX6_bitOf : Room := { frames := 0, cells := 0, slots := 0, locals := 0 }
set_option maxHeartbeats 4000000 in
set_option maxRecDepth 100000 in
theorem mX6_bitOf (l : Launch) (D : va_G) (cy : Cy) (h_a0 : Nat) (n_a0 : Nat) (v_a0 : Nat → Int32) (p1 : Int32) (p2 : Int32) (Q : Int32 → Prop) (h : pX6_bitOf n_a0 p1 p2 v_a0 Q) : Ci l yX6_bitOf wsX6_bitOf rmX6_bitOf D cy [(h_a0, .inl (cy.1, n_a0, .inl v_a0))] [.ref h_a0, .int p1, .int p2] (fun (r : Int32) (_ : Unit) => Q r) (fun (_ : Unit) => [(h_a0, .inl (cy.1, n_a0, .inl v_a0))]) := by
  refine of_i (cc := cX6_bitOf) (maxL := 4) (by decide) rfl (Nat.le_of_ble_eq_true rfl) ?_
  intro p e s m args below meth c A ls QQ T0 RT hP hD hS hl
  obtain ⟨hx, hb, hr, hts, hown, hlocks, hml, hin, hK, hN, hA⟩ := T0
  have hown : s.vm.findClass RX6 = some m.cls := hown
  have hl : lv_has ls 4 [(0, .ref h_a0), (1, .int p1), (2, .int p2)] := hl
  obtain ⟨H, hH⟩ : ∃ H, H = s.heap := ⟨_, rfl⟩
  obtain ⟨locs, hlo⟩ : ∃ z : List Loc, z = [] := ⟨_, rfl⟩
  have hS0 := hS
  rw [← hH] at hP ⊢
  rw [← hlo]
  replace hS : va_S A s.heap H locs := by rw [hH, hlo]; exact hS0
  refine lv_iload_n hx hb dX6_bitOf_0 rfl (lv_at hl 1 rfl) ?_
  refine lv_iload_n hx hb dX6_bitOf_1 rfl (lv_at hl 2 rfl) ?_
  refine lv_iconst (v := 5) hx hb dX6_bitOf_2 (by decide) ?_
  refine lv_ishr hx hb dX6_bitOf_3 ?_
  refine lv_iadd hx hb dX6_bitOf_4 ?_
  refine lv_topi (fun x1 ex1 => ?_)
  replace h := h x1 ex1
  refine lv_istore_n (lv' := [(3, .int x1), (0, .ref h_a0), (1, .int p1), (2, .int p2)]) hx hb dX6_bitOf_5 rfl hl (by decide) rfl (fun ls hl => ?_)
  refine lv_iload_n hx hb dX6_bitOf_6 rfl (lv_at hl 0 rfl) ?_
  refine lv_if_lt (tgt := 29) hx hb dX6_bitOf_7 (by decide) (fun c2 => ?_) (fun c2 => ?_)
  · replace h := h.1 c2
    refine lv_iconst (v := 0) hx hb dX6_bitOf_29 (by decide) ?_
    exact RT 30 H locs ls 0 () dX6_bitOf_30 h (hP.sub [0] rfl) (hD.sub [0] (by decide) rfl) hS
  · replace h := h.2 c2
    refine lv_iload_n hx hb dX6_bitOf_10 rfl (lv_at hl 0 rfl) ?_
    refine lv_aload_n hx hb dX6_bitOf_11 rfl (lv_at hl 1 rfl) ?_
    refine va_alen (v := nI n_a0) hx hb hK hP 0 0 rfl rfl rfl dX6_bitOf_12 ?_
    refine lv_icmp_ge (tgt := 29) hx hb dX6_bitOf_13 (by decide) (fun c3 => ?_) (fun c3 => ?_)
    · replace h := h.1 c3
      refine lv_iconst (v := 0) hx hb dX6_bitOf_29 (by decide) ?_
      exact RT 30 H locs ls 0 () dX6_bitOf_30 h (hP.sub [0] rfl) (hD.sub [0] (by decide) rfl) hS
    · replace h := h.2 c3
      refine lv_aload_n hx hb dX6_bitOf_16 rfl (lv_at hl 1 rfl) ?_
      refine lv_iload_n hx hb dX6_bitOf_17 rfl (lv_at hl 0 rfl) ?_
      have b4 := h.1
      replace h := h.2
      refine va_iald hx hb hK hP 0 0 rfl rfl b4 dX6_bitOf_18 ?_
      refine lv_iload_n hx hb dX6_bitOf_19 rfl (lv_at hl 3 rfl) ?_
      refine lv_bipush (v := 31) hx hb dX6_bitOf_20 (by decide) ?_
      refine lv_iand hx hb dX6_bitOf_22 ?_
      refine lv_iushr (v := ushr (v_a0 x1.toNatClampNeg) (p2 &&& 31)) hx hb dX6_bitOf_23 rfl ?_
      refine lv_iconst (v := 1) hx hb dX6_bitOf_24 (by decide) ?_
      refine lv_iand hx hb dX6_bitOf_25 ?_
      refine lv_goto (tgt := 30) hx hb dX6_bitOf_26 (by decide) ?_
      exact RT 30 H locs ls ((ushr (v_a0 x1.toNatClampNeg) (p2 &&& 31)) &&& 1) () dX6_bitOf_30 h (hP.sub [0] rfl) (hD.sub [0] (by decide) rfl) hS
def pX6_read (n_this : Nat) (p1 : Int32) (v_radius : Int32) (v_words : Nat → Int32) (Q : Int32 → Prop) : Prop :=
  ((p1 < (-v_radius) → Q 0) ∧ (¬ p1 < (-v_radius) → ((p1 ≤ v_radius → pX6_bitOf n_this 0 (p1 + v_radius) v_words (fun r3 => Q r3)) ∧ (¬ p1 ≤ v_radius → Q 0))))
abbrev rmX6_read : Room := { frames := 1, cells := 0, slots := 0, locals := 23 }
theorem hdS_X6_bitOf : yX6_bitOf.cls ≠ "java/lang/invoke/MethodHandle" ∧ yX6_bitOf.cls ≠ "java/lang/invoke/VarHandle" ∧ (parseMethodDescriptor yX6_bitOf.desc).map (fun d => d.parameters.length) = some 3 := by decide +kernel
set_option maxHeartbeats 4000000 in
set_option maxRecDepth 100000 in
theorem mX6_read (l : Launch) (D : va_G) (cy : Cy) (h_this : Nat) (h_this_words : Nat) (n_this : Nat) (v_radius : Int32) (v_words : Nat → Int32) (p1 : Int32) (Q : Int32 → Prop) (h : pX6_read n_this p1 v_radius v_words Q) : Ci l yX6_read wsX6_read rmX6_read D cy [(h_this, .inr (6, [.int v_radius, .ref h_this_words])), (h_this_words, .inl (cy.1, n_this, .inl v_words))] [.ref h_this, .int p1] (fun (r : Int32) (_ : Unit) => Q r) (fun (_ : Unit) => [(h_this, .inr (6, [.int v_radius, .ref h_this_words])), (h_this_words, .inl (cy.1, n_this, .inl v_words))]) := by
  refine of_i (cc := cX6_read) (maxL := 2) (by decide) rfl (Nat.le_of_ble_eq_true rfl) ?_
  intro p e s m args below meth c A ls QQ T0 RT hP hD hS hl
  obtain ⟨hx, hb, hr, hts, hown, hlocks, hml, hin, hK, hN, hA⟩ := T0
  have hown : s.vm.findClass RX6 = some m.cls := hown
  have hl : lv_has ls 2 [(0, .ref h_this), (1, .int p1)] := hl
  have iX6 : ∀ w ∈ wsX60, w ∈ wsX6_read := fun _ h => List.mem_cons_of_mem _ (List.mem_append_right _ h)
  have k13 := hts (.fieldLink RX6 13 "HaltingDecider$Tape" "radius" "I") (List.mem_of_getElem? (i := 1) (by decide +kernel))
  have k23 := hts (.fieldLink RX6 23 "HaltingDecider$Tape" "words" "[I") (List.mem_of_getElem? (i := 2) (by decide +kernel))
  obtain ⟨H, hH⟩ : ∃ H, H = s.heap := ⟨_, rfl⟩
  obtain ⟨locs, hlo⟩ : ∃ z : List Loc, z = [] := ⟨_, rfl⟩
  have hS0 := hS
  rw [← hH] at hP ⊢
  rw [← hlo]
  replace hS : va_S A s.heap H locs := by rw [hH, hlo]; exact hS0
  refine lv_iload_n hx hb dX6_read_0 rfl (lv_at hl 1 rfl) ?_
  refine lv_aload_n hx hb dX6_read_1 rfl (lv_at hl 0 rfl) ?_
  refine va_get (D := D) (ci := 6) (v := .int v_radius) (C := RX6) (T := TX6) (N := 2) hx hb hts iX6 hown hK hP 0 rfl rfl 0 (by decide) k13 (fun _ h9 => h9) rfl dX6_read_2 ?_
  refine lv_ineg hx hb dX6_read_5 ?_
  refine lv_icmp_lt (tgt := 17) hx hb dX6_read_6 (by decide) (fun c1 => ?_) (fun c1 => ?_)
  · replace h := h.1 c1
    refine lv_iconst (v := 0) hx hb dX6_read_17 (by decide) ?_
    exact RT 18 H locs ls 0 () dX6_read_18 h (hP.sub [0, 1] rfl) (hD.sub [0, 1] (by decide) rfl) hS
  · replace h := h.2 c1
    refine lv_iload_n hx hb dX6_read_9 rfl (lv_at hl 1 rfl) ?_
    refine lv_aload_n hx hb dX6_read_10 rfl (lv_at hl 0 rfl) ?_
    refine va_get (D := D) (ci := 6) (v := .int v_radius) (C := RX6) (T := TX6) (N := 2) hx hb hts iX6 hown hK hP 0 rfl rfl 0 (by decide) k13 (fun _ h9 => h9) rfl dX6_read_11 ?_
    refine lv_icmp_le (tgt := 19) hx hb dX6_read_14 (by decide) (fun c2 => ?_) (fun c2 => ?_)
    · replace h := h.1 c2
      refine lv_aload_n hx hb dX6_read_19 rfl (lv_at hl 0 rfl) ?_
      refine va_get (D := D) (ci := 6) (v := .ref h_this_words) (C := RX6) (T := TX6) (N := 2) hx hb hts iX6 hown hK hP 0 rfl rfl 1 (by decide) k23 (fun _ h9 => h9) rfl dX6_read_20 ?_
      refine lv_iconst (v := 0) hx hb dX6_read_23 (by decide) ?_
      refine lv_iload_n hx hb dX6_read_24 rfl (lv_at hl 1 rfl) ?_
      refine lv_aload_n hx hb dX6_read_25 rfl (lv_at hl 0 rfl) ?_
      refine va_get (D := D) (ci := 6) (v := .int v_radius) (C := RX6) (T := TX6) (N := 2) hx hb hts iX6 hown hK hP 0 rfl rfl 0 (by decide) k13 (fun _ h9 => h9) rfl dX6_read_26 ?_
      refine lv_iadd hx hb dX6_read_29 ?_
      refine call_iS (As := [.ref h_this_words, .int 0, .int (p1 + v_radius)]) (rest := []) (wr := [(h_this, .inr (6, [.int v_radius, .ref h_this_words]))]) ⟨hx, hb, hml, hown, hts⟩ (mX6_bitOf l D cy h_this_words n_this v_words 0 (p1 + v_radius) _ h) (va_cwS 3 hts gX6_read_X6_bitOf rfl rfl rfl hdS_X6_bitOf ⟨Nat.le_of_ble_eq_true rfl, Nat.le_of_ble_eq_true rfl⟩) hP hK hN hD hS hA [1] [0] rfl rfl (by decide) (by decide) (by decide) rfl hl.1 rfl (Nat.le_of_ble_eq_true rfl) dX6_read_30 ⟨Nat.le_of_ble_eq_true rfl, Nat.le_of_ble_eq_true rfl⟩ (fun r3 u4 H locs h hP hD hS => ?_)
      have hP : va_P D vwCl [(h_this, .inr (6, [.int v_radius, .ref h_this_words])), (h_this_words, .inl (cy.1, n_this, .inl v_words))] H := hP
      have hD : va_D A [(h_this, .inr (6, [.int v_radius, .ref h_this_words])), (h_this_words, .inl (cy.1, n_this, .inl v_words))] := hD
      exact RT 33 H locs ls r3 () dX6_read_33 h (hP.sub [0, 1] rfl) (hD.sub [0, 1] (by decide) rfl) hS
    · replace h := h.2 c2
      refine lv_iconst (v := 0) hx hb dX6_read_17 (by decide) ?_
      exact RT 18 H locs ls 0 () dX6_read_18 h (hP.sub [0, 1] rfl) (hD.sub [0, 1] (by decide) rfl) hS
def pX5_slotOf_j26 (p1 : Int32) (p2 : Int32) (v_count : Int32) (Q : Int32 → Prop) (s0 : Int32) : Prop :=
  ((s0 = 0 → Q (-1)) ∧ (¬ s0 = 0 → Q ((2 * p1) + p2)))
def pX5_slotOf_j25 (p1 : Int32) (p2 : Int32) (v_count : Int32) (Q : Int32 → Prop) : Prop :=
  pX5_slotOf_j26 p1 p2 v_count Q 0
def pX5_slotOf (p1 : Int32) (p2 : Int32) (v_count : Int32) (Q : Int32 → Prop) : Prop :=
  ((p1 < 0 → pX5_slotOf_j25 p1 p2 v_count Q) ∧ (¬ p1 < 0 → ((v_count ≤ p1 → pX5_slotOf_j25 p1 p2 v_count Q) ∧ (¬ v_count ≤ p1 → ((p2 < 0 → pX5_slotOf_j25 p1 p2 v_count Q) ∧ (¬ p2 < 0 → (((1 : Int32) < p2 → pX5_slotOf_j25 p1 p2 v_count Q) ∧ (¬ (1 : Int32) < p2 → pX5_slotOf_j26 p1 p2 v_count Q 1))))))))
abbrev rmX5_slotOf : Room := { frames := 0, cells := 0, slots := 0, locals := 0 }
set_option maxHeartbeats 4000000 in
set_option maxRecDepth 100000 in
theorem mX5_slotOf (l : Launch) (D : va_G) (cy : Cy) (h_this : Nat) (h_this_written : Nat) (h_this_moved : Nat) (h_this_following : Nat) (v_count : Int32) (p1 : Int32) (p2 : Int32) (Q : Int32 → Prop) (h : pX5_slotOf p1 p2 v_count Q) : Ci l yX5_slotOf wsX5_slotOf rmX5_slotOf D cy [(h_this, .inr (5, [.int v_count, .ref h_this_written, .ref h_this_moved, .ref h_this_following]))] [.ref h_this, .int p1, .int p2] (fun (r : Int32) (_ : Unit) => Q r) (fun (_ : Unit) => [(h_this, .inr (5, [.int v_count, .ref h_this_written, .ref h_this_moved, .ref h_this_following]))]) := by
  refine of_i (cc := cX5_slotOf) (maxL := 4) (by decide) rfl (Nat.le_of_ble_eq_true rfl) ?_
  intro p e s m args below meth c A ls QQ T0 RT hP hD hS hl
  obtain ⟨hx, hb, hr, hts, hown, hlocks, hml, hin, hK, hN, hA⟩ := T0
  have hown : s.vm.findClass RX5 = some m.cls := hown
  have hl : lv_has ls 4 [(0, .ref h_this), (1, .int p1), (2, .int p2)] := hl
  have iX5 : ∀ w ∈ wsX50, w ∈ wsX5_slotOf := fun _ h => List.mem_cons_of_mem _ (List.mem_append_right _ h)
  have k31 := hts (.fieldLink RX5 31 "HaltingDecider$Machine" "count" "I") (List.mem_of_getElem? (i := 1) (by decide +kernel))
  have J26 : ∀ (s0 : Int32) (H : Heap) (locs : List Loc) (ls : Array Slot), pX5_slotOf_j26 p1 p2 v_count Q s0 → va_P D vwCl [(h_this, .inr (5, [.int v_count, .ref h_this_written, .ref h_this_moved, .ref h_this_following]))] H → va_D A [(h_this, .inr (5, [.int v_count, .ref h_this_written, .ref h_this_moved, .ref h_this_following]))] → va_S A s.heap H locs → lv_has ls 4 [(1, .int p1), (2, .int p2)] → W p l e rmX5_slotOf s m args below meth c H locs 0 0 QQ (F0 m 26 ls [.int s0]) := by
    intro s0 H locs ls h hP hD hS hl
    refine lv_istore_n (lv' := [(3, .int s0), (1, .int p1), (2, .int p2)]) hx hb dX5_slotOf_26 rfl hl (by decide) rfl (fun ls hl => ?_)
    refine lv_iload_n hx hb dX5_slotOf_27 rfl (lv_at hl 0 rfl) ?_
    refine lv_if_eq (tgt := 39) hx hb dX5_slotOf_28 (by decide) (fun c2 => ?_) (fun c2 => ?_)
    · replace h := h.1 c2
      refine lv_iconst (v := (-1)) hx hb dX5_slotOf_39 (by decide) ?_
      exact RT 40 H locs ls (-1) () dX5_slotOf_40 h (hP.sub [0] rfl) (hD.sub [0] (by decide) rfl) hS
    · replace h := h.2 c2
      refine lv_iconst (v := 2) hx hb dX5_slotOf_31 (by decide) ?_
      refine lv_iload_n hx hb dX5_slotOf_32 rfl (lv_at hl 1 rfl) ?_
      refine lv_imul hx hb dX5_slotOf_33 ?_
      refine lv_iload_n hx hb dX5_slotOf_34 rfl (lv_at hl 2 rfl) ?_
      refine lv_iadd hx hb dX5_slotOf_35 ?_
      refine lv_goto (tgt := 40) hx hb dX5_slotOf_36 (by decide) ?_
      exact RT 40 H locs ls ((2 * p1) + p2) () dX5_slotOf_40 h (hP.sub [0] rfl) (hD.sub [0] (by decide) rfl) hS
  have J25 : ∀ (H : Heap) (locs : List Loc) (ls : Array Slot), pX5_slotOf_j25 p1 p2 v_count Q → va_P D vwCl [(h_this, .inr (5, [.int v_count, .ref h_this_written, .ref h_this_moved, .ref h_this_following]))] H → va_D A [(h_this, .inr (5, [.int v_count, .ref h_this_written, .ref h_this_moved, .ref h_this_following]))] → va_S A s.heap H locs → lv_has ls 4 [(1, .int p1), (2, .int p2)] → W p l e rmX5_slotOf s m args below meth c H locs 0 0 QQ (F0 m 25 ls []) := by
    intro H locs ls h hP hD hS hl
    refine lv_iconst (v := 0) hx hb dX5_slotOf_25 (by decide) ?_
    exact J26 0 H locs ls h (hP.sub [0] rfl) (hD.sub [0] (by decide) rfl) hS (lv_sub hl [0, 1] rfl)
  obtain ⟨H, hH⟩ : ∃ H, H = s.heap := ⟨_, rfl⟩
  obtain ⟨locs, hlo⟩ : ∃ z : List Loc, z = [] := ⟨_, rfl⟩
  have hS0 := hS
  rw [← hH] at hP ⊢
  rw [← hlo]
  replace hS : va_S A s.heap H locs := by rw [hH, hlo]; exact hS0
  refine lv_iload_n hx hb dX5_slotOf_0 rfl (lv_at hl 1 rfl) ?_
  refine lv_if_lt (tgt := 25) hx hb dX5_slotOf_1 (by decide) (fun c1 => ?_) (fun c1 => ?_)
  · replace h := h.1 c1
    exact J25  H locs ls h (hP.sub [0] rfl) (hD.sub [0] (by decide) rfl) hS (lv_sub hl [1, 2] rfl)
  · replace h := h.2 c1
    refine lv_iload_n hx hb dX5_slotOf_4 rfl (lv_at hl 1 rfl) ?_
    refine lv_aload_n hx hb dX5_slotOf_5 rfl (lv_at hl 0 rfl) ?_
    refine va_get (D := D) (ci := 5) (v := .int v_count) (C := RX5) (T := TX5) (N := 4) hx hb hts iX5 hown hK hP 0 rfl rfl 0 (by decide) k31 (fun _ h9 => h9) rfl dX5_slotOf_6 ?_
    refine lv_icmp_ge (tgt := 25) hx hb dX5_slotOf_9 (by decide) (fun c3 => ?_) (fun c3 => ?_)
    · replace h := h.1 c3
      exact J25  H locs ls h (hP.sub [0] rfl) (hD.sub [0] (by decide) rfl) hS (lv_sub hl [1, 2] rfl)
    · replace h := h.2 c3
      refine lv_iload_n hx hb dX5_slotOf_12 rfl (lv_at hl 2 rfl) ?_
      refine lv_if_lt (tgt := 25) hx hb dX5_slotOf_13 (by decide) (fun c4 => ?_) (fun c4 => ?_)
      · replace h := h.1 c4
        exact J25  H locs ls h (hP.sub [0] rfl) (hD.sub [0] (by decide) rfl) hS (lv_sub hl [1, 2] rfl)
      · replace h := h.2 c4
        refine lv_iload_n hx hb dX5_slotOf_16 rfl (lv_at hl 2 rfl) ?_
        refine lv_iconst (v := 1) hx hb dX5_slotOf_17 (by decide) ?_
        refine lv_icmp_gt (tgt := 25) hx hb dX5_slotOf_18 (by decide) (fun c5 => ?_) (fun c5 => ?_)
        · replace h := h.1 c5
          exact J25  H locs ls h (hP.sub [0] rfl) (hD.sub [0] (by decide) rfl) hS (lv_sub hl [1, 2] rfl)
        · replace h := h.2 c5
          refine lv_iconst (v := 1) hx hb dX5_slotOf_21 (by decide) ?_
          refine lv_goto (tgt := 26) hx hb dX5_slotOf_22 (by decide) ?_
          exact J26 1 H locs ls h (hP.sub [0] rfl) (hD.sub [0] (by decide) rfl) hS (lv_sub hl [1, 2] rfl)
def pX5_nextOf (p1 : Int32) (p2 : Int32) (v_count : Int32) (v_following : Nat → Int32) (Q : Int32 → Prop) : Prop :=
  pX5_slotOf p1 p2 v_count (fun r1 => ((¬ r1 = (-1) → (vp_in r1 10 ∧ Q (v_following r1.toNatClampNeg))) ∧ (r1 = (-1) → Q (-1))))
abbrev rmX5_nextOf : Room := { frames := 1, cells := 0, slots := 0, locals := 23 }
theorem hdV_X5_slotOf : yX5_slotOf.cls = RX5 ∧ yX5_slotOf.cls ≠ "java/lang/invoke/MethodHandle" ∧ yX5_slotOf.cls ≠ "java/lang/invoke/VarHandle" ∧ (parseMethodDescriptor yX5_slotOf.desc).map (fun d => d.parameters.length) = some 2 := by decide +kernel
set_option maxHeartbeats 4000000 in
set_option maxRecDepth 100000 in
theorem mX5_nextOf (l : Launch) (D : va_G) (cy : Cy) (h_this : Nat) (h_this_written : Nat) (h_this_moved : Nat) (h_this_following : Nat) (v_count : Int32) (v_following : Nat → Int32) (p1 : Int32) (p2 : Int32) (Q : Int32 → Prop) (h : pX5_nextOf p1 p2 v_count v_following Q) : Ci l yX5_nextOf wsX5_nextOf rmX5_nextOf D cy [(h_this, .inr (5, [.int v_count, .ref h_this_written, .ref h_this_moved, .ref h_this_following])), (h_this_following, .inl (cy.1, 10, .inl v_following))] [.ref h_this, .int p1, .int p2] (fun (r : Int32) (_ : Unit) => Q r) (fun (_ : Unit) => [(h_this, .inr (5, [.int v_count, .ref h_this_written, .ref h_this_moved, .ref h_this_following])), (h_this_following, .inl (cy.1, 10, .inl v_following))]) := by
  refine of_i (cc := cX5_nextOf) (maxL := 4) (by decide) rfl (Nat.le_of_ble_eq_true rfl) ?_
  intro p e s m args below meth c A ls QQ T0 RT hP hD hS hl
  obtain ⟨hx, hb, hr, hts, hown, hlocks, hml, hin, hK, hN, hA⟩ := T0
  have hown : s.vm.findClass RX5 = some m.cls := hown
  have hl : lv_has ls 4 [(0, .ref h_this), (1, .int p1), (2, .int p2)] := hl
  have iX5 : ∀ w ∈ wsX50, w ∈ wsX5_nextOf := fun _ h => List.mem_cons_of_mem _ (List.mem_append_right _ h)
  have k18 := hts (.fieldLink RX5 18 "HaltingDecider$Machine" "following" "[I") (List.mem_of_getElem? (i := 1) (by decide +kernel))
  obtain ⟨H, hH⟩ : ∃ H, H = s.heap := ⟨_, rfl⟩
  obtain ⟨locs, hlo⟩ : ∃ z : List Loc, z = [] := ⟨_, rfl⟩
  have hS0 := hS
  rw [← hH] at hP ⊢
  rw [← hlo]
  replace hS : va_S A s.heap H locs := by rw [hH, hlo]; exact hS0
  refine lv_aload_n hx hb dX5_nextOf_0 rfl (lv_at hl 0 rfl) ?_
  refine lv_iload_n hx hb dX5_nextOf_1 rfl (lv_at hl 1 rfl) ?_
  refine lv_iload_n hx hb dX5_nextOf_2 rfl (lv_at hl 2 rfl) ?_
  refine call_iV (As := [.int p1, .int p2]) (rest := []) (wr := [(h_this_following, .inl (cy.1, 10, .inl v_following))]) ⟨hx, hb, hml, hown, hts⟩ (mX5_slotOf l D cy h_this h_this_written h_this_moved h_this_following v_count p1 p2 _ h) (cwV 2 hts gX5_nextOf_X5_slotOf rfl rfl rfl hdV_X5_slotOf ⟨Nat.le_of_ble_eq_true rfl, Nat.le_of_ble_eq_true rfl⟩) hP hK hN hD hS hA [0] [1] rfl rfl (by decide) (by decide) (by decide) (ci := 5) rfl rfl rfl rfl hl.1 rfl (Nat.le_of_ble_eq_true rfl) dX5_nextOf_3 ⟨Nat.le_of_ble_eq_true rfl, Nat.le_of_ble_eq_true rfl⟩ (fun r1 u2 H locs h hP hD hS => ?_)
  have hP : va_P D vwCl [(h_this_following, .inl (cy.1, 10, .inl v_following)), (h_this, .inr (5, [.int v_count, .ref h_this_written, .ref h_this_moved, .ref h_this_following]))] H := hP
  have hD : va_D A [(h_this_following, .inl (cy.1, 10, .inl v_following)), (h_this, .inr (5, [.int v_count, .ref h_this_written, .ref h_this_moved, .ref h_this_following]))] := hD
  refine lv_istore_n (lv' := [(3, .int r1), (0, .ref h_this), (1, .int p1), (2, .int p2)]) hx hb dX5_nextOf_6 rfl hl (by decide) rfl (fun ls hl => ?_)
  refine lv_iload_n hx hb dX5_nextOf_7 rfl (lv_at hl 0 rfl) ?_
  refine lv_iconst (v := (-1)) hx hb dX5_nextOf_8 (by decide) ?_
  refine lv_icmp_ne (tgt := 16) hx hb dX5_nextOf_9 (by decide) (fun c3 => ?_) (fun c3 => ?_)
  · replace h := h.1 c3
    refine lv_aload_n hx hb dX5_nextOf_16 rfl (lv_at hl 1 rfl) ?_
    refine va_get (D := D) (ci := 5) (v := .ref h_this_following) (C := RX5) (T := TX5) (N := 4) hx hb hts iX5 hown hK hP 1 rfl rfl 3 (by decide) k18 (fun _ h9 => h9) rfl dX5_nextOf_17 ?_
    refine lv_iload_n hx hb dX5_nextOf_20 rfl (lv_at hl 0 rfl) ?_
    have b4 := h.1
    replace h := h.2
    refine va_iald hx hb hK hP 0 0 rfl rfl b4 dX5_nextOf_21 ?_
    exact RT 22 H locs ls (v_following r1.toNatClampNeg) () dX5_nextOf_22 h (hP.sub [1, 0] rfl) (hD.sub [1, 0] (by decide) rfl) hS
  · replace h := h.2 c3
    refine lv_iconst (v := (-1)) hx hb dX5_nextOf_12 (by decide) ?_
    refine lv_goto (tgt := 22) hx hb dX5_nextOf_13 (by decide) ?_
    exact RT 22 H locs ls (-1) () dX5_nextOf_22 h (hP.sub [1, 0] rfl) (hD.sub [1, 0] (by decide) rfl) hS
def pX5_has (p1 : Int32) (p2 : Int32) (v_count : Int32) (v_following : Nat → Int32) (Q : Int32 → Prop) : Prop :=
  pX5_nextOf p1 p2 v_count v_following (fun r1 => ((r1 = (-1) → Q 0) ∧ (¬ r1 = (-1) → Q 1)))
abbrev rmX5_has : Room := { frames := 2, cells := 0, slots := 0, locals := 46 }
theorem hdV_X5_nextOf : yX5_nextOf.cls = RX5 ∧ yX5_nextOf.cls ≠ "java/lang/invoke/MethodHandle" ∧ yX5_nextOf.cls ≠ "java/lang/invoke/VarHandle" ∧ (parseMethodDescriptor yX5_nextOf.desc).map (fun d => d.parameters.length) = some 2 := by decide +kernel
set_option maxHeartbeats 4000000 in
set_option maxRecDepth 100000 in
theorem mX5_has (l : Launch) (D : va_G) (cy : Cy) (h_this : Nat) (h_this_written : Nat) (h_this_moved : Nat) (h_this_following : Nat) (v_count : Int32) (v_following : Nat → Int32) (p1 : Int32) (p2 : Int32) (Q : Int32 → Prop) (h : pX5_has p1 p2 v_count v_following Q) : Ci l yX5_has wsX5_has rmX5_has D cy [(h_this, .inr (5, [.int v_count, .ref h_this_written, .ref h_this_moved, .ref h_this_following])), (h_this_following, .inl (cy.1, 10, .inl v_following))] [.ref h_this, .int p1, .int p2] (fun (r : Int32) (_ : Unit) => Q r) (fun (_ : Unit) => [(h_this, .inr (5, [.int v_count, .ref h_this_written, .ref h_this_moved, .ref h_this_following])), (h_this_following, .inl (cy.1, 10, .inl v_following))]) := by
  refine of_z (cc := cX5_has) (maxL := 3) (by decide) rfl (Nat.le_of_ble_eq_true rfl) ?_
  intro p e s m args below meth c A ls QQ T0 RT hP hD hS hl
  obtain ⟨hx, hb, hr, hts, hown, hlocks, hml, hin, hK, hN, hA⟩ := T0
  have hown : s.vm.findClass RX5 = some m.cls := hown
  have hl : lv_has ls 3 [(0, .ref h_this), (1, .int p1), (2, .int p2)] := hl
  obtain ⟨H, hH⟩ : ∃ H, H = s.heap := ⟨_, rfl⟩
  obtain ⟨locs, hlo⟩ : ∃ z : List Loc, z = [] := ⟨_, rfl⟩
  have hS0 := hS
  rw [← hH] at hP ⊢
  rw [← hlo]
  replace hS : va_S A s.heap H locs := by rw [hH, hlo]; exact hS0
  refine lv_aload_n hx hb dX5_has_0 rfl (lv_at hl 0 rfl) ?_
  refine lv_iload_n hx hb dX5_has_1 rfl (lv_at hl 1 rfl) ?_
  refine lv_iload_n hx hb dX5_has_2 rfl (lv_at hl 2 rfl) ?_
  refine call_iV (As := [.int p1, .int p2]) (rest := []) (wr := []) ⟨hx, hb, hml, hown, hts⟩ (mX5_nextOf l D cy h_this h_this_written h_this_moved h_this_following v_count v_following p1 p2 _ h) (cwV 2 hts gX5_has_X5_nextOf rfl rfl rfl hdV_X5_nextOf ⟨Nat.le_of_ble_eq_true rfl, Nat.le_of_ble_eq_true rfl⟩) hP hK hN hD hS hA [0, 1] [] rfl rfl (by decide) (by decide) (by decide) (ci := 5) rfl rfl rfl rfl hl.1 rfl (Nat.le_of_ble_eq_true rfl) dX5_has_3 ⟨Nat.le_of_ble_eq_true rfl, Nat.le_of_ble_eq_true rfl⟩ (fun r1 u2 H locs h hP hD hS => ?_)
  have hP : va_P D vwCl [(h_this, .inr (5, [.int v_count, .ref h_this_written, .ref h_this_moved, .ref h_this_following])), (h_this_following, .inl (cy.1, 10, .inl v_following))] H := hP
  have hD : va_D A [(h_this, .inr (5, [.int v_count, .ref h_this_written, .ref h_this_moved, .ref h_this_following])), (h_this_following, .inl (cy.1, 10, .inl v_following))] := hD
  refine lv_iconst (v := (-1)) hx hb dX5_has_6 (by decide) ?_
  refine lv_icmp_eq (tgt := 14) hx hb dX5_has_7 (by decide) (fun c3 => ?_) (fun c3 => ?_)
  · replace h := h.1 c3
    refine lv_iconst (v := 0) hx hb dX5_has_14 (by decide) ?_
    exact RT 15 H locs ls 0 () dX5_has_15 isB_0 h (hP.sub [0, 1] rfl) (hD.sub [0, 1] (by decide) rfl) hS
  · replace h := h.2 c3
    refine lv_iconst (v := 1) hx hb dX5_has_10 (by decide) ?_
    refine lv_goto (tgt := 15) hx hb dX5_has_11 (by decide) ?_
    exact RT 15 H locs ls 1 () dX5_has_15 isB_1 h (hP.sub [0, 1] rfl) (hD.sub [0, 1] (by decide) rfl) hS
def pX2_isOver (n_this_tape : Nat) (v_tape_radius : Int32) (v_tape_words : Nat → Int32) (v_state : Int32) (v_head : Int32) (v_a1_count : Int32) (v_a1_following : Nat → Int32) (Q : Int32 → Prop) : Prop :=
  ((v_state = 9 → Q 1) ∧ (¬ v_state = 9 → pX6_read n_this_tape v_head v_tape_radius v_tape_words (fun r2 => pX5_has v_state r2 v_a1_count v_a1_following (fun r4 => ((¬ r4 = 0 → Q 0) ∧ (r4 = 0 → Q 1))))))
abbrev rmX2_isOver : Room := { frames := 3, cells := 0, slots := 0, locals := 68 }
theorem hdV_X5_has : yX5_has.cls = RX5 ∧ yX5_has.cls ≠ "java/lang/invoke/MethodHandle" ∧ yX5_has.cls ≠ "java/lang/invoke/VarHandle" ∧ (parseMethodDescriptor yX5_has.desc).map (fun d => d.parameters.length) = some 2 := by decide +kernel
theorem hdV_X6_read : yX6_read.cls = RX6 ∧ yX6_read.cls ≠ "java/lang/invoke/MethodHandle" ∧ yX6_read.cls ≠ "java/lang/invoke/VarHandle" ∧ (parseMethodDescriptor yX6_read.desc).map (fun d => d.parameters.length) = some 1 := by decide +kernel
set_option maxHeartbeats 4000000 in
set_option maxRecDepth 100000 in
theorem mX2_isOver (l : Launch) (D : va_G) (cy : Cy) (h_this : Nat) (h_a1 : Nat) (h_this_tape : Nat) (h_this_tape_words : Nat) (h_a1_written : Nat) (h_a1_moved : Nat) (h_a1_following : Nat) (n_this_tape : Nat) (v_state : Int32) (v_head : Int32) (v_time : Int32) (v_lowest : Int32) (v_highest : Int32) (v_tape_radius : Int32) (v_tape_words : Nat → Int32) (v_a1_count : Int32) (v_a1_following : Nat → Int32) (Q : Int32 → Prop) (h : pX2_isOver n_this_tape v_tape_radius v_tape_words v_state v_head v_a1_count v_a1_following Q) : Ci l yX2_isOver wsX2_isOver rmX2_isOver D cy [(h_this, .inr (2, [.ref h_this_tape, .int v_state, .int v_head, .int v_time, .int v_lowest, .int v_highest])), (h_this_tape, .inr (6, [.int v_tape_radius, .ref h_this_tape_words])), (h_this_tape_words, .inl (cy.1, n_this_tape, .inl v_tape_words)), (h_a1, .inr (5, [.int v_a1_count, .ref h_a1_written, .ref h_a1_moved, .ref h_a1_following])), (h_a1_following, .inl (cy.1, 10, .inl v_a1_following))] [.ref h_this, .ref h_a1] (fun (r : Int32) (_ : Unit) => Q r) (fun (_ : Unit) => [(h_this, .inr (2, [.ref h_this_tape, .int v_state, .int v_head, .int v_time, .int v_lowest, .int v_highest])), (h_this_tape, .inr (6, [.int v_tape_radius, .ref h_this_tape_words])), (h_this_tape_words, .inl (cy.1, n_this_tape, .inl v_tape_words)), (h_a1, .inr (5, [.int v_a1_count, .ref h_a1_written, .ref h_a1_moved, .ref h_a1_following])), (h_a1_following, .inl (cy.1, 10, .inl v_a1_following))]) := by
  refine of_z (cc := cX2_isOver) (maxL := 2) (by decide) rfl (Nat.le_of_ble_eq_true rfl) ?_
  intro p e s m args below meth c A ls QQ T0 RT hP hD hS hl
  obtain ⟨hx, hb, hr, hts, hown, hlocks, hml, hin, hK, hN, hA⟩ := T0
  have hown : s.vm.findClass RX2 = some m.cls := hown
  have hl : lv_has ls 2 [(0, .ref h_this), (1, .ref h_a1)] := hl
  have iX2 : ∀ w ∈ wsX20, w ∈ wsX2_isOver := fun _ h => List.mem_cons_of_mem _ (List.mem_append_left _ (List.mem_append_left _ (List.mem_append_right _ h)))
  have k26 := hts (.fieldLink RX2 26 "HaltingDecider$Configuration" "state" "I") (List.mem_of_getElem? (i := 1) (by decide +kernel))
  have k14 := hts (.fieldLink RX2 14 "HaltingDecider$Configuration" "tape" "LHaltingDecider$Tape;") (List.mem_of_getElem? (i := 2) (by decide +kernel))
  have k30 := hts (.fieldLink RX2 30 "HaltingDecider$Configuration" "head" "I") (List.mem_of_getElem? (i := 3) (by decide +kernel))
  obtain ⟨H, hH⟩ : ∃ H, H = s.heap := ⟨_, rfl⟩
  obtain ⟨locs, hlo⟩ : ∃ z : List Loc, z = [] := ⟨_, rfl⟩
  have hS0 := hS
  rw [← hH] at hP ⊢
  rw [← hlo]
  replace hS : va_S A s.heap H locs := by rw [hH, hlo]; exact hS0
  refine lv_aload_n hx hb dX2_isOver_0 rfl (lv_at hl 0 rfl) ?_
  refine va_get (D := D) (ci := 2) (v := .int v_state) (C := RX2) (T := TX2) (N := 6) hx hb hts iX2 hown hK hP 0 rfl rfl 1 (by decide) k26 (fun _ h9 => h9) rfl dX2_isOver_1 ?_
  refine lv_bipush (v := 9) hx hb dX2_isOver_4 (by decide) ?_
  refine lv_icmp_eq (tgt := 31) hx hb dX2_isOver_6 (by decide) (fun c1 => ?_) (fun c1 => ?_)
  · replace h := h.1 c1
    refine lv_iconst (v := 1) hx hb dX2_isOver_31 (by decide) ?_
    refine lv_goto (tgt := 36) hx hb dX2_isOver_32 (by decide) ?_
    exact RT 36 H locs ls 1 () dX2_isOver_36 isB_1 h (hP.sub [0, 1, 2, 3, 4] rfl) (hD.sub [0, 1, 2, 3, 4] (by decide) rfl) hS
  · replace h := h.2 c1
    refine lv_aload_n hx hb dX2_isOver_9 rfl (lv_at hl 1 rfl) ?_
    refine lv_aload_n hx hb dX2_isOver_10 rfl (lv_at hl 0 rfl) ?_
    refine va_get (D := D) (ci := 2) (v := .int v_state) (C := RX2) (T := TX2) (N := 6) hx hb hts iX2 hown hK hP 0 rfl rfl 1 (by decide) k26 (fun _ h9 => h9) rfl dX2_isOver_11 ?_
    refine lv_aload_n hx hb dX2_isOver_14 rfl (lv_at hl 0 rfl) ?_
    refine va_get (D := D) (ci := 2) (v := .ref h_this_tape) (C := RX2) (T := TX2) (N := 6) hx hb hts iX2 hown hK hP 0 rfl rfl 0 (by decide) k14 (fun _ h9 => h9) rfl dX2_isOver_15 ?_
    refine lv_aload_n hx hb dX2_isOver_18 rfl (lv_at hl 0 rfl) ?_
    refine va_get (D := D) (ci := 2) (v := .int v_head) (C := RX2) (T := TX2) (N := 6) hx hb hts iX2 hown hK hP 0 rfl rfl 2 (by decide) k30 (fun _ h9 => h9) rfl dX2_isOver_19 ?_
    refine call_iV (As := [.int v_head]) (rest := [.int v_state, .ref h_a1]) (wr := [(h_this, .inr (2, [.ref h_this_tape, .int v_state, .int v_head, .int v_time, .int v_lowest, .int v_highest])), (h_a1, .inr (5, [.int v_a1_count, .ref h_a1_written, .ref h_a1_moved, .ref h_a1_following])), (h_a1_following, .inl (cy.1, 10, .inl v_a1_following))]) ⟨hx, hb, hml, hown, hts⟩ (mX6_read l D cy h_this_tape h_this_tape_words n_this_tape v_tape_radius v_tape_words v_head _ h) (cwV 1 hts gX2_isOver_X6_read rfl rfl rfl hdV_X6_read ⟨Nat.le_of_ble_eq_true rfl, Nat.le_of_ble_eq_true rfl⟩) hP hK hN hD hS hA [1, 2] [0, 3, 4] rfl rfl (by decide) (by decide) (by decide) (ci := 6) rfl rfl rfl rfl hl.1 rfl (Nat.le_of_ble_eq_true rfl) dX2_isOver_22 ⟨Nat.le_of_ble_eq_true rfl, Nat.le_of_ble_eq_true rfl⟩ (fun r2 u3 H locs h hP hD hS => ?_)
    have hP : va_P D vwCl [(h_this, .inr (2, [.ref h_this_tape, .int v_state, .int v_head, .int v_time, .int v_lowest, .int v_highest])), (h_a1, .inr (5, [.int v_a1_count, .ref h_a1_written, .ref h_a1_moved, .ref h_a1_following])), (h_a1_following, .inl (cy.1, 10, .inl v_a1_following)), (h_this_tape, .inr (6, [.int v_tape_radius, .ref h_this_tape_words])), (h_this_tape_words, .inl (cy.1, n_this_tape, .inl v_tape_words))] H := hP
    have hD : va_D A [(h_this, .inr (2, [.ref h_this_tape, .int v_state, .int v_head, .int v_time, .int v_lowest, .int v_highest])), (h_a1, .inr (5, [.int v_a1_count, .ref h_a1_written, .ref h_a1_moved, .ref h_a1_following])), (h_a1_following, .inl (cy.1, 10, .inl v_a1_following)), (h_this_tape, .inr (6, [.int v_tape_radius, .ref h_this_tape_words])), (h_this_tape_words, .inl (cy.1, n_this_tape, .inl v_tape_words))] := hD
    refine call_iV (As := [.int v_state, .int r2]) (rest := []) (wr := [(h_this, .inr (2, [.ref h_this_tape, .int v_state, .int v_head, .int v_time, .int v_lowest, .int v_highest])), (h_this_tape, .inr (6, [.int v_tape_radius, .ref h_this_tape_words])), (h_this_tape_words, .inl (cy.1, n_this_tape, .inl v_tape_words))]) ⟨hx, hb, hml, hown, hts⟩ (mX5_has l D cy h_a1 h_a1_written h_a1_moved h_a1_following v_a1_count v_a1_following v_state r2 _ h) (cwV 2 hts gX2_isOver_X5_has rfl rfl rfl hdV_X5_has ⟨Nat.le_of_ble_eq_true rfl, Nat.le_of_ble_eq_true rfl⟩) hP hK hN hD hS hA [1, 2] [0, 3, 4] rfl rfl (by decide) (by decide) (by decide) (ci := 5) rfl rfl rfl rfl hl.1 rfl (Nat.le_of_ble_eq_true rfl) dX2_isOver_25 ⟨Nat.le_of_ble_eq_true rfl, Nat.le_of_ble_eq_true rfl⟩ (fun r4 u5 H locs h hP hD hS => ?_)
    have hP : va_P D vwCl [(h_this, .inr (2, [.ref h_this_tape, .int v_state, .int v_head, .int v_time, .int v_lowest, .int v_highest])), (h_this_tape, .inr (6, [.int v_tape_radius, .ref h_this_tape_words])), (h_this_tape_words, .inl (cy.1, n_this_tape, .inl v_tape_words)), (h_a1, .inr (5, [.int v_a1_count, .ref h_a1_written, .ref h_a1_moved, .ref h_a1_following])), (h_a1_following, .inl (cy.1, 10, .inl v_a1_following))] H := hP
    have hD : va_D A [(h_this, .inr (2, [.ref h_this_tape, .int v_state, .int v_head, .int v_time, .int v_lowest, .int v_highest])), (h_this_tape, .inr (6, [.int v_tape_radius, .ref h_this_tape_words])), (h_this_tape_words, .inl (cy.1, n_this_tape, .inl v_tape_words)), (h_a1, .inr (5, [.int v_a1_count, .ref h_a1_written, .ref h_a1_moved, .ref h_a1_following])), (h_a1_following, .inl (cy.1, 10, .inl v_a1_following))] := hD
    refine lv_if_ne (tgt := 35) hx hb dX2_isOver_28 (by decide) (fun c6 => ?_) (fun c6 => ?_)
    · replace h := h.1 c6
      refine lv_iconst (v := 0) hx hb dX2_isOver_35 (by decide) ?_
      exact RT 36 H locs ls 0 () dX2_isOver_36 isB_0 h (hP.sub [0, 1, 2, 3, 4] rfl) (hD.sub [0, 1, 2, 3, 4] (by decide) rfl) hS
    · replace h := h.2 c6
      refine lv_iconst (v := 1) hx hb dX2_isOver_31 (by decide) ?_
      refine lv_goto (tgt := 36) hx hb dX2_isOver_32 (by decide) ?_
      exact RT 36 H locs ls 1 () dX2_isOver_36 isB_1 h (hP.sub [0, 1, 2, 3, 4] rfl) (hD.sub [0, 1, 2, 3, 4] (by decide) rfl) hS
def pX5_writtenBy (p1 : Int32) (p2 : Int32) (v_count : Int32) (v_written : Nat → Int32) (Q : Int32 → Prop) : Prop :=
  pX5_slotOf p1 p2 v_count (fun r1 => ((¬ r1 = (-1) → (vp_in r1 10 ∧ Q (v_written r1.toNatClampNeg))) ∧ (r1 = (-1) → Q 0)))
abbrev rmX5_writtenBy : Room := { frames := 1, cells := 0, slots := 0, locals := 23 }
set_option maxHeartbeats 4000000 in
set_option maxRecDepth 100000 in
theorem mX5_writtenBy (l : Launch) (D : va_G) (cy : Cy) (h_this : Nat) (h_this_written : Nat) (h_this_moved : Nat) (h_this_following : Nat) (v_count : Int32) (v_written : Nat → Int32) (p1 : Int32) (p2 : Int32) (Q : Int32 → Prop) (h : pX5_writtenBy p1 p2 v_count v_written Q) : Ci l yX5_writtenBy wsX5_writtenBy rmX5_writtenBy D cy [(h_this, .inr (5, [.int v_count, .ref h_this_written, .ref h_this_moved, .ref h_this_following])), (h_this_written, .inl (cy.1, 10, .inl v_written))] [.ref h_this, .int p1, .int p2] (fun (r : Int32) (_ : Unit) => Q r) (fun (_ : Unit) => [(h_this, .inr (5, [.int v_count, .ref h_this_written, .ref h_this_moved, .ref h_this_following])), (h_this_written, .inl (cy.1, 10, .inl v_written))]) := by
  refine of_i (cc := cX5_writtenBy) (maxL := 4) (by decide) rfl (Nat.le_of_ble_eq_true rfl) ?_
  intro p e s m args below meth c A ls QQ T0 RT hP hD hS hl
  obtain ⟨hx, hb, hr, hts, hown, hlocks, hml, hin, hK, hN, hA⟩ := T0
  have hown : s.vm.findClass RX5 = some m.cls := hown
  have hl : lv_has ls 4 [(0, .ref h_this), (1, .int p1), (2, .int p2)] := hl
  have iX5 : ∀ w ∈ wsX50, w ∈ wsX5_writtenBy := fun _ h => List.mem_cons_of_mem _ (List.mem_append_right _ h)
  have k9 := hts (.fieldLink RX5 9 "HaltingDecider$Machine" "written" "[I") (List.mem_of_getElem? (i := 1) (by decide +kernel))
  obtain ⟨H, hH⟩ : ∃ H, H = s.heap := ⟨_, rfl⟩
  obtain ⟨locs, hlo⟩ : ∃ z : List Loc, z = [] := ⟨_, rfl⟩
  have hS0 := hS
  rw [← hH] at hP ⊢
  rw [← hlo]
  replace hS : va_S A s.heap H locs := by rw [hH, hlo]; exact hS0
  refine lv_aload_n hx hb dX5_writtenBy_0 rfl (lv_at hl 0 rfl) ?_
  refine lv_iload_n hx hb dX5_writtenBy_1 rfl (lv_at hl 1 rfl) ?_
  refine lv_iload_n hx hb dX5_writtenBy_2 rfl (lv_at hl 2 rfl) ?_
  refine call_iV (As := [.int p1, .int p2]) (rest := []) (wr := [(h_this_written, .inl (cy.1, 10, .inl v_written))]) ⟨hx, hb, hml, hown, hts⟩ (mX5_slotOf l D cy h_this h_this_written h_this_moved h_this_following v_count p1 p2 _ h) (cwV 2 hts gX5_writtenBy_X5_slotOf rfl rfl rfl hdV_X5_slotOf ⟨Nat.le_of_ble_eq_true rfl, Nat.le_of_ble_eq_true rfl⟩) hP hK hN hD hS hA [0] [1] rfl rfl (by decide) (by decide) (by decide) (ci := 5) rfl rfl rfl rfl hl.1 rfl (Nat.le_of_ble_eq_true rfl) dX5_writtenBy_3 ⟨Nat.le_of_ble_eq_true rfl, Nat.le_of_ble_eq_true rfl⟩ (fun r1 u2 H locs h hP hD hS => ?_)
  have hP : va_P D vwCl [(h_this_written, .inl (cy.1, 10, .inl v_written)), (h_this, .inr (5, [.int v_count, .ref h_this_written, .ref h_this_moved, .ref h_this_following]))] H := hP
  have hD : va_D A [(h_this_written, .inl (cy.1, 10, .inl v_written)), (h_this, .inr (5, [.int v_count, .ref h_this_written, .ref h_this_moved, .ref h_this_following]))] := hD
  refine lv_istore_n (lv' := [(3, .int r1), (0, .ref h_this), (1, .int p1), (2, .int p2)]) hx hb dX5_writtenBy_6 rfl hl (by decide) rfl (fun ls hl => ?_)
  refine lv_iload_n hx hb dX5_writtenBy_7 rfl (lv_at hl 0 rfl) ?_
  refine lv_iconst (v := (-1)) hx hb dX5_writtenBy_8 (by decide) ?_
  refine lv_icmp_ne (tgt := 16) hx hb dX5_writtenBy_9 (by decide) (fun c3 => ?_) (fun c3 => ?_)
  · replace h := h.1 c3
    refine lv_aload_n hx hb dX5_writtenBy_16 rfl (lv_at hl 1 rfl) ?_
    refine va_get (D := D) (ci := 5) (v := .ref h_this_written) (C := RX5) (T := TX5) (N := 4) hx hb hts iX5 hown hK hP 1 rfl rfl 1 (by decide) k9 (fun _ h9 => h9) rfl dX5_writtenBy_17 ?_
    refine lv_iload_n hx hb dX5_writtenBy_20 rfl (lv_at hl 0 rfl) ?_
    have b4 := h.1
    replace h := h.2
    refine va_iald hx hb hK hP 0 0 rfl rfl b4 dX5_writtenBy_21 ?_
    exact RT 22 H locs ls (v_written r1.toNatClampNeg) () dX5_writtenBy_22 h (hP.sub [1, 0] rfl) (hD.sub [1, 0] (by decide) rfl) hS
  · replace h := h.2 c3
    refine lv_iconst (v := 0) hx hb dX5_writtenBy_12 (by decide) ?_
    refine lv_goto (tgt := 22) hx hb dX5_writtenBy_13 (by decide) ?_
    exact RT 22 H locs ls 0 () dX5_writtenBy_22 h (hP.sub [1, 0] rfl) (hD.sub [1, 0] (by decide) rfl) hS
def pX6_write (n_this : Nat) (p1 : Int32) (p2 : Int32) (v_radius : Int32) (v_words : Nat → Int32) (Q : (Nat → Int32) → Prop) : Prop :=
  ((p1 < (-v_radius) → Q v_words) ∧ (¬ p1 < (-v_radius) → ((p1 ≤ v_radius → (∀ x3 : Int32, x3 = p1 + v_radius → (∀ x4 : Int32, x4 = (1 : Int32) <<< ((x3 &&& 31) &&& 31) → (∀ x5 : Int32, x5 = x3 >>> (5 &&& 31) → (((nI n_this) ≤ x5 → Q v_words) ∧ (¬ (nI n_this) ≤ x5 → ((¬ p2 = 1 → (vp_in x5 n_this ∧ (vp_in x5 n_this ∧ Q (upd v_words x5.toNatClampNeg ((v_words x5.toNatClampNeg) &&& (x4 ^^^ (-1))))))) ∧ (p2 = 1 → (vp_in x5 n_this ∧ (vp_in x5 n_this ∧ Q (upd v_words x5.toNatClampNeg ((v_words x5.toNatClampNeg) ||| x4)))))))))))) ∧ (¬ p1 ≤ v_radius → Q v_words))))
abbrev rmX6_write : Room := { frames := 0, cells := 0, slots := 0, locals := 0 }
set_option maxHeartbeats 4000000 in
set_option maxRecDepth 100000 in
theorem mX6_write (l : Launch) (D : va_G) (cy : Cy) (h_this : Nat) (h_this_words : Nat) (n_this : Nat) (v_radius : Int32) (v_words : Nat → Int32) (p1 : Int32) (p2 : Int32) (Q : (Nat → Int32) → Prop) (h : pX6_write n_this p1 p2 v_radius v_words Q) : Cv l yX6_write wsX6_write rmX6_write 0 0 D cy [(h_this, .inr (6, [.int v_radius, .ref h_this_words])), (h_this_words, .inl (cy.1, n_this, .inl v_words))] [.ref h_this, .int p1, .int p2] (fun (u : (Nat → Int32)) => Q u) (fun (u : (Nat → Int32)) => [(h_this, .inr (6, [.int v_radius, .ref h_this_words])), (h_this_words, .inl (cy.1, n_this, .inl u))]) := by
  refine of_v (cc := cX6_write) (maxL := 6) (by decide) rfl (Nat.le_of_ble_eq_true rfl) ?_
  intro p e s m args below meth c A ls QQ T0 RT hP hD hS hl
  obtain ⟨hx, hb, hr, hts, hown, hlocks, hml, hin, hK, hN, hA⟩ := T0
  have hown : s.vm.findClass RX6 = some m.cls := hown
  have hl : lv_has ls 6 [(0, .ref h_this), (1, .int p1), (2, .int p2)] := hl
  have iX6 : ∀ w ∈ wsX60, w ∈ wsX6_write := fun _ h => List.mem_cons_of_mem _ (List.mem_append_right _ h)
  have k13 := hts (.fieldLink RX6 13 "HaltingDecider$Tape" "radius" "I") (List.mem_of_getElem? (i := 1) (by decide +kernel))
  have k23 := hts (.fieldLink RX6 23 "HaltingDecider$Tape" "words" "[I") (List.mem_of_getElem? (i := 2) (by decide +kernel))
  obtain ⟨H, hH⟩ : ∃ H, H = s.heap := ⟨_, rfl⟩
  obtain ⟨locs, hlo⟩ : ∃ z : List Loc, z = [] := ⟨_, rfl⟩
  have hS0 := hS
  rw [← hH] at hP ⊢
  rw [← hlo]
  replace hS : va_S A s.heap H locs := by rw [hH, hlo]; exact hS0
  refine lv_iload_n hx hb dX6_write_0 rfl (lv_at hl 1 rfl) ?_
  refine lv_aload_n hx hb dX6_write_1 rfl (lv_at hl 0 rfl) ?_
  refine va_get (D := D) (ci := 6) (v := .int v_radius) (C := RX6) (T := TX6) (N := 2) hx hb hts iX6 hown hK hP 0 rfl rfl 0 (by decide) k13 (fun _ h9 => h9) rfl dX6_write_2 ?_
  refine lv_ineg hx hb dX6_write_5 ?_
  refine lv_icmp_lt (tgt := 17) hx hb dX6_write_6 (by decide) (fun c1 => ?_) (fun c1 => ?_)
  · replace h := h.1 c1
    exact RT 17 H locs ls v_words dX6_write_17 h (hP.sub [0, 1] rfl) (hD.sub [0, 1] (by decide) rfl) hS
  · replace h := h.2 c1
    refine lv_iload_n hx hb dX6_write_9 rfl (lv_at hl 1 rfl) ?_
    refine lv_aload_n hx hb dX6_write_10 rfl (lv_at hl 0 rfl) ?_
    refine va_get (D := D) (ci := 6) (v := .int v_radius) (C := RX6) (T := TX6) (N := 2) hx hb hts iX6 hown hK hP 0 rfl rfl 0 (by decide) k13 (fun _ h9 => h9) rfl dX6_write_11 ?_
    refine lv_icmp_le (tgt := 18) hx hb dX6_write_14 (by decide) (fun c2 => ?_) (fun c2 => ?_)
    · replace h := h.1 c2
      refine lv_iload_n hx hb dX6_write_18 rfl (lv_at hl 1 rfl) ?_
      refine lv_aload_n hx hb dX6_write_19 rfl (lv_at hl 0 rfl) ?_
      refine va_get (D := D) (ci := 6) (v := .int v_radius) (C := RX6) (T := TX6) (N := 2) hx hb hts iX6 hown hK hP 0 rfl rfl 0 (by decide) k13 (fun _ h9 => h9) rfl dX6_write_20 ?_
      refine lv_iadd hx hb dX6_write_23 ?_
      refine lv_topi (fun x3 ex3 => ?_)
      replace h := h x3 ex3
      refine lv_istore_n (lv' := [(3, .int x3), (0, .ref h_this), (1, .int p1), (2, .int p2)]) hx hb dX6_write_24 rfl hl (by decide) rfl (fun ls hl => ?_)
      refine lv_iconst (v := 1) hx hb dX6_write_25 (by decide) ?_
      refine lv_iload_n hx hb dX6_write_26 rfl (lv_at hl 0 rfl) ?_
      refine lv_bipush (v := 31) hx hb dX6_write_27 (by decide) ?_
      refine lv_iand hx hb dX6_write_29 ?_
      refine lv_ishl hx hb dX6_write_30 ?_
      refine lv_topi (fun x4 ex4 => ?_)
      replace h := h x4 ex4
      refine lv_istore (lv' := [(4, .int x4), (3, .int x3), (0, .ref h_this), (1, .int p1), (2, .int p2)]) hx hb dX6_write_31 hl (by decide) rfl (fun ls hl => ?_)
      refine lv_iload_n hx hb dX6_write_33 rfl (lv_at hl 1 rfl) ?_
      refine lv_iconst (v := 5) hx hb dX6_write_34 (by decide) ?_
      refine lv_ishr hx hb dX6_write_35 ?_
      refine lv_topi (fun x5 ex5 => ?_)
      replace h := h x5 ex5
      refine lv_istore (lv' := [(5, .int x5), (4, .int x4), (3, .int x3), (0, .ref h_this), (1, .int p1), (2, .int p2)]) hx hb dX6_write_36 hl (by decide) rfl (fun ls hl => ?_)
      refine lv_iload hx hb dX6_write_38 (lv_at hl 0 rfl) ?_
      refine lv_aload_n hx hb dX6_write_40 rfl (lv_at hl 3 rfl) ?_
      refine va_get (D := D) (ci := 6) (v := .ref h_this_words) (C := RX6) (T := TX6) (N := 2) hx hb hts iX6 hown hK hP 0 rfl rfl 1 (by decide) k23 (fun _ h9 => h9) rfl dX6_write_41 ?_
      refine va_alen (v := nI n_this) hx hb hK hP 1 0 rfl rfl rfl dX6_write_44 ?_
      refine lv_icmp_ge (tgt := 85) hx hb dX6_write_45 (by decide) (fun c6 => ?_) (fun c6 => ?_)
      · replace h := h.1 c6
        exact RT 85 H locs ls v_words dX6_write_85 h (hP.sub [0, 1] rfl) (hD.sub [0, 1] (by decide) rfl) hS
      · replace h := h.2 c6
        refine lv_aload_n hx hb dX6_write_48 rfl (lv_at hl 3 rfl) ?_
        refine va_get (D := D) (ci := 6) (v := .ref h_this_words) (C := RX6) (T := TX6) (N := 2) hx hb hts iX6 hown hK hP 0 rfl rfl 1 (by decide) k23 (fun _ h9 => h9) rfl dX6_write_49 ?_
        refine lv_iload hx hb dX6_write_52 (lv_at hl 0 rfl) ?_
        refine lv_iload_n hx hb dX6_write_54 rfl (lv_at hl 5 rfl) ?_
        refine lv_iconst (v := 1) hx hb dX6_write_55 (by decide) ?_
        refine lv_icmp_ne (tgt := 72) hx hb dX6_write_56 (by decide) (fun c7 => ?_) (fun c7 => ?_)
        · replace h := h.1 c7
          refine lv_aload_n hx hb dX6_write_72 rfl (lv_at hl 3 rfl) ?_
          refine va_get (D := D) (ci := 6) (v := .ref h_this_words) (C := RX6) (T := TX6) (N := 2) hx hb hts iX6 hown hK hP 0 rfl rfl 1 (by decide) k23 (fun _ h9 => h9) rfl dX6_write_73 ?_
          refine lv_iload hx hb dX6_write_76 (lv_at hl 0 rfl) ?_
          have b8 := h.1
          replace h := h.2
          refine va_iald hx hb hK hP 1 0 rfl rfl b8 dX6_write_78 ?_
          refine lv_iload hx hb dX6_write_79 (lv_at hl 1 rfl) ?_
          refine lv_iconst (v := (-1)) hx hb dX6_write_81 (by decide) ?_
          refine lv_ixor hx hb dX6_write_82 ?_
          refine lv_iand hx hb dX6_write_83 ?_
          have b9 := h.1
          replace h := h.2
          refine va_iast hx hb hK hP hD hS 1 0 rfl rfl b9 dX6_write_84 (fun H locs hP hD hS => ?_)
          have hP : va_P D vwCl [(h_this, .inr (6, [.int v_radius, .ref h_this_words])), (h_this_words, .inl (cy.1, n_this, .inl (upd v_words x5.toNatClampNeg ((v_words x5.toNatClampNeg) &&& (x4 ^^^ (-1))))))] H := hP
          have hD : va_D A [(h_this, .inr (6, [.int v_radius, .ref h_this_words])), (h_this_words, .inl (cy.1, n_this, .inl (upd v_words x5.toNatClampNeg ((v_words x5.toNatClampNeg) &&& (x4 ^^^ (-1))))))] := hD
          exact RT 85 H locs ls (upd v_words x5.toNatClampNeg ((v_words x5.toNatClampNeg) &&& (x4 ^^^ (-1)))) dX6_write_85 h (hP.sub [0, 1] rfl) (hD.sub [0, 1] (by decide) rfl) hS
        · replace h := h.2 c7
          refine lv_aload_n hx hb dX6_write_59 rfl (lv_at hl 3 rfl) ?_
          refine va_get (D := D) (ci := 6) (v := .ref h_this_words) (C := RX6) (T := TX6) (N := 2) hx hb hts iX6 hown hK hP 0 rfl rfl 1 (by decide) k23 (fun _ h9 => h9) rfl dX6_write_60 ?_
          refine lv_iload hx hb dX6_write_63 (lv_at hl 0 rfl) ?_
          have b10 := h.1
          replace h := h.2
          refine va_iald hx hb hK hP 1 0 rfl rfl b10 dX6_write_65 ?_
          refine lv_iload hx hb dX6_write_66 (lv_at hl 1 rfl) ?_
          refine lv_ior hx hb dX6_write_68 ?_
          refine lv_goto (tgt := 84) hx hb dX6_write_69 (by decide) ?_
          have b11 := h.1
          replace h := h.2
          refine va_iast hx hb hK hP hD hS 1 0 rfl rfl b11 dX6_write_84 (fun H locs hP hD hS => ?_)
          have hP : va_P D vwCl [(h_this, .inr (6, [.int v_radius, .ref h_this_words])), (h_this_words, .inl (cy.1, n_this, .inl (upd v_words x5.toNatClampNeg ((v_words x5.toNatClampNeg) ||| x4))))] H := hP
          have hD : va_D A [(h_this, .inr (6, [.int v_radius, .ref h_this_words])), (h_this_words, .inl (cy.1, n_this, .inl (upd v_words x5.toNatClampNeg ((v_words x5.toNatClampNeg) ||| x4))))] := hD
          exact RT 85 H locs ls (upd v_words x5.toNatClampNeg ((v_words x5.toNatClampNeg) ||| x4)) dX6_write_85 h (hP.sub [0, 1] rfl) (hD.sub [0, 1] (by decide) rfl) hS
    · replace h := h.2 c2
      exact RT 17 H locs ls v_words dX6_write_17 h (hP.sub [0, 1] rfl) (hD.sub [0, 1] (by decide) rfl) hS
def pX5_moveOf (p1 : Int32) (p2 : Int32) (v_count : Int32) (v_moved : Nat → Int32) (Q : Int32 → Prop) : Prop :=
  pX5_slotOf p1 p2 v_count (fun r1 => ((¬ r1 = (-1) → (vp_in r1 10 ∧ Q (v_moved r1.toNatClampNeg))) ∧ (r1 = (-1) → Q 0)))
abbrev rmX5_moveOf : Room := { frames := 1, cells := 0, slots := 0, locals := 23 }
set_option maxHeartbeats 4000000 in
set_option maxRecDepth 100000 in
theorem mX5_moveOf (l : Launch) (D : va_G) (cy : Cy) (h_this : Nat) (h_this_written : Nat) (h_this_moved : Nat) (h_this_following : Nat) (v_count : Int32) (v_moved : Nat → Int32) (p1 : Int32) (p2 : Int32) (Q : Int32 → Prop) (h : pX5_moveOf p1 p2 v_count v_moved Q) : Ci l yX5_moveOf wsX5_moveOf rmX5_moveOf D cy [(h_this, .inr (5, [.int v_count, .ref h_this_written, .ref h_this_moved, .ref h_this_following])), (h_this_moved, .inl (cy.1, 10, .inl v_moved))] [.ref h_this, .int p1, .int p2] (fun (r : Int32) (_ : Unit) => Q r) (fun (_ : Unit) => [(h_this, .inr (5, [.int v_count, .ref h_this_written, .ref h_this_moved, .ref h_this_following])), (h_this_moved, .inl (cy.1, 10, .inl v_moved))]) := by
  refine of_i (cc := cX5_moveOf) (maxL := 4) (by decide) rfl (Nat.le_of_ble_eq_true rfl) ?_
  intro p e s m args below meth c A ls QQ T0 RT hP hD hS hl
  obtain ⟨hx, hb, hr, hts, hown, hlocks, hml, hin, hK, hN, hA⟩ := T0
  have hown : s.vm.findClass RX5 = some m.cls := hown
  have hl : lv_has ls 4 [(0, .ref h_this), (1, .int p1), (2, .int p2)] := hl
  have iX5 : ∀ w ∈ wsX50, w ∈ wsX5_moveOf := fun _ h => List.mem_cons_of_mem _ (List.mem_append_right _ h)
  have k15 := hts (.fieldLink RX5 15 "HaltingDecider$Machine" "moved" "[I") (List.mem_of_getElem? (i := 1) (by decide +kernel))
  obtain ⟨H, hH⟩ : ∃ H, H = s.heap := ⟨_, rfl⟩
  obtain ⟨locs, hlo⟩ : ∃ z : List Loc, z = [] := ⟨_, rfl⟩
  have hS0 := hS
  rw [← hH] at hP ⊢
  rw [← hlo]
  replace hS : va_S A s.heap H locs := by rw [hH, hlo]; exact hS0
  refine lv_aload_n hx hb dX5_moveOf_0 rfl (lv_at hl 0 rfl) ?_
  refine lv_iload_n hx hb dX5_moveOf_1 rfl (lv_at hl 1 rfl) ?_
  refine lv_iload_n hx hb dX5_moveOf_2 rfl (lv_at hl 2 rfl) ?_
  refine call_iV (As := [.int p1, .int p2]) (rest := []) (wr := [(h_this_moved, .inl (cy.1, 10, .inl v_moved))]) ⟨hx, hb, hml, hown, hts⟩ (mX5_slotOf l D cy h_this h_this_written h_this_moved h_this_following v_count p1 p2 _ h) (cwV 2 hts gX5_moveOf_X5_slotOf rfl rfl rfl hdV_X5_slotOf ⟨Nat.le_of_ble_eq_true rfl, Nat.le_of_ble_eq_true rfl⟩) hP hK hN hD hS hA [0] [1] rfl rfl (by decide) (by decide) (by decide) (ci := 5) rfl rfl rfl rfl hl.1 rfl (Nat.le_of_ble_eq_true rfl) dX5_moveOf_3 ⟨Nat.le_of_ble_eq_true rfl, Nat.le_of_ble_eq_true rfl⟩ (fun r1 u2 H locs h hP hD hS => ?_)
  have hP : va_P D vwCl [(h_this_moved, .inl (cy.1, 10, .inl v_moved)), (h_this, .inr (5, [.int v_count, .ref h_this_written, .ref h_this_moved, .ref h_this_following]))] H := hP
  have hD : va_D A [(h_this_moved, .inl (cy.1, 10, .inl v_moved)), (h_this, .inr (5, [.int v_count, .ref h_this_written, .ref h_this_moved, .ref h_this_following]))] := hD
  refine lv_istore_n (lv' := [(3, .int r1), (0, .ref h_this), (1, .int p1), (2, .int p2)]) hx hb dX5_moveOf_6 rfl hl (by decide) rfl (fun ls hl => ?_)
  refine lv_iload_n hx hb dX5_moveOf_7 rfl (lv_at hl 0 rfl) ?_
  refine lv_iconst (v := (-1)) hx hb dX5_moveOf_8 (by decide) ?_
  refine lv_icmp_ne (tgt := 16) hx hb dX5_moveOf_9 (by decide) (fun c3 => ?_) (fun c3 => ?_)
  · replace h := h.1 c3
    refine lv_aload_n hx hb dX5_moveOf_16 rfl (lv_at hl 1 rfl) ?_
    refine va_get (D := D) (ci := 5) (v := .ref h_this_moved) (C := RX5) (T := TX5) (N := 4) hx hb hts iX5 hown hK hP 1 rfl rfl 2 (by decide) k15 (fun _ h9 => h9) rfl dX5_moveOf_17 ?_
    refine lv_iload_n hx hb dX5_moveOf_20 rfl (lv_at hl 0 rfl) ?_
    have b4 := h.1
    replace h := h.2
    refine va_iald hx hb hK hP 0 0 rfl rfl b4 dX5_moveOf_21 ?_
    exact RT 22 H locs ls (v_moved r1.toNatClampNeg) () dX5_moveOf_22 h (hP.sub [1, 0] rfl) (hD.sub [1, 0] (by decide) rfl) hS
  · replace h := h.2 c3
    refine lv_iconst (v := 0) hx hb dX5_moveOf_12 (by decide) ?_
    refine lv_goto (tgt := 22) hx hb dX5_moveOf_13 (by decide) ?_
    exact RT 22 H locs ls 0 () dX5_moveOf_22 h (hP.sub [1, 0] rfl) (hD.sub [1, 0] (by decide) rfl) hS
def pX2_advance_j55 (n_this_tape : Nat) (v_tape_radius : Int32) (v_a1_count : Int32) (v_a1_written : Nat → Int32) (v_a1_moved : Nat → Int32) (v_a1_following : Nat → Int32) (Q : (Nat → Int32) → Int32 → Int32 → Int32 → Int32 → Int32 → Prop) (l2 : Int32) (s1 : Int32) (s2 : Int32) (w_tape_words : Nat → Int32) (w_state : Int32) (w_head : Int32) (w_time : Int32) (w_lowest : Int32) (w_highest : Int32) : Prop :=
  (∀ x9 : Int32, x9 = s1 + s2 → pX5_nextOf w_state l2 v_a1_count v_a1_following (fun r10 => (∀ x12 : Int32, x12 = w_time + 1 → (∀ x13 : Int32, x13 = (if x9 < w_lowest then x9 else w_lowest) → (∀ x14 : Int32, x14 = (if w_highest < x9 then x9 else w_highest) → Q w_tape_words r10 x9 x12 x13 x14)))))
def pX2_advance (n_this_tape : Nat) (v_tape_radius : Int32) (v_tape_words : Nat → Int32) (v_state : Int32) (v_head : Int32) (v_time : Int32) (v_lowest : Int32) (v_highest : Int32) (v_a1_count : Int32) (v_a1_written : Nat → Int32) (v_a1_moved : Nat → Int32) (v_a1_following : Nat → Int32) (Q : (Nat → Int32) → Int32 → Int32 → Int32 → Int32 → Int32 → Prop) : Prop :=
  pX6_read n_this_tape v_head v_tape_radius v_tape_words (fun r1 => pX5_writtenBy v_state r1 v_a1_count v_a1_written (fun r3 => pX6_write n_this_tape v_head r3 v_tape_radius v_tape_words (fun w5 => pX5_moveOf v_state r1 v_a1_count v_a1_moved (fun r6 => ((¬ r6 = 1 → pX2_advance_j55 n_this_tape v_tape_radius v_a1_count v_a1_written v_a1_moved v_a1_following Q r1 v_head (-1) w5 v_state v_head v_time v_lowest v_highest) ∧ (r6 = 1 → pX2_advance_j55 n_this_tape v_tape_radius v_a1_count v_a1_written v_a1_moved v_a1_following Q r1 v_head 1 w5 v_state v_head v_time v_lowest v_highest))))))
abbrev rmX2_advance : Room := { frames := 2, cells := 0, slots := 0, locals := 46 }
theorem hdV_X5_moveOf : yX5_moveOf.cls = RX5 ∧ yX5_moveOf.cls ≠ "java/lang/invoke/MethodHandle" ∧ yX5_moveOf.cls ≠ "java/lang/invoke/VarHandle" ∧ (parseMethodDescriptor yX5_moveOf.desc).map (fun d => d.parameters.length) = some 2 := by decide +kernel
theorem hdV_X5_writtenBy : yX5_writtenBy.cls = RX5 ∧ yX5_writtenBy.cls ≠ "java/lang/invoke/MethodHandle" ∧ yX5_writtenBy.cls ≠ "java/lang/invoke/VarHandle" ∧ (parseMethodDescriptor yX5_writtenBy.desc).map (fun d => d.parameters.length) = some 2 := by decide +kernel
theorem hdV_X6_write : yX6_write.cls = RX6 ∧ yX6_write.cls ≠ "java/lang/invoke/MethodHandle" ∧ yX6_write.cls ≠ "java/lang/invoke/VarHandle" ∧ (parseMethodDescriptor yX6_write.desc).map (fun d => d.parameters.length) = some 2 := by decide +kernel
set_option maxHeartbeats 4000000 in
set_option maxRecDepth 100000 in
theorem mX2_advance (l : Launch) (D : va_G) (cy : Cy) (h_this : Nat) (h_a1 : Nat) (h_this_tape : Nat) (h_this_tape_words : Nat) (h_a1_written : Nat) (h_a1_moved : Nat) (h_a1_following : Nat) (n_this_tape : Nat) (v_state : Int32) (v_head : Int32) (v_time : Int32) (v_lowest : Int32) (v_highest : Int32) (v_tape_radius : Int32) (v_tape_words : Nat → Int32) (v_a1_count : Int32) (v_a1_written : Nat → Int32) (v_a1_moved : Nat → Int32) (v_a1_following : Nat → Int32) (Q : (Nat → Int32) → Int32 → Int32 → Int32 → Int32 → Int32 → Prop) (h : pX2_advance n_this_tape v_tape_radius v_tape_words v_state v_head v_time v_lowest v_highest v_a1_count v_a1_written v_a1_moved v_a1_following Q) : Cv l yX2_advance wsX2_advance rmX2_advance 0 0 D cy [(h_this, .inr (2, [.ref h_this_tape, .int v_state, .int v_head, .int v_time, .int v_lowest, .int v_highest])), (h_this_tape, .inr (6, [.int v_tape_radius, .ref h_this_tape_words])), (h_this_tape_words, .inl (cy.1, n_this_tape, .inl v_tape_words)), (h_a1, .inr (5, [.int v_a1_count, .ref h_a1_written, .ref h_a1_moved, .ref h_a1_following])), (h_a1_written, .inl (cy.1, 10, .inl v_a1_written)), (h_a1_moved, .inl (cy.1, 10, .inl v_a1_moved)), (h_a1_following, .inl (cy.1, 10, .inl v_a1_following))] [.ref h_this, .ref h_a1] (fun (u : (Nat → Int32) × Int32 × Int32 × Int32 × Int32 × Int32) => Q u.1 u.2.1 u.2.2.1 u.2.2.2.1 u.2.2.2.2.1 u.2.2.2.2.2) (fun (u : (Nat → Int32) × Int32 × Int32 × Int32 × Int32 × Int32) => [(h_this, .inr (2, [.ref h_this_tape, .int u.2.1, .int u.2.2.1, .int u.2.2.2.1, .int u.2.2.2.2.1, .int u.2.2.2.2.2])), (h_this_tape, .inr (6, [.int v_tape_radius, .ref h_this_tape_words])), (h_this_tape_words, .inl (cy.1, n_this_tape, .inl u.1)), (h_a1, .inr (5, [.int v_a1_count, .ref h_a1_written, .ref h_a1_moved, .ref h_a1_following])), (h_a1_written, .inl (cy.1, 10, .inl v_a1_written)), (h_a1_moved, .inl (cy.1, 10, .inl v_a1_moved)), (h_a1_following, .inl (cy.1, 10, .inl v_a1_following))]) := by
  refine of_v (cc := cX2_advance) (maxL := 3) (by decide) rfl (Nat.le_of_ble_eq_true rfl) ?_
  intro p e s m args below meth c A ls QQ T0 RT hP hD hS hl
  obtain ⟨hx, hb, hr, hts, hown, hlocks, hml, hin, hK, hN, hA⟩ := T0
  have hown : s.vm.findClass RX2 = some m.cls := hown
  have hl : lv_has ls 3 [(0, .ref h_this), (1, .ref h_a1)] := hl
  have iX2 : ∀ w ∈ wsX20, w ∈ wsX2_advance := fun _ h => List.mem_cons_of_mem _ (List.mem_append_left _ (List.mem_append_left _ (List.mem_append_right _ h)))
  have k14 := hts (.fieldLink RX2 14 "HaltingDecider$Configuration" "tape" "LHaltingDecider$Tape;") (List.mem_of_getElem? (i := 1) (by decide +kernel))
  have k30 := hts (.fieldLink RX2 30 "HaltingDecider$Configuration" "head" "I") (List.mem_of_getElem? (i := 2) (by decide +kernel))
  have k26 := hts (.fieldLink RX2 26 "HaltingDecider$Configuration" "state" "I") (List.mem_of_getElem? (i := 3) (by decide +kernel))
  have k33 := hts (.fieldLink RX2 33 "HaltingDecider$Configuration" "time" "I") (List.mem_of_getElem? (i := 4) (by decide +kernel))
  have k36 := hts (.fieldLink RX2 36 "HaltingDecider$Configuration" "lowest" "I") (List.mem_of_getElem? (i := 5) (by decide +kernel))
  have k66 := hts (.methodLink RX2 66 Lib.Math.min.name) (List.mem_of_getElem? (i := 6) (by decide +kernel))
  have ks_min := hts (.static Lib.Math.min.name) (List.mem_of_getElem? (i := 7) (by decide +kernel))
  have ki_math := hts (.initialized "java/lang/Math") (List.mem_of_getElem? (i := 8) (by decide +kernel))
  have kd_min := hts (.code Lib.Math.min.name Lib.Math.min.code 2 (some .int)) (List.mem_of_getElem? (i := 9) (by decide +kernel))
  have k39 := hts (.fieldLink RX2 39 "HaltingDecider$Configuration" "highest" "I") (List.mem_of_getElem? (i := 10) (by decide +kernel))
  have k71 := hts (.methodLink RX2 71 Lib.Math.max.name) (List.mem_of_getElem? (i := 11) (by decide +kernel))
  have ks_max := hts (.static Lib.Math.max.name) (List.mem_of_getElem? (i := 12) (by decide +kernel))
  have kd_max := hts (.code Lib.Math.max.name Lib.Math.max.code 2 (some .int)) (List.mem_of_getElem? (i := 13) (by decide +kernel))
  have J55 : ∀ (l2 : Int32) (s1 : Int32) (s2 : Int32) (w_tape_words : Nat → Int32) (w_state : Int32) (w_head : Int32) (w_time : Int32) (w_lowest : Int32) (w_highest : Int32) (H : Heap) (locs : List Loc) (ls : Array Slot), pX2_advance_j55 n_this_tape v_tape_radius v_a1_count v_a1_written v_a1_moved v_a1_following Q l2 s1 s2 w_tape_words w_state w_head w_time w_lowest w_highest → va_P D vwCl [(h_this, .inr (2, [.ref h_this_tape, .int w_state, .int w_head, .int w_time, .int w_lowest, .int w_highest])), (h_this_tape, .inr (6, [.int v_tape_radius, .ref h_this_tape_words])), (h_this_tape_words, .inl (cy.1, n_this_tape, .inl w_tape_words)), (h_a1, .inr (5, [.int v_a1_count, .ref h_a1_written, .ref h_a1_moved, .ref h_a1_following])), (h_a1_written, .inl (cy.1, 10, .inl v_a1_written)), (h_a1_moved, .inl (cy.1, 10, .inl v_a1_moved)), (h_a1_following, .inl (cy.1, 10, .inl v_a1_following))] H → va_D A [(h_this, .inr (2, [.ref h_this_tape, .int w_state, .int w_head, .int w_time, .int w_lowest, .int w_highest])), (h_this_tape, .inr (6, [.int v_tape_radius, .ref h_this_tape_words])), (h_this_tape_words, .inl (cy.1, n_this_tape, .inl w_tape_words)), (h_a1, .inr (5, [.int v_a1_count, .ref h_a1_written, .ref h_a1_moved, .ref h_a1_following])), (h_a1_written, .inl (cy.1, 10, .inl v_a1_written)), (h_a1_moved, .inl (cy.1, 10, .inl v_a1_moved)), (h_a1_following, .inl (cy.1, 10, .inl v_a1_following))] → va_S A s.heap H locs → lv_has ls 3 [(0, .ref h_this), (1, .ref h_a1), (2, .int l2)] → W p l e rmX2_advance s m args below meth c H locs 0 0 QQ (F0 m 55 ls [.int s2, .int s1, .ref h_this]) := by
    intro l2 s1 s2 w_tape_words w_state w_head w_time w_lowest w_highest H locs ls h hP hD hS hl
    refine lv_iadd hx hb dX2_advance_55 ?_
    refine lv_topi (fun x9 ex9 => ?_)
    replace h := h x9 ex9
    refine va_put (D := D) (ci := 2) (v := .int x9) (ty := .int) (C := RX2) (T := TX2) (N := 6) hx hb hts iX2 tyX2 tyX2_ok nmX2 hown hK hP hD hS 0 rfl rfl 2 (by decide) k30 (fun _ h9 => h9) rfl (tyX2_ok 2 (by decide)) rfl rfl (Nat.le_of_ble_eq_true rfl) dX2_advance_56 (fun H locs hP hD hS => ?_)
    have hP : va_P D vwCl [(h_this, .inr (2, [.ref h_this_tape, .int w_state, .int x9, .int w_time, .int w_lowest, .int w_highest])), (h_this_tape, .inr (6, [.int v_tape_radius, .ref h_this_tape_words])), (h_this_tape_words, .inl (cy.1, n_this_tape, .inl w_tape_words)), (h_a1, .inr (5, [.int v_a1_count, .ref h_a1_written, .ref h_a1_moved, .ref h_a1_following])), (h_a1_written, .inl (cy.1, 10, .inl v_a1_written)), (h_a1_moved, .inl (cy.1, 10, .inl v_a1_moved)), (h_a1_following, .inl (cy.1, 10, .inl v_a1_following))] H := hP
    have hD : va_D A [(h_this, .inr (2, [.ref h_this_tape, .int w_state, .int x9, .int w_time, .int w_lowest, .int w_highest])), (h_this_tape, .inr (6, [.int v_tape_radius, .ref h_this_tape_words])), (h_this_tape_words, .inl (cy.1, n_this_tape, .inl w_tape_words)), (h_a1, .inr (5, [.int v_a1_count, .ref h_a1_written, .ref h_a1_moved, .ref h_a1_following])), (h_a1_written, .inl (cy.1, 10, .inl v_a1_written)), (h_a1_moved, .inl (cy.1, 10, .inl v_a1_moved)), (h_a1_following, .inl (cy.1, 10, .inl v_a1_following))] := hD
    refine lv_aload_n hx hb dX2_advance_59 rfl (lv_at hl 0 rfl) ?_
    refine lv_aload_n hx hb dX2_advance_60 rfl (lv_at hl 1 rfl) ?_
    refine lv_aload_n hx hb dX2_advance_61 rfl (lv_at hl 0 rfl) ?_
    refine va_get (D := D) (ci := 2) (v := .int w_state) (C := RX2) (T := TX2) (N := 6) hx hb hts iX2 hown hK hP 0 rfl rfl 1 (by decide) k26 (fun _ h9 => h9) rfl dX2_advance_62 ?_
    refine lv_iload_n hx hb dX2_advance_65 rfl (lv_at hl 2 rfl) ?_
    refine call_iV (As := [.int w_state, .int l2]) (rest := [.ref h_this]) (wr := [(h_this, .inr (2, [.ref h_this_tape, .int w_state, .int x9, .int w_time, .int w_lowest, .int w_highest])), (h_this_tape, .inr (6, [.int v_tape_radius, .ref h_this_tape_words])), (h_this_tape_words, .inl (cy.1, n_this_tape, .inl w_tape_words)), (h_a1_written, .inl (cy.1, 10, .inl v_a1_written)), (h_a1_moved, .inl (cy.1, 10, .inl v_a1_moved))]) ⟨hx, hb, hml, hown, hts⟩ (mX5_nextOf l D cy h_a1 h_a1_written h_a1_moved h_a1_following v_a1_count v_a1_following w_state l2 _ h) (cwV 2 hts gX2_advance_X5_nextOf rfl rfl rfl hdV_X5_nextOf ⟨Nat.le_of_ble_eq_true rfl, Nat.le_of_ble_eq_true rfl⟩) hP hK hN hD hS hA [3, 6] [0, 1, 2, 4, 5] rfl rfl (by decide) (by decide) (by decide) (ci := 5) rfl rfl rfl rfl hl.1 rfl (Nat.le_of_ble_eq_true rfl) dX2_advance_66 ⟨Nat.le_of_ble_eq_true rfl, Nat.le_of_ble_eq_true rfl⟩ (fun r10 u11 H locs h hP hD hS => ?_)
    have hP : va_P D vwCl [(h_this, .inr (2, [.ref h_this_tape, .int w_state, .int x9, .int w_time, .int w_lowest, .int w_highest])), (h_this_tape, .inr (6, [.int v_tape_radius, .ref h_this_tape_words])), (h_this_tape_words, .inl (cy.1, n_this_tape, .inl w_tape_words)), (h_a1_written, .inl (cy.1, 10, .inl v_a1_written)), (h_a1_moved, .inl (cy.1, 10, .inl v_a1_moved)), (h_a1, .inr (5, [.int v_a1_count, .ref h_a1_written, .ref h_a1_moved, .ref h_a1_following])), (h_a1_following, .inl (cy.1, 10, .inl v_a1_following))] H := hP
    have hD : va_D A [(h_this, .inr (2, [.ref h_this_tape, .int w_state, .int x9, .int w_time, .int w_lowest, .int w_highest])), (h_this_tape, .inr (6, [.int v_tape_radius, .ref h_this_tape_words])), (h_this_tape_words, .inl (cy.1, n_this_tape, .inl w_tape_words)), (h_a1_written, .inl (cy.1, 10, .inl v_a1_written)), (h_a1_moved, .inl (cy.1, 10, .inl v_a1_moved)), (h_a1, .inr (5, [.int v_a1_count, .ref h_a1_written, .ref h_a1_moved, .ref h_a1_following])), (h_a1_following, .inl (cy.1, 10, .inl v_a1_following))] := hD
    refine va_put (D := D) (ci := 2) (v := .int r10) (ty := .int) (C := RX2) (T := TX2) (N := 6) hx hb hts iX2 tyX2 tyX2_ok nmX2 hown hK hP hD hS 0 rfl rfl 1 (by decide) k26 (fun _ h9 => h9) rfl (tyX2_ok 1 (by decide)) rfl rfl (Nat.le_of_ble_eq_true rfl) dX2_advance_69 (fun H locs hP hD hS => ?_)
    have hP : va_P D vwCl [(h_this, .inr (2, [.ref h_this_tape, .int r10, .int x9, .int w_time, .int w_lowest, .int w_highest])), (h_this_tape, .inr (6, [.int v_tape_radius, .ref h_this_tape_words])), (h_this_tape_words, .inl (cy.1, n_this_tape, .inl w_tape_words)), (h_a1_written, .inl (cy.1, 10, .inl v_a1_written)), (h_a1_moved, .inl (cy.1, 10, .inl v_a1_moved)), (h_a1, .inr (5, [.int v_a1_count, .ref h_a1_written, .ref h_a1_moved, .ref h_a1_following])), (h_a1_following, .inl (cy.1, 10, .inl v_a1_following))] H := hP
    have hD : va_D A [(h_this, .inr (2, [.ref h_this_tape, .int r10, .int x9, .int w_time, .int w_lowest, .int w_highest])), (h_this_tape, .inr (6, [.int v_tape_radius, .ref h_this_tape_words])), (h_this_tape_words, .inl (cy.1, n_this_tape, .inl w_tape_words)), (h_a1_written, .inl (cy.1, 10, .inl v_a1_written)), (h_a1_moved, .inl (cy.1, 10, .inl v_a1_moved)), (h_a1, .inr (5, [.int v_a1_count, .ref h_a1_written, .ref h_a1_moved, .ref h_a1_following])), (h_a1_following, .inl (cy.1, 10, .inl v_a1_following))] := hD
    refine lv_aload_n hx hb dX2_advance_72 rfl (lv_at hl 0 rfl) ?_
    refine lv_dup hx hb dX2_advance_73 rfl ?_
    refine va_get (D := D) (ci := 2) (v := .int w_time) (C := RX2) (T := TX2) (N := 6) hx hb hts iX2 hown hK hP 0 rfl rfl 3 (by decide) k33 (fun _ h9 => h9) rfl dX2_advance_74 ?_
    refine lv_iconst (v := 1) hx hb dX2_advance_77 (by decide) ?_
    refine lv_iadd hx hb dX2_advance_78 ?_
    refine lv_topi (fun x12 ex12 => ?_)
    replace h := h x12 ex12
    refine va_put (D := D) (ci := 2) (v := .int x12) (ty := .int) (C := RX2) (T := TX2) (N := 6) hx hb hts iX2 tyX2 tyX2_ok nmX2 hown hK hP hD hS 0 rfl rfl 3 (by decide) k33 (fun _ h9 => h9) rfl (tyX2_ok 3 (by decide)) rfl rfl (Nat.le_of_ble_eq_true rfl) dX2_advance_79 (fun H locs hP hD hS => ?_)
    have hP : va_P D vwCl [(h_this, .inr (2, [.ref h_this_tape, .int r10, .int x9, .int x12, .int w_lowest, .int w_highest])), (h_this_tape, .inr (6, [.int v_tape_radius, .ref h_this_tape_words])), (h_this_tape_words, .inl (cy.1, n_this_tape, .inl w_tape_words)), (h_a1_written, .inl (cy.1, 10, .inl v_a1_written)), (h_a1_moved, .inl (cy.1, 10, .inl v_a1_moved)), (h_a1, .inr (5, [.int v_a1_count, .ref h_a1_written, .ref h_a1_moved, .ref h_a1_following])), (h_a1_following, .inl (cy.1, 10, .inl v_a1_following))] H := hP
    have hD : va_D A [(h_this, .inr (2, [.ref h_this_tape, .int r10, .int x9, .int x12, .int w_lowest, .int w_highest])), (h_this_tape, .inr (6, [.int v_tape_radius, .ref h_this_tape_words])), (h_this_tape_words, .inl (cy.1, n_this_tape, .inl w_tape_words)), (h_a1_written, .inl (cy.1, 10, .inl v_a1_written)), (h_a1_moved, .inl (cy.1, 10, .inl v_a1_moved)), (h_a1, .inr (5, [.int v_a1_count, .ref h_a1_written, .ref h_a1_moved, .ref h_a1_following])), (h_a1_following, .inl (cy.1, 10, .inl v_a1_following))] := hD
    refine lv_aload_n hx hb dX2_advance_82 rfl (lv_at hl 0 rfl) ?_
    refine lv_aload_n hx hb dX2_advance_83 rfl (lv_at hl 0 rfl) ?_
    refine va_get (D := D) (ci := 2) (v := .int w_lowest) (C := RX2) (T := TX2) (N := 6) hx hb hts iX2 hown hK hP 0 rfl rfl 4 (by decide) k36 (fun _ h9 => h9) rfl dX2_advance_84 ?_
    refine lv_aload_n hx hb dX2_advance_87 rfl (lv_at hl 0 rfl) ?_
    refine va_get (D := D) (ci := 2) (v := .int x9) (C := RX2) (T := TX2) (N := 6) hx hb hts iX2 hown hK hP 0 rfl rfl 2 (by decide) k30 (fun _ h9 => h9) rfl dX2_advance_88 ?_
    refine va_mmin hx hb (hml.trans hl.1.symm) hown k66 ks_min ki_math kd_min (Nat.le_of_ble_eq_true rfl) (Nat.le_of_ble_eq_true rfl) (Nat.zero_le _) (Nat.zero_le _) dX2_advance_91 ?_
    refine lv_topi (fun x13 ex13 => ?_)
    replace h := h x13 ex13
    refine va_put (D := D) (ci := 2) (v := .int x13) (ty := .int) (C := RX2) (T := TX2) (N := 6) hx hb hts iX2 tyX2 tyX2_ok nmX2 hown hK hP hD hS 0 rfl rfl 4 (by decide) k36 (fun _ h9 => h9) rfl (tyX2_ok 4 (by decide)) rfl rfl (Nat.le_of_ble_eq_true rfl) dX2_advance_94 (fun H locs hP hD hS => ?_)
    have hP : va_P D vwCl [(h_this, .inr (2, [.ref h_this_tape, .int r10, .int x9, .int x12, .int x13, .int w_highest])), (h_this_tape, .inr (6, [.int v_tape_radius, .ref h_this_tape_words])), (h_this_tape_words, .inl (cy.1, n_this_tape, .inl w_tape_words)), (h_a1_written, .inl (cy.1, 10, .inl v_a1_written)), (h_a1_moved, .inl (cy.1, 10, .inl v_a1_moved)), (h_a1, .inr (5, [.int v_a1_count, .ref h_a1_written, .ref h_a1_moved, .ref h_a1_following])), (h_a1_following, .inl (cy.1, 10, .inl v_a1_following))] H := hP
    have hD : va_D A [(h_this, .inr (2, [.ref h_this_tape, .int r10, .int x9, .int x12, .int x13, .int w_highest])), (h_this_tape, .inr (6, [.int v_tape_radius, .ref h_this_tape_words])), (h_this_tape_words, .inl (cy.1, n_this_tape, .inl w_tape_words)), (h_a1_written, .inl (cy.1, 10, .inl v_a1_written)), (h_a1_moved, .inl (cy.1, 10, .inl v_a1_moved)), (h_a1, .inr (5, [.int v_a1_count, .ref h_a1_written, .ref h_a1_moved, .ref h_a1_following])), (h_a1_following, .inl (cy.1, 10, .inl v_a1_following))] := hD
    refine lv_aload_n hx hb dX2_advance_97 rfl (lv_at hl 0 rfl) ?_
    refine lv_aload_n hx hb dX2_advance_98 rfl (lv_at hl 0 rfl) ?_
    refine va_get (D := D) (ci := 2) (v := .int w_highest) (C := RX2) (T := TX2) (N := 6) hx hb hts iX2 hown hK hP 0 rfl rfl 5 (by decide) k39 (fun _ h9 => h9) rfl dX2_advance_99 ?_
    refine lv_aload_n hx hb dX2_advance_102 rfl (lv_at hl 0 rfl) ?_
    refine va_get (D := D) (ci := 2) (v := .int x9) (C := RX2) (T := TX2) (N := 6) hx hb hts iX2 hown hK hP 0 rfl rfl 2 (by decide) k30 (fun _ h9 => h9) rfl dX2_advance_103 ?_
    refine va_mmax hx hb (hml.trans hl.1.symm) hown k71 ks_max ki_math kd_max (Nat.le_of_ble_eq_true rfl) (Nat.le_of_ble_eq_true rfl) (Nat.zero_le _) (Nat.zero_le _) dX2_advance_106 ?_
    refine lv_topi (fun x14 ex14 => ?_)
    replace h := h x14 ex14
    refine va_put (D := D) (ci := 2) (v := .int x14) (ty := .int) (C := RX2) (T := TX2) (N := 6) hx hb hts iX2 tyX2 tyX2_ok nmX2 hown hK hP hD hS 0 rfl rfl 5 (by decide) k39 (fun _ h9 => h9) rfl (tyX2_ok 5 (by decide)) rfl rfl (Nat.le_of_ble_eq_true rfl) dX2_advance_109 (fun H locs hP hD hS => ?_)
    have hP : va_P D vwCl [(h_this, .inr (2, [.ref h_this_tape, .int r10, .int x9, .int x12, .int x13, .int x14])), (h_this_tape, .inr (6, [.int v_tape_radius, .ref h_this_tape_words])), (h_this_tape_words, .inl (cy.1, n_this_tape, .inl w_tape_words)), (h_a1_written, .inl (cy.1, 10, .inl v_a1_written)), (h_a1_moved, .inl (cy.1, 10, .inl v_a1_moved)), (h_a1, .inr (5, [.int v_a1_count, .ref h_a1_written, .ref h_a1_moved, .ref h_a1_following])), (h_a1_following, .inl (cy.1, 10, .inl v_a1_following))] H := hP
    have hD : va_D A [(h_this, .inr (2, [.ref h_this_tape, .int r10, .int x9, .int x12, .int x13, .int x14])), (h_this_tape, .inr (6, [.int v_tape_radius, .ref h_this_tape_words])), (h_this_tape_words, .inl (cy.1, n_this_tape, .inl w_tape_words)), (h_a1_written, .inl (cy.1, 10, .inl v_a1_written)), (h_a1_moved, .inl (cy.1, 10, .inl v_a1_moved)), (h_a1, .inr (5, [.int v_a1_count, .ref h_a1_written, .ref h_a1_moved, .ref h_a1_following])), (h_a1_following, .inl (cy.1, 10, .inl v_a1_following))] := hD
    exact RT 112 H locs ls (w_tape_words, r10, x9, x12, x13, x14) dX2_advance_112 h (hP.sub [0, 1, 2, 5, 3, 4, 6] rfl) (hD.sub [0, 1, 2, 5, 3, 4, 6] (by decide) rfl) hS
  obtain ⟨H, hH⟩ : ∃ H, H = s.heap := ⟨_, rfl⟩
  obtain ⟨locs, hlo⟩ : ∃ z : List Loc, z = [] := ⟨_, rfl⟩
  have hS0 := hS
  rw [← hH] at hP ⊢
  rw [← hlo]
  replace hS : va_S A s.heap H locs := by rw [hH, hlo]; exact hS0
  refine lv_aload_n hx hb dX2_advance_0 rfl (lv_at hl 0 rfl) ?_
  refine va_get (D := D) (ci := 2) (v := .ref h_this_tape) (C := RX2) (T := TX2) (N := 6) hx hb hts iX2 hown hK hP 0 rfl rfl 0 (by decide) k14 (fun _ h9 => h9) rfl dX2_advance_1 ?_
  refine lv_aload_n hx hb dX2_advance_4 rfl (lv_at hl 0 rfl) ?_
  refine va_get (D := D) (ci := 2) (v := .int v_head) (C := RX2) (T := TX2) (N := 6) hx hb hts iX2 hown hK hP 0 rfl rfl 2 (by decide) k30 (fun _ h9 => h9) rfl dX2_advance_5 ?_
  refine call_iV (As := [.int v_head]) (rest := []) (wr := [(h_this, .inr (2, [.ref h_this_tape, .int v_state, .int v_head, .int v_time, .int v_lowest, .int v_highest])), (h_a1, .inr (5, [.int v_a1_count, .ref h_a1_written, .ref h_a1_moved, .ref h_a1_following])), (h_a1_written, .inl (cy.1, 10, .inl v_a1_written)), (h_a1_moved, .inl (cy.1, 10, .inl v_a1_moved)), (h_a1_following, .inl (cy.1, 10, .inl v_a1_following))]) ⟨hx, hb, hml, hown, hts⟩ (mX6_read l D cy h_this_tape h_this_tape_words n_this_tape v_tape_radius v_tape_words v_head _ h) (cwV 1 hts gX2_advance_X6_read rfl rfl rfl hdV_X6_read ⟨Nat.le_of_ble_eq_true rfl, Nat.le_of_ble_eq_true rfl⟩) hP hK hN hD hS hA [1, 2] [0, 3, 4, 5, 6] rfl rfl (by decide) (by decide) (by decide) (ci := 6) rfl rfl rfl rfl hl.1 rfl (Nat.le_of_ble_eq_true rfl) dX2_advance_8 ⟨Nat.le_of_ble_eq_true rfl, Nat.le_of_ble_eq_true rfl⟩ (fun r1 u2 H locs h hP hD hS => ?_)
  have hP : va_P D vwCl [(h_this, .inr (2, [.ref h_this_tape, .int v_state, .int v_head, .int v_time, .int v_lowest, .int v_highest])), (h_a1, .inr (5, [.int v_a1_count, .ref h_a1_written, .ref h_a1_moved, .ref h_a1_following])), (h_a1_written, .inl (cy.1, 10, .inl v_a1_written)), (h_a1_moved, .inl (cy.1, 10, .inl v_a1_moved)), (h_a1_following, .inl (cy.1, 10, .inl v_a1_following)), (h_this_tape, .inr (6, [.int v_tape_radius, .ref h_this_tape_words])), (h_this_tape_words, .inl (cy.1, n_this_tape, .inl v_tape_words))] H := hP
  have hD : va_D A [(h_this, .inr (2, [.ref h_this_tape, .int v_state, .int v_head, .int v_time, .int v_lowest, .int v_highest])), (h_a1, .inr (5, [.int v_a1_count, .ref h_a1_written, .ref h_a1_moved, .ref h_a1_following])), (h_a1_written, .inl (cy.1, 10, .inl v_a1_written)), (h_a1_moved, .inl (cy.1, 10, .inl v_a1_moved)), (h_a1_following, .inl (cy.1, 10, .inl v_a1_following)), (h_this_tape, .inr (6, [.int v_tape_radius, .ref h_this_tape_words])), (h_this_tape_words, .inl (cy.1, n_this_tape, .inl v_tape_words))] := hD
  refine lv_istore_n (lv' := [(2, .int r1), (0, .ref h_this), (1, .ref h_a1)]) hx hb dX2_advance_11 rfl hl (by decide) rfl (fun ls hl => ?_)
  refine lv_aload_n hx hb dX2_advance_12 rfl (lv_at hl 1 rfl) ?_
  refine va_get (D := D) (ci := 2) (v := .ref h_this_tape) (C := RX2) (T := TX2) (N := 6) hx hb hts iX2 hown hK hP 0 rfl rfl 0 (by decide) k14 (fun _ h9 => h9) rfl dX2_advance_13 ?_
  refine lv_aload_n hx hb dX2_advance_16 rfl (lv_at hl 1 rfl) ?_
  refine va_get (D := D) (ci := 2) (v := .int v_head) (C := RX2) (T := TX2) (N := 6) hx hb hts iX2 hown hK hP 0 rfl rfl 2 (by decide) k30 (fun _ h9 => h9) rfl dX2_advance_17 ?_
  refine lv_aload_n hx hb dX2_advance_20 rfl (lv_at hl 2 rfl) ?_
  refine lv_aload_n hx hb dX2_advance_21 rfl (lv_at hl 1 rfl) ?_
  refine va_get (D := D) (ci := 2) (v := .int v_state) (C := RX2) (T := TX2) (N := 6) hx hb hts iX2 hown hK hP 0 rfl rfl 1 (by decide) k26 (fun _ h9 => h9) rfl dX2_advance_22 ?_
  refine lv_iload_n hx hb dX2_advance_25 rfl (lv_at hl 0 rfl) ?_
  refine call_iV (As := [.int v_state, .int r1]) (rest := [.int v_head, .ref h_this_tape]) (wr := [(h_this, .inr (2, [.ref h_this_tape, .int v_state, .int v_head, .int v_time, .int v_lowest, .int v_highest])), (h_a1_moved, .inl (cy.1, 10, .inl v_a1_moved)), (h_a1_following, .inl (cy.1, 10, .inl v_a1_following)), (h_this_tape, .inr (6, [.int v_tape_radius, .ref h_this_tape_words])), (h_this_tape_words, .inl (cy.1, n_this_tape, .inl v_tape_words))]) ⟨hx, hb, hml, hown, hts⟩ (mX5_writtenBy l D cy h_a1 h_a1_written h_a1_moved h_a1_following v_a1_count v_a1_written v_state r1 _ h) (cwV 2 hts gX2_advance_X5_writtenBy rfl rfl rfl hdV_X5_writtenBy ⟨Nat.le_of_ble_eq_true rfl, Nat.le_of_ble_eq_true rfl⟩) hP hK hN hD hS hA [1, 2] [0, 3, 4, 5, 6] rfl rfl (by decide) (by decide) (by decide) (ci := 5) rfl rfl rfl rfl hl.1 rfl (Nat.le_of_ble_eq_true rfl) dX2_advance_26 ⟨Nat.le_of_ble_eq_true rfl, Nat.le_of_ble_eq_true rfl⟩ (fun r3 u4 H locs h hP hD hS => ?_)
  have hP : va_P D vwCl [(h_this, .inr (2, [.ref h_this_tape, .int v_state, .int v_head, .int v_time, .int v_lowest, .int v_highest])), (h_a1_moved, .inl (cy.1, 10, .inl v_a1_moved)), (h_a1_following, .inl (cy.1, 10, .inl v_a1_following)), (h_this_tape, .inr (6, [.int v_tape_radius, .ref h_this_tape_words])), (h_this_tape_words, .inl (cy.1, n_this_tape, .inl v_tape_words)), (h_a1, .inr (5, [.int v_a1_count, .ref h_a1_written, .ref h_a1_moved, .ref h_a1_following])), (h_a1_written, .inl (cy.1, 10, .inl v_a1_written))] H := hP
  have hD : va_D A [(h_this, .inr (2, [.ref h_this_tape, .int v_state, .int v_head, .int v_time, .int v_lowest, .int v_highest])), (h_a1_moved, .inl (cy.1, 10, .inl v_a1_moved)), (h_a1_following, .inl (cy.1, 10, .inl v_a1_following)), (h_this_tape, .inr (6, [.int v_tape_radius, .ref h_this_tape_words])), (h_this_tape_words, .inl (cy.1, n_this_tape, .inl v_tape_words)), (h_a1, .inr (5, [.int v_a1_count, .ref h_a1_written, .ref h_a1_moved, .ref h_a1_following])), (h_a1_written, .inl (cy.1, 10, .inl v_a1_written))] := hD
  refine call_vV (As := [.int v_head, .int r3]) (rest := []) (wr := [(h_this, .inr (2, [.ref h_this_tape, .int v_state, .int v_head, .int v_time, .int v_lowest, .int v_highest])), (h_a1_moved, .inl (cy.1, 10, .inl v_a1_moved)), (h_a1_following, .inl (cy.1, 10, .inl v_a1_following)), (h_a1, .inr (5, [.int v_a1_count, .ref h_a1_written, .ref h_a1_moved, .ref h_a1_following])), (h_a1_written, .inl (cy.1, 10, .inl v_a1_written))]) ⟨hx, hb, hml, hown, hts⟩ (mX6_write l D cy h_this_tape h_this_tape_words n_this_tape v_tape_radius v_tape_words v_head r3 _ h) (cwV 2 hts gX2_advance_X6_write rfl rfl rfl hdV_X6_write ⟨Nat.le_of_ble_eq_true rfl, Nat.le_of_ble_eq_true rfl⟩) hP hK hN hD hS hA [3, 4] [0, 1, 2, 5, 6] rfl rfl (by decide) (by decide) (by decide) (ci := 6) rfl rfl rfl rfl hl.1 rfl (Nat.le_of_ble_eq_true rfl) dX2_advance_29 ⟨Nat.le_of_ble_eq_true rfl, Nat.le_of_ble_eq_true rfl⟩ (fun w5 H locs h hP hD hS => ?_)
  have hP : va_P D vwCl [(h_this, .inr (2, [.ref h_this_tape, .int v_state, .int v_head, .int v_time, .int v_lowest, .int v_highest])), (h_a1_moved, .inl (cy.1, 10, .inl v_a1_moved)), (h_a1_following, .inl (cy.1, 10, .inl v_a1_following)), (h_a1, .inr (5, [.int v_a1_count, .ref h_a1_written, .ref h_a1_moved, .ref h_a1_following])), (h_a1_written, .inl (cy.1, 10, .inl v_a1_written)), (h_this_tape, .inr (6, [.int v_tape_radius, .ref h_this_tape_words])), (h_this_tape_words, .inl (cy.1, n_this_tape, .inl w5))] H := hP
  have hD : va_D A [(h_this, .inr (2, [.ref h_this_tape, .int v_state, .int v_head, .int v_time, .int v_lowest, .int v_highest])), (h_a1_moved, .inl (cy.1, 10, .inl v_a1_moved)), (h_a1_following, .inl (cy.1, 10, .inl v_a1_following)), (h_a1, .inr (5, [.int v_a1_count, .ref h_a1_written, .ref h_a1_moved, .ref h_a1_following])), (h_a1_written, .inl (cy.1, 10, .inl v_a1_written)), (h_this_tape, .inr (6, [.int v_tape_radius, .ref h_this_tape_words])), (h_this_tape_words, .inl (cy.1, n_this_tape, .inl w5))] := hD
  refine lv_aload_n hx hb dX2_advance_32 rfl (lv_at hl 1 rfl) ?_
  refine lv_dup hx hb dX2_advance_33 rfl ?_
  refine va_get (D := D) (ci := 2) (v := .int v_head) (C := RX2) (T := TX2) (N := 6) hx hb hts iX2 hown hK hP 0 rfl rfl 2 (by decide) k30 (fun _ h9 => h9) rfl dX2_advance_34 ?_
  refine lv_aload_n hx hb dX2_advance_37 rfl (lv_at hl 2 rfl) ?_
  refine lv_aload_n hx hb dX2_advance_38 rfl (lv_at hl 1 rfl) ?_
  refine va_get (D := D) (ci := 2) (v := .int v_state) (C := RX2) (T := TX2) (N := 6) hx hb hts iX2 hown hK hP 0 rfl rfl 1 (by decide) k26 (fun _ h9 => h9) rfl dX2_advance_39 ?_
  refine lv_iload_n hx hb dX2_advance_42 rfl (lv_at hl 0 rfl) ?_
  refine call_iV (As := [.int v_state, .int r1]) (rest := [.int v_head, .ref h_this]) (wr := [(h_this, .inr (2, [.ref h_this_tape, .int v_state, .int v_head, .int v_time, .int v_lowest, .int v_highest])), (h_a1_following, .inl (cy.1, 10, .inl v_a1_following)), (h_a1_written, .inl (cy.1, 10, .inl v_a1_written)), (h_this_tape, .inr (6, [.int v_tape_radius, .ref h_this_tape_words])), (h_this_tape_words, .inl (cy.1, n_this_tape, .inl w5))]) ⟨hx, hb, hml, hown, hts⟩ (mX5_moveOf l D cy h_a1 h_a1_written h_a1_moved h_a1_following v_a1_count v_a1_moved v_state r1 _ h) (cwV 2 hts gX2_advance_X5_moveOf rfl rfl rfl hdV_X5_moveOf ⟨Nat.le_of_ble_eq_true rfl, Nat.le_of_ble_eq_true rfl⟩) hP hK hN hD hS hA [3, 1] [0, 2, 4, 5, 6] rfl rfl (by decide) (by decide) (by decide) (ci := 5) rfl rfl rfl rfl hl.1 rfl (Nat.le_of_ble_eq_true rfl) dX2_advance_43 ⟨Nat.le_of_ble_eq_true rfl, Nat.le_of_ble_eq_true rfl⟩ (fun r6 u7 H locs h hP hD hS => ?_)
  have hP : va_P D vwCl [(h_this, .inr (2, [.ref h_this_tape, .int v_state, .int v_head, .int v_time, .int v_lowest, .int v_highest])), (h_a1_following, .inl (cy.1, 10, .inl v_a1_following)), (h_a1_written, .inl (cy.1, 10, .inl v_a1_written)), (h_this_tape, .inr (6, [.int v_tape_radius, .ref h_this_tape_words])), (h_this_tape_words, .inl (cy.1, n_this_tape, .inl w5)), (h_a1, .inr (5, [.int v_a1_count, .ref h_a1_written, .ref h_a1_moved, .ref h_a1_following])), (h_a1_moved, .inl (cy.1, 10, .inl v_a1_moved))] H := hP
  have hD : va_D A [(h_this, .inr (2, [.ref h_this_tape, .int v_state, .int v_head, .int v_time, .int v_lowest, .int v_highest])), (h_a1_following, .inl (cy.1, 10, .inl v_a1_following)), (h_a1_written, .inl (cy.1, 10, .inl v_a1_written)), (h_this_tape, .inr (6, [.int v_tape_radius, .ref h_this_tape_words])), (h_this_tape_words, .inl (cy.1, n_this_tape, .inl w5)), (h_a1, .inr (5, [.int v_a1_count, .ref h_a1_written, .ref h_a1_moved, .ref h_a1_following])), (h_a1_moved, .inl (cy.1, 10, .inl v_a1_moved))] := hD
  refine lv_iconst (v := 1) hx hb dX2_advance_46 (by decide) ?_
  refine lv_icmp_ne (tgt := 54) hx hb dX2_advance_47 (by decide) (fun c8 => ?_) (fun c8 => ?_)
  · replace h := h.1 c8
    refine lv_iconst (v := (-1)) hx hb dX2_advance_54 (by decide) ?_
    exact J55 r1 v_head (-1) w5 v_state v_head v_time v_lowest v_highest H locs ls h (hP.sub [0, 3, 4, 5, 2, 6, 1] rfl) (hD.sub [0, 3, 4, 5, 2, 6, 1] (by decide) rfl) hS (lv_sub hl [1, 2, 0] rfl)
  · replace h := h.2 c8
    refine lv_iconst (v := 1) hx hb dX2_advance_50 (by decide) ?_
    refine lv_goto (tgt := 55) hx hb dX2_advance_51 (by decide) ?_
    exact J55 r1 v_head 1 w5 v_state v_head v_time v_lowest v_highest H locs ls h (hP.sub [0, 3, 4, 5, 2, 6, 1] rfl) (hD.sub [0, 3, 4, 5, 2, 6, 1] (by decide) rfl) hS (lv_sub hl [1, 2, 0] rfl)
def pX4_clear (v_count : Int32) (v_isOverfull : Int32) (Q : Int32 → Int32 → Prop) : Prop :=
  Q 0 0
abbrev rmX4_clear : Room := { frames := 0, cells := 0, slots := 0, locals := 0 }
set_option maxHeartbeats 4000000 in
set_option maxRecDepth 100000 in
theorem mX4_clear (l : Launch) (D : va_G) (cy : Cy) (h_this : Nat) (h_this_stateRow : Nat) (h_this_headRow : Nat) (h_this_knownRow : Nat) (h_this_onesRow : Nat) (v_count : Int32) (v_isOverfull : Int32) (Q : Int32 → Int32 → Prop) (h : pX4_clear v_count v_isOverfull Q) : Cv l yX4_clear wsX4_clear rmX4_clear 0 0 D cy [(h_this, .inr (4, [.ref h_this_stateRow, .ref h_this_headRow, .ref h_this_knownRow, .ref h_this_onesRow, .int v_count, .int v_isOverfull]))] [.ref h_this] (fun (u : Int32 × Int32) => Q u.1 u.2) (fun (u : Int32 × Int32) => [(h_this, .inr (4, [.ref h_this_stateRow, .ref h_this_headRow, .ref h_this_knownRow, .ref h_this_onesRow, .int u.1, .int u.2]))]) := by
  refine of_v (cc := cX4_clear) (maxL := 1) (by decide) rfl (Nat.le_of_ble_eq_true rfl) ?_
  intro p e s m args below meth c A ls QQ T0 RT hP hD hS hl
  obtain ⟨hx, hb, hr, hts, hown, hlocks, hml, hin, hK, hN, hA⟩ := T0
  have hown : s.vm.findClass RX4 = some m.cls := hown
  have hl : lv_has ls 1 [(0, .ref h_this)] := hl
  have iX4 : ∀ w ∈ wsX40, w ∈ wsX4_clear := fun _ h => List.mem_cons_of_mem _ (List.mem_append_right _ h)
  have k25 := hts (.fieldLink RX4 25 "HaltingDecider$Level" "count" "I") (List.mem_of_getElem? (i := 1) (by decide +kernel))
  have k29 := hts (.fieldLink RX4 29 "HaltingDecider$Level" "isOverfull" "Z") (List.mem_of_getElem? (i := 2) (by decide +kernel))
  obtain ⟨H, hH⟩ : ∃ H, H = s.heap := ⟨_, rfl⟩
  obtain ⟨locs, hlo⟩ : ∃ z : List Loc, z = [] := ⟨_, rfl⟩
  have hS0 := hS
  rw [← hH] at hP ⊢
  rw [← hlo]
  replace hS : va_S A s.heap H locs := by rw [hH, hlo]; exact hS0
  refine lv_aload_n hx hb dX4_clear_0 rfl (lv_at hl 0 rfl) ?_
  refine lv_iconst (v := 0) hx hb dX4_clear_1 (by decide) ?_
  refine va_put (D := D) (ci := 4) (v := .int 0) (ty := .int) (C := RX4) (T := TX4) (N := 6) hx hb hts iX4 tyX4 tyX4_ok nmX4 hown hK hP hD hS 0 rfl rfl 4 (by decide) k25 (fun _ h9 => h9) rfl (tyX4_ok 4 (by decide)) rfl rfl (Nat.le_of_ble_eq_true rfl) dX4_clear_2 (fun H locs hP hD hS => ?_)
  have hP : va_P D vwCl [(h_this, .inr (4, [.ref h_this_stateRow, .ref h_this_headRow, .ref h_this_knownRow, .ref h_this_onesRow, .int 0, .int v_isOverfull]))] H := hP
  have hD : va_D A [(h_this, .inr (4, [.ref h_this_stateRow, .ref h_this_headRow, .ref h_this_knownRow, .ref h_this_onesRow, .int 0, .int v_isOverfull]))] := hD
  refine lv_aload_n hx hb dX4_clear_5 rfl (lv_at hl 0 rfl) ?_
  refine lv_iconst (v := 0) hx hb dX4_clear_6 (by decide) ?_
  refine va_put (D := D) (ci := 4) (v := .int 0) (ty := .boolean) (C := RX4) (T := TX4) (N := 6) hx hb hts iX4 tyX4 tyX4_ok nmX4 hown hK hP hD hS 0 rfl rfl 5 (by decide) k29 (fun _ h9 => h9) rfl (tyX4_ok 5 (by decide)) rfl rfl (Nat.le_of_ble_eq_true rfl) dX4_clear_7 (fun H locs hP hD hS => ?_)
  have hP : va_P D vwCl [(h_this, .inr (4, [.ref h_this_stateRow, .ref h_this_headRow, .ref h_this_knownRow, .ref h_this_onesRow, .int 0, .int 0]))] H := hP
  have hD : va_D A [(h_this, .inr (4, [.ref h_this_stateRow, .ref h_this_headRow, .ref h_this_knownRow, .ref h_this_onesRow, .int 0, .int 0]))] := hD
  exact RT 10 H locs ls (0, 0) dX4_clear_10 h (hP.sub [0] rfl) (hD.sub [0] (by decide) rfl) hS
def pX4_add (p1 : Int32) (p2 : Int32) (p3 : Int32) (p4 : Int32) (p5 : Int32) (v_stateRow : Nat → Int32) (v_headRow : Nat → Int32) (v_knownRow : Nat → Int32) (v_onesRow : Nat → Int32) (v_count : Int32) (v_isOverfull : Int32) (Q : (Nat → Int32) → (Nat → Int32) → (Nat → Int32) → (Nat → Int32) → Int32 → Int32 → Prop) : Prop :=
  ((v_count < 0 → Q v_stateRow v_headRow v_knownRow v_onesRow v_count 1) ∧ (¬ v_count < 0 → ((v_count < 300 → (∀ x3 : Int32, x3 = (1 : Int32) <<< (p2 &&& 31) → (vp_in v_count 300 ∧ (vp_in v_count 300 ∧ (vp_in v_count 300 ∧ ((¬ p5 = 1 → (vp_in v_count 300 ∧ (∀ x9 : Int32, x9 = v_count + 1 → Q (upd v_stateRow v_count.toNatClampNeg p1) (upd v_headRow v_count.toNatClampNeg p2) (upd v_knownRow v_count.toNatClampNeg (p3 ||| x3)) (upd v_onesRow v_count.toNatClampNeg (p4 &&& (x3 ^^^ (-1)))) x9 v_isOverfull))) ∧ (p5 = 1 → (vp_in v_count 300 ∧ (∀ x11 : Int32, x11 = v_count + 1 → Q (upd v_stateRow v_count.toNatClampNeg p1) (upd v_headRow v_count.toNatClampNeg p2) (upd v_knownRow v_count.toNatClampNeg (p3 ||| x3)) (upd v_onesRow v_count.toNatClampNeg (p4 ||| x3)) x11 v_isOverfull))))))))) ∧ (¬ v_count < 300 → Q v_stateRow v_headRow v_knownRow v_onesRow v_count 1))))
abbrev rmX4_add : Room := { frames := 0, cells := 0, slots := 0, locals := 0 }
set_option maxHeartbeats 4000000 in
set_option maxRecDepth 100000 in
theorem mX4_add (l : Launch) (D : va_G) (cy : Cy) (h_this : Nat) (h_this_stateRow : Nat) (h_this_headRow : Nat) (h_this_knownRow : Nat) (h_this_onesRow : Nat) (v_count : Int32) (v_isOverfull : Int32) (v_stateRow : Nat → Int32) (v_headRow : Nat → Int32) (v_knownRow : Nat → Int32) (v_onesRow : Nat → Int32) (p1 : Int32) (p2 : Int32) (p3 : Int32) (p4 : Int32) (p5 : Int32) (Q : (Nat → Int32) → (Nat → Int32) → (Nat → Int32) → (Nat → Int32) → Int32 → Int32 → Prop) (h : pX4_add p1 p2 p3 p4 p5 v_stateRow v_headRow v_knownRow v_onesRow v_count v_isOverfull Q) : Cv l yX4_add wsX4_add rmX4_add 0 0 D cy [(h_this, .inr (4, [.ref h_this_stateRow, .ref h_this_headRow, .ref h_this_knownRow, .ref h_this_onesRow, .int v_count, .int v_isOverfull])), (h_this_stateRow, .inl (cy.1, 300, .inl v_stateRow)), (h_this_headRow, .inl (cy.1, 300, .inl v_headRow)), (h_this_knownRow, .inl (cy.1, 300, .inl v_knownRow)), (h_this_onesRow, .inl (cy.1, 300, .inl v_onesRow))] [.ref h_this, .int p1, .int p2, .int p3, .int p4, .int p5] (fun (u : (Nat → Int32) × (Nat → Int32) × (Nat → Int32) × (Nat → Int32) × Int32 × Int32) => Q u.1 u.2.1 u.2.2.1 u.2.2.2.1 u.2.2.2.2.1 u.2.2.2.2.2) (fun (u : (Nat → Int32) × (Nat → Int32) × (Nat → Int32) × (Nat → Int32) × Int32 × Int32) => [(h_this, .inr (4, [.ref h_this_stateRow, .ref h_this_headRow, .ref h_this_knownRow, .ref h_this_onesRow, .int u.2.2.2.2.1, .int u.2.2.2.2.2])), (h_this_stateRow, .inl (cy.1, 300, .inl u.1)), (h_this_headRow, .inl (cy.1, 300, .inl u.2.1)), (h_this_knownRow, .inl (cy.1, 300, .inl u.2.2.1)), (h_this_onesRow, .inl (cy.1, 300, .inl u.2.2.2.1))]) := by
  refine of_v (cc := cX4_add) (maxL := 7) (by decide) rfl (Nat.le_of_ble_eq_true rfl) ?_
  intro p e s m args below meth c A ls QQ T0 RT hP hD hS hl
  obtain ⟨hx, hb, hr, hts, hown, hlocks, hml, hin, hK, hN, hA⟩ := T0
  have hown : s.vm.findClass RX4 = some m.cls := hown
  have hl : lv_has ls 7 [(0, .ref h_this), (1, .int p1), (2, .int p2), (3, .int p3), (4, .int p4), (5, .int p5)] := hl
  have iX4 : ∀ w ∈ wsX40, w ∈ wsX4_add := fun _ h => List.mem_cons_of_mem _ (List.mem_append_right _ h)
  have k25 := hts (.fieldLink RX4 25 "HaltingDecider$Level" "count" "I") (List.mem_of_getElem? (i := 1) (by decide +kernel))
  have k29 := hts (.fieldLink RX4 29 "HaltingDecider$Level" "isOverfull" "Z") (List.mem_of_getElem? (i := 2) (by decide +kernel))
  have k9 := hts (.fieldLink RX4 9 "HaltingDecider$Level" "stateRow" "[I") (List.mem_of_getElem? (i := 3) (by decide +kernel))
  have k13 := hts (.fieldLink RX4 13 "HaltingDecider$Level" "headRow" "[I") (List.mem_of_getElem? (i := 4) (by decide +kernel))
  have k16 := hts (.fieldLink RX4 16 "HaltingDecider$Level" "knownRow" "[I") (List.mem_of_getElem? (i := 5) (by decide +kernel))
  have k19 := hts (.fieldLink RX4 19 "HaltingDecider$Level" "onesRow" "[I") (List.mem_of_getElem? (i := 6) (by decide +kernel))
  obtain ⟨H, hH⟩ : ∃ H, H = s.heap := ⟨_, rfl⟩
  obtain ⟨locs, hlo⟩ : ∃ z : List Loc, z = [] := ⟨_, rfl⟩
  have hS0 := hS
  rw [← hH] at hP ⊢
  rw [← hlo]
  replace hS : va_S A s.heap H locs := by rw [hH, hlo]; exact hS0
  refine lv_aload_n hx hb dX4_add_0 rfl (lv_at hl 0 rfl) ?_
  refine va_get (D := D) (ci := 4) (v := .int v_count) (C := RX4) (T := TX4) (N := 6) hx hb hts iX4 hown hK hP 0 rfl rfl 4 (by decide) k25 (fun _ h9 => h9) rfl dX4_add_1 ?_
  refine lv_if_lt (tgt := 17) hx hb dX4_add_4 (by decide) (fun c1 => ?_) (fun c1 => ?_)
  · replace h := h.1 c1
    refine lv_aload_n hx hb dX4_add_17 rfl (lv_at hl 0 rfl) ?_
    refine lv_iconst (v := 1) hx hb dX4_add_18 (by decide) ?_
    refine va_put (D := D) (ci := 4) (v := .int 1) (ty := .boolean) (C := RX4) (T := TX4) (N := 6) hx hb hts iX4 tyX4 tyX4_ok nmX4 hown hK hP hD hS 0 rfl rfl 5 (by decide) k29 (fun _ h9 => h9) rfl (tyX4_ok 5 (by decide)) rfl rfl (Nat.le_of_ble_eq_true rfl) dX4_add_19 (fun H locs hP hD hS => ?_)
    have hP : va_P D vwCl [(h_this, .inr (4, [.ref h_this_stateRow, .ref h_this_headRow, .ref h_this_knownRow, .ref h_this_onesRow, .int v_count, .int 1])), (h_this_stateRow, .inl (cy.1, 300, .inl v_stateRow)), (h_this_headRow, .inl (cy.1, 300, .inl v_headRow)), (h_this_knownRow, .inl (cy.1, 300, .inl v_knownRow)), (h_this_onesRow, .inl (cy.1, 300, .inl v_onesRow))] H := hP
    have hD : va_D A [(h_this, .inr (4, [.ref h_this_stateRow, .ref h_this_headRow, .ref h_this_knownRow, .ref h_this_onesRow, .int v_count, .int 1])), (h_this_stateRow, .inl (cy.1, 300, .inl v_stateRow)), (h_this_headRow, .inl (cy.1, 300, .inl v_headRow)), (h_this_knownRow, .inl (cy.1, 300, .inl v_knownRow)), (h_this_onesRow, .inl (cy.1, 300, .inl v_onesRow))] := hD
    exact RT 22 H locs ls (v_stateRow, v_headRow, v_knownRow, v_onesRow, v_count, 1) dX4_add_22 h (hP.sub [0, 1, 2, 3, 4] rfl) (hD.sub [0, 1, 2, 3, 4] (by decide) rfl) hS
  · replace h := h.2 c1
    refine lv_aload_n hx hb dX4_add_7 rfl (lv_at hl 0 rfl) ?_
    refine va_get (D := D) (ci := 4) (v := .int v_count) (C := RX4) (T := TX4) (N := 6) hx hb hts iX4 hown hK hP 0 rfl rfl 4 (by decide) k25 (fun _ h9 => h9) rfl dX4_add_8 ?_
    refine lv_sipush (v := 300) hx hb dX4_add_11 (by decide) ?_
    refine lv_icmp_lt (tgt := 23) hx hb dX4_add_14 (by decide) (fun c2 => ?_) (fun c2 => ?_)
    · replace h := h.1 c2
      refine lv_iconst (v := 1) hx hb dX4_add_23 (by decide) ?_
      refine lv_iload_n hx hb dX4_add_24 rfl (lv_at hl 2 rfl) ?_
      refine lv_ishl hx hb dX4_add_25 ?_
      refine lv_topi (fun x3 ex3 => ?_)
      replace h := h x3 ex3
      refine lv_istore (lv' := [(6, .int x3), (0, .ref h_this), (1, .int p1), (2, .int p2), (3, .int p3), (4, .int p4), (5, .int p5)]) hx hb dX4_add_26 hl (by decide) rfl (fun ls hl => ?_)
      refine lv_aload_n hx hb dX4_add_28 rfl (lv_at hl 1 rfl) ?_
      refine va_get (D := D) (ci := 4) (v := .ref h_this_stateRow) (C := RX4) (T := TX4) (N := 6) hx hb hts iX4 hown hK hP 0 rfl rfl 0 (by decide) k9 (fun _ h9 => h9) rfl dX4_add_29 ?_
      refine lv_aload_n hx hb dX4_add_32 rfl (lv_at hl 1 rfl) ?_
      refine va_get (D := D) (ci := 4) (v := .int v_count) (C := RX4) (T := TX4) (N := 6) hx hb hts iX4 hown hK hP 0 rfl rfl 4 (by decide) k25 (fun _ h9 => h9) rfl dX4_add_33 ?_
      refine lv_iload_n hx hb dX4_add_36 rfl (lv_at hl 2 rfl) ?_
      have b4 := h.1
      replace h := h.2
      refine va_iast hx hb hK hP hD hS 1 0 rfl rfl b4 dX4_add_37 (fun H locs hP hD hS => ?_)
      have hP : va_P D vwCl [(h_this, .inr (4, [.ref h_this_stateRow, .ref h_this_headRow, .ref h_this_knownRow, .ref h_this_onesRow, .int v_count, .int v_isOverfull])), (h_this_stateRow, .inl (cy.1, 300, .inl (upd v_stateRow v_count.toNatClampNeg p1))), (h_this_headRow, .inl (cy.1, 300, .inl v_headRow)), (h_this_knownRow, .inl (cy.1, 300, .inl v_knownRow)), (h_this_onesRow, .inl (cy.1, 300, .inl v_onesRow))] H := hP
      have hD : va_D A [(h_this, .inr (4, [.ref h_this_stateRow, .ref h_this_headRow, .ref h_this_knownRow, .ref h_this_onesRow, .int v_count, .int v_isOverfull])), (h_this_stateRow, .inl (cy.1, 300, .inl (upd v_stateRow v_count.toNatClampNeg p1))), (h_this_headRow, .inl (cy.1, 300, .inl v_headRow)), (h_this_knownRow, .inl (cy.1, 300, .inl v_knownRow)), (h_this_onesRow, .inl (cy.1, 300, .inl v_onesRow))] := hD
      refine lv_aload_n hx hb dX4_add_38 rfl (lv_at hl 1 rfl) ?_
      refine va_get (D := D) (ci := 4) (v := .ref h_this_headRow) (C := RX4) (T := TX4) (N := 6) hx hb hts iX4 hown hK hP 0 rfl rfl 1 (by decide) k13 (fun _ h9 => h9) rfl dX4_add_39 ?_
      refine lv_aload_n hx hb dX4_add_42 rfl (lv_at hl 1 rfl) ?_
      refine va_get (D := D) (ci := 4) (v := .int v_count) (C := RX4) (T := TX4) (N := 6) hx hb hts iX4 hown hK hP 0 rfl rfl 4 (by decide) k25 (fun _ h9 => h9) rfl dX4_add_43 ?_
      refine lv_iload_n hx hb dX4_add_46 rfl (lv_at hl 3 rfl) ?_
      have b5 := h.1
      replace h := h.2
      refine va_iast hx hb hK hP hD hS 2 0 rfl rfl b5 dX4_add_47 (fun H locs hP hD hS => ?_)
      have hP : va_P D vwCl [(h_this, .inr (4, [.ref h_this_stateRow, .ref h_this_headRow, .ref h_this_knownRow, .ref h_this_onesRow, .int v_count, .int v_isOverfull])), (h_this_stateRow, .inl (cy.1, 300, .inl (upd v_stateRow v_count.toNatClampNeg p1))), (h_this_headRow, .inl (cy.1, 300, .inl (upd v_headRow v_count.toNatClampNeg p2))), (h_this_knownRow, .inl (cy.1, 300, .inl v_knownRow)), (h_this_onesRow, .inl (cy.1, 300, .inl v_onesRow))] H := hP
      have hD : va_D A [(h_this, .inr (4, [.ref h_this_stateRow, .ref h_this_headRow, .ref h_this_knownRow, .ref h_this_onesRow, .int v_count, .int v_isOverfull])), (h_this_stateRow, .inl (cy.1, 300, .inl (upd v_stateRow v_count.toNatClampNeg p1))), (h_this_headRow, .inl (cy.1, 300, .inl (upd v_headRow v_count.toNatClampNeg p2))), (h_this_knownRow, .inl (cy.1, 300, .inl v_knownRow)), (h_this_onesRow, .inl (cy.1, 300, .inl v_onesRow))] := hD
      refine lv_aload_n hx hb dX4_add_48 rfl (lv_at hl 1 rfl) ?_
      refine va_get (D := D) (ci := 4) (v := .ref h_this_knownRow) (C := RX4) (T := TX4) (N := 6) hx hb hts iX4 hown hK hP 0 rfl rfl 2 (by decide) k16 (fun _ h9 => h9) rfl dX4_add_49 ?_
      refine lv_aload_n hx hb dX4_add_52 rfl (lv_at hl 1 rfl) ?_
      refine va_get (D := D) (ci := 4) (v := .int v_count) (C := RX4) (T := TX4) (N := 6) hx hb hts iX4 hown hK hP 0 rfl rfl 4 (by decide) k25 (fun _ h9 => h9) rfl dX4_add_53 ?_
      refine lv_iload_n hx hb dX4_add_56 rfl (lv_at hl 4 rfl) ?_
      refine lv_iload hx hb dX4_add_57 (lv_at hl 0 rfl) ?_
      refine lv_ior hx hb dX4_add_59 ?_
      have b6 := h.1
      replace h := h.2
      refine va_iast hx hb hK hP hD hS 3 0 rfl rfl b6 dX4_add_60 (fun H locs hP hD hS => ?_)
      have hP : va_P D vwCl [(h_this, .inr (4, [.ref h_this_stateRow, .ref h_this_headRow, .ref h_this_knownRow, .ref h_this_onesRow, .int v_count, .int v_isOverfull])), (h_this_stateRow, .inl (cy.1, 300, .inl (upd v_stateRow v_count.toNatClampNeg p1))), (h_this_headRow, .inl (cy.1, 300, .inl (upd v_headRow v_count.toNatClampNeg p2))), (h_this_knownRow, .inl (cy.1, 300, .inl (upd v_knownRow v_count.toNatClampNeg (p3 ||| x3)))), (h_this_onesRow, .inl (cy.1, 300, .inl v_onesRow))] H := hP
      have hD : va_D A [(h_this, .inr (4, [.ref h_this_stateRow, .ref h_this_headRow, .ref h_this_knownRow, .ref h_this_onesRow, .int v_count, .int v_isOverfull])), (h_this_stateRow, .inl (cy.1, 300, .inl (upd v_stateRow v_count.toNatClampNeg p1))), (h_this_headRow, .inl (cy.1, 300, .inl (upd v_headRow v_count.toNatClampNeg p2))), (h_this_knownRow, .inl (cy.1, 300, .inl (upd v_knownRow v_count.toNatClampNeg (p3 ||| x3)))), (h_this_onesRow, .inl (cy.1, 300, .inl v_onesRow))] := hD
      refine lv_aload_n hx hb dX4_add_61 rfl (lv_at hl 1 rfl) ?_
      refine va_get (D := D) (ci := 4) (v := .ref h_this_onesRow) (C := RX4) (T := TX4) (N := 6) hx hb hts iX4 hown hK hP 0 rfl rfl 3 (by decide) k19 (fun _ h9 => h9) rfl dX4_add_62 ?_
      refine lv_aload_n hx hb dX4_add_65 rfl (lv_at hl 1 rfl) ?_
      refine va_get (D := D) (ci := 4) (v := .int v_count) (C := RX4) (T := TX4) (N := 6) hx hb hts iX4 hown hK hP 0 rfl rfl 4 (by decide) k25 (fun _ h9 => h9) rfl dX4_add_66 ?_
      refine lv_iload hx hb dX4_add_69 (lv_at hl 6 rfl) ?_
      refine lv_iconst (v := 1) hx hb dX4_add_71 (by decide) ?_
      refine lv_icmp_ne (tgt := 83) hx hb dX4_add_72 (by decide) (fun c7 => ?_) (fun c7 => ?_)
      · replace h := h.1 c7
        refine lv_iload hx hb dX4_add_83 (lv_at hl 5 rfl) ?_
        refine lv_iload hx hb dX4_add_85 (lv_at hl 0 rfl) ?_
        refine lv_iconst (v := (-1)) hx hb dX4_add_87 (by decide) ?_
        refine lv_ixor hx hb dX4_add_88 ?_
        refine lv_iand hx hb dX4_add_89 ?_
        have b8 := h.1
        replace h := h.2
        refine va_iast hx hb hK hP hD hS 4 0 rfl rfl b8 dX4_add_90 (fun H locs hP hD hS => ?_)
        have hP : va_P D vwCl [(h_this, .inr (4, [.ref h_this_stateRow, .ref h_this_headRow, .ref h_this_knownRow, .ref h_this_onesRow, .int v_count, .int v_isOverfull])), (h_this_stateRow, .inl (cy.1, 300, .inl (upd v_stateRow v_count.toNatClampNeg p1))), (h_this_headRow, .inl (cy.1, 300, .inl (upd v_headRow v_count.toNatClampNeg p2))), (h_this_knownRow, .inl (cy.1, 300, .inl (upd v_knownRow v_count.toNatClampNeg (p3 ||| x3)))), (h_this_onesRow, .inl (cy.1, 300, .inl (upd v_onesRow v_count.toNatClampNeg (p4 &&& (x3 ^^^ (-1))))))] H := hP
        have hD : va_D A [(h_this, .inr (4, [.ref h_this_stateRow, .ref h_this_headRow, .ref h_this_knownRow, .ref h_this_onesRow, .int v_count, .int v_isOverfull])), (h_this_stateRow, .inl (cy.1, 300, .inl (upd v_stateRow v_count.toNatClampNeg p1))), (h_this_headRow, .inl (cy.1, 300, .inl (upd v_headRow v_count.toNatClampNeg p2))), (h_this_knownRow, .inl (cy.1, 300, .inl (upd v_knownRow v_count.toNatClampNeg (p3 ||| x3)))), (h_this_onesRow, .inl (cy.1, 300, .inl (upd v_onesRow v_count.toNatClampNeg (p4 &&& (x3 ^^^ (-1))))))] := hD
        refine lv_aload_n hx hb dX4_add_91 rfl (lv_at hl 1 rfl) ?_
        refine lv_dup hx hb dX4_add_92 rfl ?_
        refine va_get (D := D) (ci := 4) (v := .int v_count) (C := RX4) (T := TX4) (N := 6) hx hb hts iX4 hown hK hP 0 rfl rfl 4 (by decide) k25 (fun _ h9 => h9) rfl dX4_add_93 ?_
        refine lv_iconst (v := 1) hx hb dX4_add_96 (by decide) ?_
        refine lv_iadd hx hb dX4_add_97 ?_
        refine lv_topi (fun x9 ex9 => ?_)
        replace h := h x9 ex9
        refine va_put (D := D) (ci := 4) (v := .int x9) (ty := .int) (C := RX4) (T := TX4) (N := 6) hx hb hts iX4 tyX4 tyX4_ok nmX4 hown hK hP hD hS 0 rfl rfl 4 (by decide) k25 (fun _ h9 => h9) rfl (tyX4_ok 4 (by decide)) rfl rfl (Nat.le_of_ble_eq_true rfl) dX4_add_98 (fun H locs hP hD hS => ?_)
        have hP : va_P D vwCl [(h_this, .inr (4, [.ref h_this_stateRow, .ref h_this_headRow, .ref h_this_knownRow, .ref h_this_onesRow, .int x9, .int v_isOverfull])), (h_this_stateRow, .inl (cy.1, 300, .inl (upd v_stateRow v_count.toNatClampNeg p1))), (h_this_headRow, .inl (cy.1, 300, .inl (upd v_headRow v_count.toNatClampNeg p2))), (h_this_knownRow, .inl (cy.1, 300, .inl (upd v_knownRow v_count.toNatClampNeg (p3 ||| x3)))), (h_this_onesRow, .inl (cy.1, 300, .inl (upd v_onesRow v_count.toNatClampNeg (p4 &&& (x3 ^^^ (-1))))))] H := hP
        have hD : va_D A [(h_this, .inr (4, [.ref h_this_stateRow, .ref h_this_headRow, .ref h_this_knownRow, .ref h_this_onesRow, .int x9, .int v_isOverfull])), (h_this_stateRow, .inl (cy.1, 300, .inl (upd v_stateRow v_count.toNatClampNeg p1))), (h_this_headRow, .inl (cy.1, 300, .inl (upd v_headRow v_count.toNatClampNeg p2))), (h_this_knownRow, .inl (cy.1, 300, .inl (upd v_knownRow v_count.toNatClampNeg (p3 ||| x3)))), (h_this_onesRow, .inl (cy.1, 300, .inl (upd v_onesRow v_count.toNatClampNeg (p4 &&& (x3 ^^^ (-1))))))] := hD
        exact RT 101 H locs ls (upd v_stateRow v_count.toNatClampNeg p1, upd v_headRow v_count.toNatClampNeg p2, upd v_knownRow v_count.toNatClampNeg (p3 ||| x3), upd v_onesRow v_count.toNatClampNeg (p4 &&& (x3 ^^^ (-1))), x9, v_isOverfull) dX4_add_101 h (hP.sub [0, 1, 2, 3, 4] rfl) (hD.sub [0, 1, 2, 3, 4] (by decide) rfl) hS
      · replace h := h.2 c7
        refine lv_iload hx hb dX4_add_75 (lv_at hl 5 rfl) ?_
        refine lv_iload hx hb dX4_add_77 (lv_at hl 0 rfl) ?_
        refine lv_ior hx hb dX4_add_79 ?_
        refine lv_goto (tgt := 90) hx hb dX4_add_80 (by decide) ?_
        have b10 := h.1
        replace h := h.2
        refine va_iast hx hb hK hP hD hS 4 0 rfl rfl b10 dX4_add_90 (fun H locs hP hD hS => ?_)
        have hP : va_P D vwCl [(h_this, .inr (4, [.ref h_this_stateRow, .ref h_this_headRow, .ref h_this_knownRow, .ref h_this_onesRow, .int v_count, .int v_isOverfull])), (h_this_stateRow, .inl (cy.1, 300, .inl (upd v_stateRow v_count.toNatClampNeg p1))), (h_this_headRow, .inl (cy.1, 300, .inl (upd v_headRow v_count.toNatClampNeg p2))), (h_this_knownRow, .inl (cy.1, 300, .inl (upd v_knownRow v_count.toNatClampNeg (p3 ||| x3)))), (h_this_onesRow, .inl (cy.1, 300, .inl (upd v_onesRow v_count.toNatClampNeg (p4 ||| x3))))] H := hP
        have hD : va_D A [(h_this, .inr (4, [.ref h_this_stateRow, .ref h_this_headRow, .ref h_this_knownRow, .ref h_this_onesRow, .int v_count, .int v_isOverfull])), (h_this_stateRow, .inl (cy.1, 300, .inl (upd v_stateRow v_count.toNatClampNeg p1))), (h_this_headRow, .inl (cy.1, 300, .inl (upd v_headRow v_count.toNatClampNeg p2))), (h_this_knownRow, .inl (cy.1, 300, .inl (upd v_knownRow v_count.toNatClampNeg (p3 ||| x3)))), (h_this_onesRow, .inl (cy.1, 300, .inl (upd v_onesRow v_count.toNatClampNeg (p4 ||| x3))))] := hD
        refine lv_aload_n hx hb dX4_add_91 rfl (lv_at hl 1 rfl) ?_
        refine lv_dup hx hb dX4_add_92 rfl ?_
        refine va_get (D := D) (ci := 4) (v := .int v_count) (C := RX4) (T := TX4) (N := 6) hx hb hts iX4 hown hK hP 0 rfl rfl 4 (by decide) k25 (fun _ h9 => h9) rfl dX4_add_93 ?_
        refine lv_iconst (v := 1) hx hb dX4_add_96 (by decide) ?_
        refine lv_iadd hx hb dX4_add_97 ?_
        refine lv_topi (fun x11 ex11 => ?_)
        replace h := h x11 ex11
        refine va_put (D := D) (ci := 4) (v := .int x11) (ty := .int) (C := RX4) (T := TX4) (N := 6) hx hb hts iX4 tyX4 tyX4_ok nmX4 hown hK hP hD hS 0 rfl rfl 4 (by decide) k25 (fun _ h9 => h9) rfl (tyX4_ok 4 (by decide)) rfl rfl (Nat.le_of_ble_eq_true rfl) dX4_add_98 (fun H locs hP hD hS => ?_)
        have hP : va_P D vwCl [(h_this, .inr (4, [.ref h_this_stateRow, .ref h_this_headRow, .ref h_this_knownRow, .ref h_this_onesRow, .int x11, .int v_isOverfull])), (h_this_stateRow, .inl (cy.1, 300, .inl (upd v_stateRow v_count.toNatClampNeg p1))), (h_this_headRow, .inl (cy.1, 300, .inl (upd v_headRow v_count.toNatClampNeg p2))), (h_this_knownRow, .inl (cy.1, 300, .inl (upd v_knownRow v_count.toNatClampNeg (p3 ||| x3)))), (h_this_onesRow, .inl (cy.1, 300, .inl (upd v_onesRow v_count.toNatClampNeg (p4 ||| x3))))] H := hP
        have hD : va_D A [(h_this, .inr (4, [.ref h_this_stateRow, .ref h_this_headRow, .ref h_this_knownRow, .ref h_this_onesRow, .int x11, .int v_isOverfull])), (h_this_stateRow, .inl (cy.1, 300, .inl (upd v_stateRow v_count.toNatClampNeg p1))), (h_this_headRow, .inl (cy.1, 300, .inl (upd v_headRow v_count.toNatClampNeg p2))), (h_this_knownRow, .inl (cy.1, 300, .inl (upd v_knownRow v_count.toNatClampNeg (p3 ||| x3)))), (h_this_onesRow, .inl (cy.1, 300, .inl (upd v_onesRow v_count.toNatClampNeg (p4 ||| x3))))] := hD
        exact RT 101 H locs ls (upd v_stateRow v_count.toNatClampNeg p1, upd v_headRow v_count.toNatClampNeg p2, upd v_knownRow v_count.toNatClampNeg (p3 ||| x3), upd v_onesRow v_count.toNatClampNeg (p4 ||| x3), x11, v_isOverfull) dX4_add_101 h (hP.sub [0, 1, 2, 3, 4] rfl) (hD.sub [0, 1, 2, 3, 4] (by decide) rfl) hS
    · replace h := h.2 c2
      refine lv_aload_n hx hb dX4_add_17 rfl (lv_at hl 0 rfl) ?_
      refine lv_iconst (v := 1) hx hb dX4_add_18 (by decide) ?_
      refine va_put (D := D) (ci := 4) (v := .int 1) (ty := .boolean) (C := RX4) (T := TX4) (N := 6) hx hb hts iX4 tyX4 tyX4_ok nmX4 hown hK hP hD hS 0 rfl rfl 5 (by decide) k29 (fun _ h9 => h9) rfl (tyX4_ok 5 (by decide)) rfl rfl (Nat.le_of_ble_eq_true rfl) dX4_add_19 (fun H locs hP hD hS => ?_)
      have hP : va_P D vwCl [(h_this, .inr (4, [.ref h_this_stateRow, .ref h_this_headRow, .ref h_this_knownRow, .ref h_this_onesRow, .int v_count, .int 1])), (h_this_stateRow, .inl (cy.1, 300, .inl v_stateRow)), (h_this_headRow, .inl (cy.1, 300, .inl v_headRow)), (h_this_knownRow, .inl (cy.1, 300, .inl v_knownRow)), (h_this_onesRow, .inl (cy.1, 300, .inl v_onesRow))] H := hP
      have hD : va_D A [(h_this, .inr (4, [.ref h_this_stateRow, .ref h_this_headRow, .ref h_this_knownRow, .ref h_this_onesRow, .int v_count, .int 1])), (h_this_stateRow, .inl (cy.1, 300, .inl v_stateRow)), (h_this_headRow, .inl (cy.1, 300, .inl v_headRow)), (h_this_knownRow, .inl (cy.1, 300, .inl v_knownRow)), (h_this_onesRow, .inl (cy.1, 300, .inl v_onesRow))] := hD
      exact RT 22 H locs ls (v_stateRow, v_headRow, v_knownRow, v_onesRow, v_count, 1) dX4_add_22 h (hP.sub [0, 1, 2, 3, 4] rfl) (hD.sub [0, 1, 2, 3, 4] (by decide) rfl) hS
def pX4_matchesStart_j37 (v_stateRow : Nat → Int32) (v_onesRow : Nat → Int32) (v_count : Int32) (Q : Int32 → Prop) (X2 : Int32 → Prop) (l1 : Int32) : Prop :=
  (∀ x5 : Int32, x5 = l1 + 1 → X2 x5)
def pX4_matchesStart_B2 (v_stateRow : Nat → Int32) (v_onesRow : Nat → Int32) (v_count : Int32) (Q : Int32 → Prop) (X2 : Int32 → Prop) : Int32 → Prop := fun v => match v with
  | l1 => ((v_count ≤ l1 → Q 0) ∧ (¬ v_count ≤ l1 → (((300 : Int32) ≤ l1 → Q 0) ∧ (¬ (300 : Int32) ≤ l1 → (vp_in l1 300 ∧ ((¬ (v_stateRow l1.toNatClampNeg) = 0 → pX4_matchesStart_j37 v_stateRow v_onesRow v_count Q X2 l1) ∧ ((v_stateRow l1.toNatClampNeg) = 0 → (vp_in l1 300 ∧ ((¬ (v_onesRow l1.toNatClampNeg) = 0 → pX4_matchesStart_j37 v_stateRow v_onesRow v_count Q X2 l1) ∧ ((v_onesRow l1.toNatClampNeg) = 0 → Q 1))))))))))
def pX4_matchesStart (v_stateRow : Nat → Int32) (v_onesRow : Nat → Int32) (v_count : Int32) (Q : Int32 → Prop) : Prop :=
  Lp (pX4_matchesStart_B2 v_stateRow v_onesRow v_count Q) 0
abbrev rmX4_matchesStart : Room := { frames := 0, cells := 0, slots := 0, locals := 0 }
set_option maxHeartbeats 4000000 in
set_option maxRecDepth 100000 in
theorem mX4_matchesStart (l : Launch) (D : va_G) (cy : Cy) (h_this : Nat) (h_this_stateRow : Nat) (h_this_headRow : Nat) (h_this_knownRow : Nat) (h_this_onesRow : Nat) (v_count : Int32) (v_isOverfull : Int32) (v_stateRow : Nat → Int32) (v_onesRow : Nat → Int32) (Q : Int32 → Prop) (h : pX4_matchesStart v_stateRow v_onesRow v_count Q) : Ci l yX4_matchesStart wsX4_matchesStart rmX4_matchesStart D cy [(h_this, .inr (4, [.ref h_this_stateRow, .ref h_this_headRow, .ref h_this_knownRow, .ref h_this_onesRow, .int v_count, .int v_isOverfull])), (h_this_stateRow, .inl (cy.1, 300, .inl v_stateRow)), (h_this_onesRow, .inl (cy.1, 300, .inl v_onesRow))] [.ref h_this] (fun (r : Int32) (_ : Unit) => Q r) (fun (_ : Unit) => [(h_this, .inr (4, [.ref h_this_stateRow, .ref h_this_headRow, .ref h_this_knownRow, .ref h_this_onesRow, .int v_count, .int v_isOverfull])), (h_this_stateRow, .inl (cy.1, 300, .inl v_stateRow)), (h_this_onesRow, .inl (cy.1, 300, .inl v_onesRow))]) := by
  refine of_z (cc := cX4_matchesStart) (maxL := 2) (by decide) rfl (Nat.le_of_ble_eq_true rfl) ?_
  intro p e s m args below meth c A ls QQ T0 RT hP hD hS hl
  obtain ⟨hx, hb, hr, hts, hown, hlocks, hml, hin, hK, hN, hA⟩ := T0
  have hown : s.vm.findClass RX4 = some m.cls := hown
  have hl : lv_has ls 2 [(0, .ref h_this)] := hl
  have iX4 : ∀ w ∈ wsX40, w ∈ wsX4_matchesStart := fun _ h => List.mem_cons_of_mem _ (List.mem_append_right _ h)
  have k25 := hts (.fieldLink RX4 25 "HaltingDecider$Level" "count" "I") (List.mem_of_getElem? (i := 1) (by decide +kernel))
  have k9 := hts (.fieldLink RX4 9 "HaltingDecider$Level" "stateRow" "[I") (List.mem_of_getElem? (i := 2) (by decide +kernel))
  have k19 := hts (.fieldLink RX4 19 "HaltingDecider$Level" "onesRow" "[I") (List.mem_of_getElem? (i := 3) (by decide +kernel))
  have L2 : ∀ (v : Int32), Lp (pX4_matchesStart_B2 v_stateRow v_onesRow v_count Q) v → ∀ (H : Heap) (locs : List Loc) (ls : Array Slot), va_P D vwCl [(h_this, .inr (4, [.ref h_this_stateRow, .ref h_this_headRow, .ref h_this_knownRow, .ref h_this_onesRow, .int v_count, .int v_isOverfull])), (h_this_stateRow, .inl (cy.1, 300, .inl v_stateRow)), (h_this_onesRow, .inl (cy.1, 300, .inl v_onesRow))] H → va_D A [(h_this, .inr (4, [.ref h_this_stateRow, .ref h_this_headRow, .ref h_this_knownRow, .ref h_this_onesRow, .int v_count, .int v_isOverfull])), (h_this_stateRow, .inl (cy.1, 300, .inl v_stateRow)), (h_this_onesRow, .inl (cy.1, 300, .inl v_onesRow))] → va_S A s.heap H locs → lv_has ls 2 [(0, .ref h_this), (1, .int v)] → W p l e rmX4_matchesStart s m args below meth c H locs 0 0 QQ (F0 m 2 ls []) := by
    intro v h
    refine h (fun v => ∀ (H : Heap) (locs : List Loc) (ls : Array Slot), va_P D vwCl [(h_this, .inr (4, [.ref h_this_stateRow, .ref h_this_headRow, .ref h_this_knownRow, .ref h_this_onesRow, .int v_count, .int v_isOverfull])), (h_this_stateRow, .inl (cy.1, 300, .inl v_stateRow)), (h_this_onesRow, .inl (cy.1, 300, .inl v_onesRow))] H → va_D A [(h_this, .inr (4, [.ref h_this_stateRow, .ref h_this_headRow, .ref h_this_knownRow, .ref h_this_onesRow, .int v_count, .int v_isOverfull])), (h_this_stateRow, .inl (cy.1, 300, .inl v_stateRow)), (h_this_onesRow, .inl (cy.1, 300, .inl v_onesRow))] → va_S A s.heap H locs → lv_has ls 2 [(0, .ref h_this), (1, .int v)] → W p l e rmX4_matchesStart s m args below meth c H locs 0 0 QQ (F0 m 2 ls [])) ?_
    clear h v
    intro v X2 hY2 h H locs ls hP hD hS hl
    obtain ⟨l1, rfl⟩ : ∃ z, z = v := ⟨_, rfl⟩
    have hP : va_P D vwCl [(h_this, .inr (4, [.ref h_this_stateRow, .ref h_this_headRow, .ref h_this_knownRow, .ref h_this_onesRow, .int v_count, .int v_isOverfull])), (h_this_stateRow, .inl (cy.1, 300, .inl v_stateRow)), (h_this_onesRow, .inl (cy.1, 300, .inl v_onesRow))] H := hP
    have hD : va_D A [(h_this, .inr (4, [.ref h_this_stateRow, .ref h_this_headRow, .ref h_this_knownRow, .ref h_this_onesRow, .int v_count, .int v_isOverfull])), (h_this_stateRow, .inl (cy.1, 300, .inl v_stateRow)), (h_this_onesRow, .inl (cy.1, 300, .inl v_onesRow))] := hD
    have hl : lv_has ls 2 [(0, .ref h_this), (1, .int l1)] := hl
    have J37 : ∀ (l1 : Int32) (H : Heap) (locs : List Loc) (ls : Array Slot), pX4_matchesStart_j37 v_stateRow v_onesRow v_count Q X2 l1 → va_P D vwCl [(h_this, .inr (4, [.ref h_this_stateRow, .ref h_this_headRow, .ref h_this_knownRow, .ref h_this_onesRow, .int v_count, .int v_isOverfull])), (h_this_stateRow, .inl (cy.1, 300, .inl v_stateRow)), (h_this_onesRow, .inl (cy.1, 300, .inl v_onesRow))] H → va_D A [(h_this, .inr (4, [.ref h_this_stateRow, .ref h_this_headRow, .ref h_this_knownRow, .ref h_this_onesRow, .int v_count, .int v_isOverfull])), (h_this_stateRow, .inl (cy.1, 300, .inl v_stateRow)), (h_this_onesRow, .inl (cy.1, 300, .inl v_onesRow))] → va_S A s.heap H locs → lv_has ls 2 [(0, .ref h_this), (1, .int l1)] → W p l e rmX4_matchesStart s m args below meth c H locs 0 0 QQ (F0 m 37 ls []) := by
      intro l1 H locs ls h hP hD hS hl
      obtain ⟨x5, ex5⟩ : ∃ y : Int32, y = l1 + 1 := ⟨_, rfl⟩
      replace h := h x5 ex5
      refine lv_iinc (v := x5) (lv' := [(1, .int x5), (0, .ref h_this)]) hx hb dX4_matchesStart_37 hl (k := 1) rfl (by rw [ex5]; rfl) (by decide) rfl (fun ls hl => ?_)
      refine lv_goto (tgt := 2) hx hb dX4_matchesStart_40 (by decide) ?_
      exact hY2 x5 h H locs ls (hP.sub [0, 1, 2] rfl) (hD.sub [0, 1, 2] (by decide) rfl) hS (lv_sub hl [1, 0] rfl)
    refine lv_iload_n hx hb dX4_matchesStart_2 rfl (lv_at hl 1 rfl) ?_
    refine lv_aload_n hx hb dX4_matchesStart_3 rfl (lv_at hl 0 rfl) ?_
    refine va_get (D := D) (ci := 4) (v := .int v_count) (C := RX4) (T := TX4) (N := 6) hx hb hts iX4 hown hK hP 0 rfl rfl 4 (by decide) k25 (fun _ h9 => h9) rfl dX4_matchesStart_4 ?_
    refine lv_icmp_ge (tgt := 43) hx hb dX4_matchesStart_7 (by decide) (fun c1 => ?_) (fun c1 => ?_)
    · replace h := h.1 c1
      refine lv_iconst (v := 0) hx hb dX4_matchesStart_43 (by decide) ?_
      exact RT 44 H locs ls 0 () dX4_matchesStart_44 isB_0 h (hP.sub [0, 1, 2] rfl) (hD.sub [0, 1, 2] (by decide) rfl) hS
    · replace h := h.2 c1
      refine lv_iload_n hx hb dX4_matchesStart_10 rfl (lv_at hl 1 rfl) ?_
      refine lv_sipush (v := 300) hx hb dX4_matchesStart_11 (by decide) ?_
      refine lv_icmp_ge (tgt := 43) hx hb dX4_matchesStart_14 (by decide) (fun c2 => ?_) (fun c2 => ?_)
      · replace h := h.1 c2
        refine lv_iconst (v := 0) hx hb dX4_matchesStart_43 (by decide) ?_
        exact RT 44 H locs ls 0 () dX4_matchesStart_44 isB_0 h (hP.sub [0, 1, 2] rfl) (hD.sub [0, 1, 2] (by decide) rfl) hS
      · replace h := h.2 c2
        refine lv_aload_n hx hb dX4_matchesStart_17 rfl (lv_at hl 0 rfl) ?_
        refine va_get (D := D) (ci := 4) (v := .ref h_this_stateRow) (C := RX4) (T := TX4) (N := 6) hx hb hts iX4 hown hK hP 0 rfl rfl 0 (by decide) k9 (fun _ h9 => h9) rfl dX4_matchesStart_18 ?_
        refine lv_iload_n hx hb dX4_matchesStart_21 rfl (lv_at hl 1 rfl) ?_
        have b3 := h.1
        replace h := h.2
        refine va_iald hx hb hK hP 1 0 rfl rfl b3 dX4_matchesStart_22 ?_
        refine lv_if_ne (tgt := 37) hx hb dX4_matchesStart_23 (by decide) (fun c4 => ?_) (fun c4 => ?_)
        · replace h := h.1 c4
          exact J37 l1 H locs ls h (hP.sub [0, 1, 2] rfl) (hD.sub [0, 1, 2] (by decide) rfl) hS (lv_sub hl [0, 1] rfl)
        · replace h := h.2 c4
          refine lv_aload_n hx hb dX4_matchesStart_26 rfl (lv_at hl 0 rfl) ?_
          refine va_get (D := D) (ci := 4) (v := .ref h_this_onesRow) (C := RX4) (T := TX4) (N := 6) hx hb hts iX4 hown hK hP 0 rfl rfl 3 (by decide) k19 (fun _ h9 => h9) rfl dX4_matchesStart_27 ?_
          refine lv_iload_n hx hb dX4_matchesStart_30 rfl (lv_at hl 1 rfl) ?_
          have b6 := h.1
          replace h := h.2
          refine va_iald hx hb hK hP 2 0 rfl rfl b6 dX4_matchesStart_31 ?_
          refine lv_if_ne (tgt := 37) hx hb dX4_matchesStart_32 (by decide) (fun c7 => ?_) (fun c7 => ?_)
          · replace h := h.1 c7
            exact J37 l1 H locs ls h (hP.sub [0, 1, 2] rfl) (hD.sub [0, 1, 2] (by decide) rfl) hS (lv_sub hl [0, 1] rfl)
          · replace h := h.2 c7
            refine lv_iconst (v := 1) hx hb dX4_matchesStart_35 (by decide) ?_
            exact RT 36 H locs ls 1 () dX4_matchesStart_36 isB_1 h (hP.sub [0, 1, 2] rfl) (hD.sub [0, 1, 2] (by decide) rfl) hS
  obtain ⟨H, hH⟩ : ∃ H, H = s.heap := ⟨_, rfl⟩
  obtain ⟨locs, hlo⟩ : ∃ z : List Loc, z = [] := ⟨_, rfl⟩
  have hS0 := hS
  rw [← hH] at hP ⊢
  rw [← hlo]
  replace hS : va_S A s.heap H locs := by rw [hH, hlo]; exact hS0
  refine lv_iconst (v := 0) hx hb dX4_matchesStart_0 (by decide) ?_
  refine lv_istore_n (lv' := [(1, .int 0), (0, .ref h_this)]) hx hb dX4_matchesStart_1 rfl hl (by decide) rfl (fun ls hl => ?_)
  exact L2 0 h H locs ls (hP.sub [0, 1, 2] rfl) (hD.sub [0, 1, 2] (by decide) rfl) hS (lv_sub hl [1, 0] rfl)
def pX5_reset (p1 : Int32) (v_count : Int32) (v_following : Nat → Int32) (Q : Int32 → (Nat → Int32) → Prop) : Prop :=
  (∀ x1 : Int32, x1 = (if (5 : Int32) < p1 then (5 : Int32) else p1) → pJ7_fill_53178 10 (-1) v_following (fun w2 => Q x1 w2))
abbrev rmX5_reset : Room := { frames := 1, cells := 0, slots := 0, locals := 23 }
set_option maxHeartbeats 4000000 in
set_option maxRecDepth 100000 in
theorem mX5_reset (l : Launch) (D : va_G) (cy : Cy) (h_this : Nat) (h_this_written : Nat) (h_this_moved : Nat) (h_this_following : Nat) (v_count : Int32) (v_following : Nat → Int32) (p1 : Int32) (Q : Int32 → (Nat → Int32) → Prop) (h : pX5_reset p1 v_count v_following Q) : Cv l yX5_reset wsX5_reset rmX5_reset 0 0 D cy [(h_this, .inr (5, [.int v_count, .ref h_this_written, .ref h_this_moved, .ref h_this_following])), (h_this_following, .inl (cy.1, 10, .inl v_following))] [.ref h_this, .int p1] (fun (u : Int32 × (Nat → Int32)) => Q u.1 u.2) (fun (u : Int32 × (Nat → Int32)) => [(h_this, .inr (5, [.int u.1, .ref h_this_written, .ref h_this_moved, .ref h_this_following])), (h_this_following, .inl (cy.1, 10, .inl u.2))]) := by
  refine of_v (cc := cX5_reset) (maxL := 2) (by decide) rfl (Nat.le_of_ble_eq_true rfl) ?_
  intro p e s m args below meth c A ls QQ T0 RT hP hD hS hl
  obtain ⟨hx, hb, hr, hts, hown, hlocks, hml, hin, hK, hN, hA⟩ := T0
  have hown : s.vm.findClass RX5 = some m.cls := hown
  have hl : lv_has ls 2 [(0, .ref h_this), (1, .int p1)] := hl
  have iX5 : ∀ w ∈ wsX50, w ∈ wsX5_reset := fun _ h => List.mem_cons_of_mem _ (List.mem_append_right _ h)
  have k25 := hts (.methodLink RX5 25 Lib.Math.min.name) (List.mem_of_getElem? (i := 1) (by decide +kernel))
  have ks_min := hts (.static Lib.Math.min.name) (List.mem_of_getElem? (i := 2) (by decide +kernel))
  have ki_math := hts (.initialized "java/lang/Math") (List.mem_of_getElem? (i := 3) (by decide +kernel))
  have kd_min := hts (.code Lib.Math.min.name Lib.Math.min.code 2 (some .int)) (List.mem_of_getElem? (i := 4) (by decide +kernel))
  have k31 := hts (.fieldLink RX5 31 "HaltingDecider$Machine" "count" "I") (List.mem_of_getElem? (i := 5) (by decide +kernel))
  have k18 := hts (.fieldLink RX5 18 "HaltingDecider$Machine" "following" "[I") (List.mem_of_getElem? (i := 6) (by decide +kernel))
  obtain ⟨H, hH⟩ : ∃ H, H = s.heap := ⟨_, rfl⟩
  obtain ⟨locs, hlo⟩ : ∃ z : List Loc, z = [] := ⟨_, rfl⟩
  have hS0 := hS
  rw [← hH] at hP ⊢
  rw [← hlo]
  replace hS : va_S A s.heap H locs := by rw [hH, hlo]; exact hS0
  refine lv_aload_n hx hb dX5_reset_0 rfl (lv_at hl 0 rfl) ?_
  refine lv_iload_n hx hb dX5_reset_1 rfl (lv_at hl 1 rfl) ?_
  refine lv_iconst (v := 5) hx hb dX5_reset_2 (by decide) ?_
  refine va_mmin hx hb (hml.trans hl.1.symm) hown k25 ks_min ki_math kd_min (Nat.le_of_ble_eq_true rfl) (Nat.le_of_ble_eq_true rfl) (Nat.zero_le _) (Nat.zero_le _) dX5_reset_3 ?_
  refine lv_topi (fun x1 ex1 => ?_)
  replace h := h x1 ex1
  refine va_put (D := D) (ci := 5) (v := .int x1) (ty := .int) (C := RX5) (T := TX5) (N := 4) hx hb hts iX5 tyX5 tyX5_ok nmX5 hown hK hP hD hS 0 rfl rfl 0 (by decide) k31 (fun _ h9 => h9) rfl (tyX5_ok 0 (by decide)) rfl rfl (Nat.le_of_ble_eq_true rfl) dX5_reset_6 (fun H locs hP hD hS => ?_)
  have hP : va_P D vwCl [(h_this, .inr (5, [.int x1, .ref h_this_written, .ref h_this_moved, .ref h_this_following])), (h_this_following, .inl (cy.1, 10, .inl v_following))] H := hP
  have hD : va_D A [(h_this, .inr (5, [.int x1, .ref h_this_written, .ref h_this_moved, .ref h_this_following])), (h_this_following, .inl (cy.1, 10, .inl v_following))] := hD
  refine lv_aload_n hx hb dX5_reset_9 rfl (lv_at hl 0 rfl) ?_
  refine va_get (D := D) (ci := 5) (v := .ref h_this_following) (C := RX5) (T := TX5) (N := 4) hx hb hts iX5 hown hK hP 0 rfl rfl 3 (by decide) k18 (fun _ h9 => h9) rfl dX5_reset_10 ?_
  refine lv_iconst (v := (-1)) hx hb dX5_reset_13 (by decide) ?_
  refine call_vS (As := [.ref h_this_following, .int (-1)]) (rest := []) (wr := [(h_this, .inr (5, [.int x1, .ref h_this_written, .ref h_this_moved, .ref h_this_following]))]) ⟨hx, hb, hml, hown, hts⟩ (mJ7_fill_53178 l D cy h_this_following 10 v_following (-1) _ h) (va_cwS 2 hts gX5_reset_J7_fill_53178 rfl rfl rfl hdS_J7_fill_53178 ⟨Nat.le_of_ble_eq_true rfl, Nat.le_of_ble_eq_true rfl⟩) hP hK hN hD hS hA [1] [0] rfl rfl (by decide) (by decide) (by decide) rfl hl.1 rfl (Nat.le_of_ble_eq_true rfl) dX5_reset_14 ⟨Nat.le_of_ble_eq_true rfl, Nat.le_of_ble_eq_true rfl⟩ (fun w2 H locs h hP hD hS => ?_)
  have hP : va_P D vwCl [(h_this, .inr (5, [.int x1, .ref h_this_written, .ref h_this_moved, .ref h_this_following])), (h_this_following, .inl (cy.1, 10, .inl w2))] H := hP
  have hD : va_D A [(h_this, .inr (5, [.int x1, .ref h_this_written, .ref h_this_moved, .ref h_this_following])), (h_this_following, .inl (cy.1, 10, .inl w2))] := hD
  exact RT 17 H locs ls (x1, w2) dX5_reset_17 h (hP.sub [0, 1] rfl) (hD.sub [0, 1] (by decide) rfl) hS
def pX5_exists (p1 : Int32) (v_count : Int32) (Q : Int32 → Prop) : Prop :=
  ((p1 < 0 → Q 0) ∧ (¬ p1 < 0 → ((v_count ≤ p1 → Q 0) ∧ (¬ v_count ≤ p1 → Q 1))))
abbrev rmX5_exists : Room := { frames := 0, cells := 0, slots := 0, locals := 0 }
set_option maxHeartbeats 4000000 in
set_option maxRecDepth 100000 in
theorem mX5_exists (l : Launch) (D : va_G) (cy : Cy) (h_this : Nat) (h_this_written : Nat) (h_this_moved : Nat) (h_this_following : Nat) (v_count : Int32) (p1 : Int32) (Q : Int32 → Prop) (h : pX5_exists p1 v_count Q) : Ci l yX5_exists wsX5_exists rmX5_exists D cy [(h_this, .inr (5, [.int v_count, .ref h_this_written, .ref h_this_moved, .ref h_this_following]))] [.ref h_this, .int p1] (fun (r : Int32) (_ : Unit) => Q r) (fun (_ : Unit) => [(h_this, .inr (5, [.int v_count, .ref h_this_written, .ref h_this_moved, .ref h_this_following]))]) := by
  refine of_z (cc := cX5_exists) (maxL := 2) (by decide) rfl (Nat.le_of_ble_eq_true rfl) ?_
  intro p e s m args below meth c A ls QQ T0 RT hP hD hS hl
  obtain ⟨hx, hb, hr, hts, hown, hlocks, hml, hin, hK, hN, hA⟩ := T0
  have hown : s.vm.findClass RX5 = some m.cls := hown
  have hl : lv_has ls 2 [(0, .ref h_this), (1, .int p1)] := hl
  have iX5 : ∀ w ∈ wsX50, w ∈ wsX5_exists := fun _ h => List.mem_cons_of_mem _ (List.mem_append_right _ h)
  have k31 := hts (.fieldLink RX5 31 "HaltingDecider$Machine" "count" "I") (List.mem_of_getElem? (i := 1) (by decide +kernel))
  obtain ⟨H, hH⟩ : ∃ H, H = s.heap := ⟨_, rfl⟩
  obtain ⟨locs, hlo⟩ : ∃ z : List Loc, z = [] := ⟨_, rfl⟩
  have hS0 := hS
  rw [← hH] at hP ⊢
  rw [← hlo]
  replace hS : va_S A s.heap H locs := by rw [hH, hlo]; exact hS0
  refine lv_iload_n hx hb dX5_exists_0 rfl (lv_at hl 1 rfl) ?_
  refine lv_if_lt (tgt := 16) hx hb dX5_exists_1 (by decide) (fun c1 => ?_) (fun c1 => ?_)
  · replace h := h.1 c1
    refine lv_iconst (v := 0) hx hb dX5_exists_16 (by decide) ?_
    exact RT 17 H locs ls 0 () dX5_exists_17 isB_0 h (hP.sub [0] rfl) (hD.sub [0] (by decide) rfl) hS
  · replace h := h.2 c1
    refine lv_iload_n hx hb dX5_exists_4 rfl (lv_at hl 1 rfl) ?_
    refine lv_aload_n hx hb dX5_exists_5 rfl (lv_at hl 0 rfl) ?_
    refine va_get (D := D) (ci := 5) (v := .int v_count) (C := RX5) (T := TX5) (N := 4) hx hb hts iX5 hown hK hP 0 rfl rfl 0 (by decide) k31 (fun _ h9 => h9) rfl dX5_exists_6 ?_
    refine lv_icmp_ge (tgt := 16) hx hb dX5_exists_9 (by decide) (fun c2 => ?_) (fun c2 => ?_)
    · replace h := h.1 c2
      refine lv_iconst (v := 0) hx hb dX5_exists_16 (by decide) ?_
      exact RT 17 H locs ls 0 () dX5_exists_17 isB_0 h (hP.sub [0] rfl) (hD.sub [0] (by decide) rfl) hS
    · replace h := h.2 c2
      refine lv_iconst (v := 1) hx hb dX5_exists_12 (by decide) ?_
      refine lv_goto (tgt := 17) hx hb dX5_exists_13 (by decide) ?_
      exact RT 17 H locs ls 1 () dX5_exists_17 isB_1 h (hP.sub [0] rfl) (hD.sub [0] (by decide) rfl) hS
def pX5_endsAt (p1 : Int32) (p2 : Int32) (v_count : Int32) (v_following : Nat → Int32) (Q : Int32 → Prop) : Prop :=
  pX5_slotOf p1 p2 v_count (fun r1 => ((r1 = (-1) → Q 1) ∧ (¬ r1 = (-1) → (vp_in r1 10 ∧ (((v_following r1.toNatClampNeg) = (-1) → Q 1) ∧ (¬ (v_following r1.toNatClampNeg) = (-1) → (vp_in r1 10 ∧ ((¬ (v_following r1.toNatClampNeg) = 9 → Q 0) ∧ ((v_following r1.toNatClampNeg) = 9 → Q 1)))))))))
abbrev rmX5_endsAt : Room := { frames := 1, cells := 0, slots := 0, locals := 23 }
set_option maxHeartbeats 4000000 in
set_option maxRecDepth 100000 in
theorem mX5_endsAt (l : Launch) (D : va_G) (cy : Cy) (h_this : Nat) (h_this_written : Nat) (h_this_moved : Nat) (h_this_following : Nat) (v_count : Int32) (v_following : Nat → Int32) (p1 : Int32) (p2 : Int32) (Q : Int32 → Prop) (h : pX5_endsAt p1 p2 v_count v_following Q) : Ci l yX5_endsAt wsX5_endsAt rmX5_endsAt D cy [(h_this, .inr (5, [.int v_count, .ref h_this_written, .ref h_this_moved, .ref h_this_following])), (h_this_following, .inl (cy.1, 10, .inl v_following))] [.ref h_this, .int p1, .int p2] (fun (r : Int32) (_ : Unit) => Q r) (fun (_ : Unit) => [(h_this, .inr (5, [.int v_count, .ref h_this_written, .ref h_this_moved, .ref h_this_following])), (h_this_following, .inl (cy.1, 10, .inl v_following))]) := by
  refine of_z (cc := cX5_endsAt) (maxL := 4) (by decide) rfl (Nat.le_of_ble_eq_true rfl) ?_
  intro p e s m args below meth c A ls QQ T0 RT hP hD hS hl
  obtain ⟨hx, hb, hr, hts, hown, hlocks, hml, hin, hK, hN, hA⟩ := T0
  have hown : s.vm.findClass RX5 = some m.cls := hown
  have hl : lv_has ls 4 [(0, .ref h_this), (1, .int p1), (2, .int p2)] := hl
  have iX5 : ∀ w ∈ wsX50, w ∈ wsX5_endsAt := fun _ h => List.mem_cons_of_mem _ (List.mem_append_right _ h)
  have k18 := hts (.fieldLink RX5 18 "HaltingDecider$Machine" "following" "[I") (List.mem_of_getElem? (i := 1) (by decide +kernel))
  obtain ⟨H, hH⟩ : ∃ H, H = s.heap := ⟨_, rfl⟩
  obtain ⟨locs, hlo⟩ : ∃ z : List Loc, z = [] := ⟨_, rfl⟩
  have hS0 := hS
  rw [← hH] at hP ⊢
  rw [← hlo]
  replace hS : va_S A s.heap H locs := by rw [hH, hlo]; exact hS0
  refine lv_aload_n hx hb dX5_endsAt_0 rfl (lv_at hl 0 rfl) ?_
  refine lv_iload_n hx hb dX5_endsAt_1 rfl (lv_at hl 1 rfl) ?_
  refine lv_iload_n hx hb dX5_endsAt_2 rfl (lv_at hl 2 rfl) ?_
  refine call_iV (As := [.int p1, .int p2]) (rest := []) (wr := [(h_this_following, .inl (cy.1, 10, .inl v_following))]) ⟨hx, hb, hml, hown, hts⟩ (mX5_slotOf l D cy h_this h_this_written h_this_moved h_this_following v_count p1 p2 _ h) (cwV 2 hts gX5_endsAt_X5_slotOf rfl rfl rfl hdV_X5_slotOf ⟨Nat.le_of_ble_eq_true rfl, Nat.le_of_ble_eq_true rfl⟩) hP hK hN hD hS hA [0] [1] rfl rfl (by decide) (by decide) (by decide) (ci := 5) rfl rfl rfl rfl hl.1 rfl (Nat.le_of_ble_eq_true rfl) dX5_endsAt_3 ⟨Nat.le_of_ble_eq_true rfl, Nat.le_of_ble_eq_true rfl⟩ (fun r1 u2 H locs h hP hD hS => ?_)
  have hP : va_P D vwCl [(h_this_following, .inl (cy.1, 10, .inl v_following)), (h_this, .inr (5, [.int v_count, .ref h_this_written, .ref h_this_moved, .ref h_this_following]))] H := hP
  have hD : va_D A [(h_this_following, .inl (cy.1, 10, .inl v_following)), (h_this, .inr (5, [.int v_count, .ref h_this_written, .ref h_this_moved, .ref h_this_following]))] := hD
  refine lv_istore_n (lv' := [(3, .int r1), (0, .ref h_this), (1, .int p1), (2, .int p2)]) hx hb dX5_endsAt_6 rfl hl (by decide) rfl (fun ls hl => ?_)
  refine lv_iload_n hx hb dX5_endsAt_7 rfl (lv_at hl 0 rfl) ?_
  refine lv_iconst (v := (-1)) hx hb dX5_endsAt_8 (by decide) ?_
  refine lv_icmp_eq (tgt := 33) hx hb dX5_endsAt_9 (by decide) (fun c3 => ?_) (fun c3 => ?_)
  · replace h := h.1 c3
    refine lv_iconst (v := 1) hx hb dX5_endsAt_33 (by decide) ?_
    refine lv_goto (tgt := 38) hx hb dX5_endsAt_34 (by decide) ?_
    exact RT 38 H locs ls 1 () dX5_endsAt_38 isB_1 h (hP.sub [1, 0] rfl) (hD.sub [1, 0] (by decide) rfl) hS
  · replace h := h.2 c3
    refine lv_aload_n hx hb dX5_endsAt_12 rfl (lv_at hl 1 rfl) ?_
    refine va_get (D := D) (ci := 5) (v := .ref h_this_following) (C := RX5) (T := TX5) (N := 4) hx hb hts iX5 hown hK hP 1 rfl rfl 3 (by decide) k18 (fun _ h9 => h9) rfl dX5_endsAt_13 ?_
    refine lv_iload_n hx hb dX5_endsAt_16 rfl (lv_at hl 0 rfl) ?_
    have b4 := h.1
    replace h := h.2
    refine va_iald hx hb hK hP 0 0 rfl rfl b4 dX5_endsAt_17 ?_
    refine lv_iconst (v := (-1)) hx hb dX5_endsAt_18 (by decide) ?_
    refine lv_icmp_eq (tgt := 33) hx hb dX5_endsAt_19 (by decide) (fun c5 => ?_) (fun c5 => ?_)
    · replace h := h.1 c5
      refine lv_iconst (v := 1) hx hb dX5_endsAt_33 (by decide) ?_
      refine lv_goto (tgt := 38) hx hb dX5_endsAt_34 (by decide) ?_
      exact RT 38 H locs ls 1 () dX5_endsAt_38 isB_1 h (hP.sub [1, 0] rfl) (hD.sub [1, 0] (by decide) rfl) hS
    · replace h := h.2 c5
      refine lv_aload_n hx hb dX5_endsAt_22 rfl (lv_at hl 1 rfl) ?_
      refine va_get (D := D) (ci := 5) (v := .ref h_this_following) (C := RX5) (T := TX5) (N := 4) hx hb hts iX5 hown hK hP 1 rfl rfl 3 (by decide) k18 (fun _ h9 => h9) rfl dX5_endsAt_23 ?_
      refine lv_iload_n hx hb dX5_endsAt_26 rfl (lv_at hl 0 rfl) ?_
      have b6 := h.1
      replace h := h.2
      refine va_iald hx hb hK hP 0 0 rfl rfl b6 dX5_endsAt_27 ?_
      refine lv_bipush (v := 9) hx hb dX5_endsAt_28 (by decide) ?_
      refine lv_icmp_ne (tgt := 37) hx hb dX5_endsAt_30 (by decide) (fun c7 => ?_) (fun c7 => ?_)
      · replace h := h.1 c7
        refine lv_iconst (v := 0) hx hb dX5_endsAt_37 (by decide) ?_
        exact RT 38 H locs ls 0 () dX5_endsAt_38 isB_0 h (hP.sub [1, 0] rfl) (hD.sub [1, 0] (by decide) rfl) hS
      · replace h := h.2 c7
        refine lv_iconst (v := 1) hx hb dX5_endsAt_33 (by decide) ?_
        refine lv_goto (tgt := 38) hx hb dX5_endsAt_34 (by decide) ?_
        exact RT 38 H locs ls 1 () dX5_endsAt_38 isB_1 h (hP.sub [1, 0] rfl) (hD.sub [1, 0] (by decide) rfl) hS
def pX5_put (p1 : Int32) (p2 : Int32) (p3 : Int32) (p4 : Int32) (p5 : Int32) (v_count : Int32) (v_written : Nat → Int32) (v_moved : Nat → Int32) (v_following : Nat → Int32) (Q : (Nat → Int32) → (Nat → Int32) → (Nat → Int32) → Prop) : Prop :=
  pX5_slotOf p1 p2 v_count (fun r1 => ((¬ r1 = (-1) → (vp_in r1 10 ∧ (vp_in r1 10 ∧ (vp_in r1 10 ∧ Q (upd v_written r1.toNatClampNeg p3) (upd v_moved r1.toNatClampNeg p4) (upd v_following r1.toNatClampNeg p5))))) ∧ (r1 = (-1) → Q v_written v_moved v_following)))
abbrev rmX5_put : Room := { frames := 1, cells := 0, slots := 0, locals := 23 }
set_option maxHeartbeats 4000000 in
set_option maxRecDepth 100000 in
theorem mX5_put (l : Launch) (D : va_G) (cy : Cy) (h_this : Nat) (h_this_written : Nat) (h_this_moved : Nat) (h_this_following : Nat) (v_count : Int32) (v_written : Nat → Int32) (v_moved : Nat → Int32) (v_following : Nat → Int32) (p1 : Int32) (p2 : Int32) (p3 : Int32) (p4 : Int32) (p5 : Int32) (Q : (Nat → Int32) → (Nat → Int32) → (Nat → Int32) → Prop) (h : pX5_put p1 p2 p3 p4 p5 v_count v_written v_moved v_following Q) : Cv l yX5_put wsX5_put rmX5_put 0 0 D cy [(h_this, .inr (5, [.int v_count, .ref h_this_written, .ref h_this_moved, .ref h_this_following])), (h_this_written, .inl (cy.1, 10, .inl v_written)), (h_this_moved, .inl (cy.1, 10, .inl v_moved)), (h_this_following, .inl (cy.1, 10, .inl v_following))] [.ref h_this, .int p1, .int p2, .int p3, .int p4, .int p5] (fun (u : (Nat → Int32) × (Nat → Int32) × (Nat → Int32)) => Q u.1 u.2.1 u.2.2) (fun (u : (Nat → Int32) × (Nat → Int32) × (Nat → Int32)) => [(h_this, .inr (5, [.int v_count, .ref h_this_written, .ref h_this_moved, .ref h_this_following])), (h_this_written, .inl (cy.1, 10, .inl u.1)), (h_this_moved, .inl (cy.1, 10, .inl u.2.1)), (h_this_following, .inl (cy.1, 10, .inl u.2.2))]) := by
  refine of_v (cc := cX5_put) (maxL := 7) (by decide) rfl (Nat.le_of_ble_eq_true rfl) ?_
  intro p e s m args below meth c A ls QQ T0 RT hP hD hS hl
  obtain ⟨hx, hb, hr, hts, hown, hlocks, hml, hin, hK, hN, hA⟩ := T0
  have hown : s.vm.findClass RX5 = some m.cls := hown
  have hl : lv_has ls 7 [(0, .ref h_this), (1, .int p1), (2, .int p2), (3, .int p3), (4, .int p4), (5, .int p5)] := hl
  have iX5 : ∀ w ∈ wsX50, w ∈ wsX5_put := fun _ h => List.mem_cons_of_mem _ (List.mem_append_right _ h)
  have k9 := hts (.fieldLink RX5 9 "HaltingDecider$Machine" "written" "[I") (List.mem_of_getElem? (i := 1) (by decide +kernel))
  have k15 := hts (.fieldLink RX5 15 "HaltingDecider$Machine" "moved" "[I") (List.mem_of_getElem? (i := 2) (by decide +kernel))
  have k18 := hts (.fieldLink RX5 18 "HaltingDecider$Machine" "following" "[I") (List.mem_of_getElem? (i := 3) (by decide +kernel))
  obtain ⟨H, hH⟩ : ∃ H, H = s.heap := ⟨_, rfl⟩
  obtain ⟨locs, hlo⟩ : ∃ z : List Loc, z = [] := ⟨_, rfl⟩
  have hS0 := hS
  rw [← hH] at hP ⊢
  rw [← hlo]
  replace hS : va_S A s.heap H locs := by rw [hH, hlo]; exact hS0
  refine lv_aload_n hx hb dX5_put_0 rfl (lv_at hl 0 rfl) ?_
  refine lv_iload_n hx hb dX5_put_1 rfl (lv_at hl 1 rfl) ?_
  refine lv_iload_n hx hb dX5_put_2 rfl (lv_at hl 2 rfl) ?_
  refine call_iV (As := [.int p1, .int p2]) (rest := []) (wr := [(h_this_written, .inl (cy.1, 10, .inl v_written)), (h_this_moved, .inl (cy.1, 10, .inl v_moved)), (h_this_following, .inl (cy.1, 10, .inl v_following))]) ⟨hx, hb, hml, hown, hts⟩ (mX5_slotOf l D cy h_this h_this_written h_this_moved h_this_following v_count p1 p2 _ h) (cwV 2 hts gX5_put_X5_slotOf rfl rfl rfl hdV_X5_slotOf ⟨Nat.le_of_ble_eq_true rfl, Nat.le_of_ble_eq_true rfl⟩) hP hK hN hD hS hA [0] [1, 2, 3] rfl rfl (by decide) (by decide) (by decide) (ci := 5) rfl rfl rfl rfl hl.1 rfl (Nat.le_of_ble_eq_true rfl) dX5_put_3 ⟨Nat.le_of_ble_eq_true rfl, Nat.le_of_ble_eq_true rfl⟩ (fun r1 u2 H locs h hP hD hS => ?_)
  have hP : va_P D vwCl [(h_this_written, .inl (cy.1, 10, .inl v_written)), (h_this_moved, .inl (cy.1, 10, .inl v_moved)), (h_this_following, .inl (cy.1, 10, .inl v_following)), (h_this, .inr (5, [.int v_count, .ref h_this_written, .ref h_this_moved, .ref h_this_following]))] H := hP
  have hD : va_D A [(h_this_written, .inl (cy.1, 10, .inl v_written)), (h_this_moved, .inl (cy.1, 10, .inl v_moved)), (h_this_following, .inl (cy.1, 10, .inl v_following)), (h_this, .inr (5, [.int v_count, .ref h_this_written, .ref h_this_moved, .ref h_this_following]))] := hD
  refine lv_istore (lv' := [(6, .int r1), (0, .ref h_this), (1, .int p1), (2, .int p2), (3, .int p3), (4, .int p4), (5, .int p5)]) hx hb dX5_put_6 hl (by decide) rfl (fun ls hl => ?_)
  refine lv_iload hx hb dX5_put_8 (lv_at hl 0 rfl) ?_
  refine lv_iconst (v := (-1)) hx hb dX5_put_10 (by decide) ?_
  refine lv_icmp_ne (tgt := 15) hx hb dX5_put_11 (by decide) (fun c3 => ?_) (fun c3 => ?_)
  · replace h := h.1 c3
    refine lv_aload_n hx hb dX5_put_15 rfl (lv_at hl 1 rfl) ?_
    refine va_get (D := D) (ci := 5) (v := .ref h_this_written) (C := RX5) (T := TX5) (N := 4) hx hb hts iX5 hown hK hP 3 rfl rfl 1 (by decide) k9 (fun _ h9 => h9) rfl dX5_put_16 ?_
    refine lv_iload hx hb dX5_put_19 (lv_at hl 0 rfl) ?_
    refine lv_iload_n hx hb dX5_put_21 rfl (lv_at hl 4 rfl) ?_
    have b4 := h.1
    replace h := h.2
    refine va_iast hx hb hK hP hD hS 0 0 rfl rfl b4 dX5_put_22 (fun H locs hP hD hS => ?_)
    have hP : va_P D vwCl [(h_this_written, .inl (cy.1, 10, .inl (upd v_written r1.toNatClampNeg p3))), (h_this_moved, .inl (cy.1, 10, .inl v_moved)), (h_this_following, .inl (cy.1, 10, .inl v_following)), (h_this, .inr (5, [.int v_count, .ref h_this_written, .ref h_this_moved, .ref h_this_following]))] H := hP
    have hD : va_D A [(h_this_written, .inl (cy.1, 10, .inl (upd v_written r1.toNatClampNeg p3))), (h_this_moved, .inl (cy.1, 10, .inl v_moved)), (h_this_following, .inl (cy.1, 10, .inl v_following)), (h_this, .inr (5, [.int v_count, .ref h_this_written, .ref h_this_moved, .ref h_this_following]))] := hD
    refine lv_aload_n hx hb dX5_put_23 rfl (lv_at hl 1 rfl) ?_
    refine va_get (D := D) (ci := 5) (v := .ref h_this_moved) (C := RX5) (T := TX5) (N := 4) hx hb hts iX5 hown hK hP 3 rfl rfl 2 (by decide) k15 (fun _ h9 => h9) rfl dX5_put_24 ?_
    refine lv_iload hx hb dX5_put_27 (lv_at hl 0 rfl) ?_
    refine lv_iload hx hb dX5_put_29 (lv_at hl 5 rfl) ?_
    have b5 := h.1
    replace h := h.2
    refine va_iast hx hb hK hP hD hS 1 0 rfl rfl b5 dX5_put_31 (fun H locs hP hD hS => ?_)
    have hP : va_P D vwCl [(h_this_written, .inl (cy.1, 10, .inl (upd v_written r1.toNatClampNeg p3))), (h_this_moved, .inl (cy.1, 10, .inl (upd v_moved r1.toNatClampNeg p4))), (h_this_following, .inl (cy.1, 10, .inl v_following)), (h_this, .inr (5, [.int v_count, .ref h_this_written, .ref h_this_moved, .ref h_this_following]))] H := hP
    have hD : va_D A [(h_this_written, .inl (cy.1, 10, .inl (upd v_written r1.toNatClampNeg p3))), (h_this_moved, .inl (cy.1, 10, .inl (upd v_moved r1.toNatClampNeg p4))), (h_this_following, .inl (cy.1, 10, .inl v_following)), (h_this, .inr (5, [.int v_count, .ref h_this_written, .ref h_this_moved, .ref h_this_following]))] := hD
    refine lv_aload_n hx hb dX5_put_32 rfl (lv_at hl 1 rfl) ?_
    refine va_get (D := D) (ci := 5) (v := .ref h_this_following) (C := RX5) (T := TX5) (N := 4) hx hb hts iX5 hown hK hP 3 rfl rfl 3 (by decide) k18 (fun _ h9 => h9) rfl dX5_put_33 ?_
    refine lv_iload hx hb dX5_put_36 (lv_at hl 0 rfl) ?_
    refine lv_iload hx hb dX5_put_38 (lv_at hl 6 rfl) ?_
    have b6 := h.1
    replace h := h.2
    refine va_iast hx hb hK hP hD hS 2 0 rfl rfl b6 dX5_put_40 (fun H locs hP hD hS => ?_)
    have hP : va_P D vwCl [(h_this_written, .inl (cy.1, 10, .inl (upd v_written r1.toNatClampNeg p3))), (h_this_moved, .inl (cy.1, 10, .inl (upd v_moved r1.toNatClampNeg p4))), (h_this_following, .inl (cy.1, 10, .inl (upd v_following r1.toNatClampNeg p5))), (h_this, .inr (5, [.int v_count, .ref h_this_written, .ref h_this_moved, .ref h_this_following]))] H := hP
    have hD : va_D A [(h_this_written, .inl (cy.1, 10, .inl (upd v_written r1.toNatClampNeg p3))), (h_this_moved, .inl (cy.1, 10, .inl (upd v_moved r1.toNatClampNeg p4))), (h_this_following, .inl (cy.1, 10, .inl (upd v_following r1.toNatClampNeg p5))), (h_this, .inr (5, [.int v_count, .ref h_this_written, .ref h_this_moved, .ref h_this_following]))] := hD
    exact RT 41 H locs ls (upd v_written r1.toNatClampNeg p3, upd v_moved r1.toNatClampNeg p4, upd v_following r1.toNatClampNeg p5) dX5_put_41 h (hP.sub [3, 0, 1, 2] rfl) (hD.sub [3, 0, 1, 2] (by decide) rfl) hS
  · replace h := h.2 c3
    exact RT 14 H locs ls (v_written, v_moved, v_following) dX5_put_14 h (hP.sub [3, 0, 1, 2] rfl) (hD.sub [3, 0, 1, 2] (by decide) rfl) hS
def pX5_characterAt (p1 : Int32) (p2 : Int32) (v_count : Int32) (v_written : Nat → Int32) (v_moved : Nat → Int32) (v_following : Nat → Int32) (Q : Int32 → Prop) : Prop :=
  ((¬ p2 = 6 → (∀ x2 : Int32, x2 = p2 / 3 → pX5_has p1 x2 v_count v_following (fun r3 => ((¬ r3 = 0 → (∀ x6 : Int32, x6 = p2 - p2 / 3 * 3 → ((x6 = 0 → pX5_writtenBy p1 x2 v_count v_written (fun r8 => Q (48 + r8))) ∧ (¬ x6 = 0 → ((x6 = 1 → pX5_moveOf p1 x2 v_count v_moved (fun r11 => ((¬ r11 = 1 → Q 76) ∧ (r11 = 1 → Q 82)))) ∧ (¬ x6 = 1 → pX5_nextOf p1 x2 v_count v_following (fun r14 => ((¬ r14 = 9 → pX5_nextOf p1 x2 v_count v_following (fun r17 => Q (65 + r17))) ∧ (r14 = 9 → Q 90))))))))) ∧ (r3 = 0 → Q 45))))) ∧ (p2 = 6 → Q 95))
abbrev rmX5_characterAt : Room := { frames := 3, cells := 0, slots := 0, locals := 68 }
set_option maxHeartbeats 4000000 in
set_option maxRecDepth 100000 in
theorem mX5_characterAt (l : Launch) (D : va_G) (cy : Cy) (h_this : Nat) (h_this_written : Nat) (h_this_moved : Nat) (h_this_following : Nat) (v_count : Int32) (v_written : Nat → Int32) (v_moved : Nat → Int32) (v_following : Nat → Int32) (p1 : Int32) (p2 : Int32) (Q : Int32 → Prop) (h : pX5_characterAt p1 p2 v_count v_written v_moved v_following Q) : Ci l yX5_characterAt wsX5_characterAt rmX5_characterAt D cy [(h_this, .inr (5, [.int v_count, .ref h_this_written, .ref h_this_moved, .ref h_this_following])), (h_this_written, .inl (cy.1, 10, .inl v_written)), (h_this_moved, .inl (cy.1, 10, .inl v_moved)), (h_this_following, .inl (cy.1, 10, .inl v_following))] [.ref h_this, .int p1, .int p2] (fun (r : Int32) (_ : Unit) => Q r) (fun (_ : Unit) => [(h_this, .inr (5, [.int v_count, .ref h_this_written, .ref h_this_moved, .ref h_this_following])), (h_this_written, .inl (cy.1, 10, .inl v_written)), (h_this_moved, .inl (cy.1, 10, .inl v_moved)), (h_this_following, .inl (cy.1, 10, .inl v_following))]) := by
  refine of_i (cc := cX5_characterAt) (maxL := 4) (by decide) rfl (Nat.le_of_ble_eq_true rfl) ?_
  intro p e s m args below meth c A ls QQ T0 RT hP hD hS hl
  obtain ⟨hx, hb, hr, hts, hown, hlocks, hml, hin, hK, hN, hA⟩ := T0
  have hown : s.vm.findClass RX5 = some m.cls := hown
  have hl : lv_has ls 4 [(0, .ref h_this), (1, .int p1), (2, .int p2)] := hl
  obtain ⟨H, hH⟩ : ∃ H, H = s.heap := ⟨_, rfl⟩
  obtain ⟨locs, hlo⟩ : ∃ z : List Loc, z = [] := ⟨_, rfl⟩
  have hS0 := hS
  rw [← hH] at hP ⊢
  rw [← hlo]
  replace hS : va_S A s.heap H locs := by rw [hH, hlo]; exact hS0
  refine lv_iload_n hx hb dX5_characterAt_0 rfl (lv_at hl 2 rfl) ?_
  refine lv_bipush (v := 6) hx hb dX5_characterAt_1 (by decide) ?_
  refine lv_icmp_ne (tgt := 9) hx hb dX5_characterAt_3 (by decide) (fun c1 => ?_) (fun c1 => ?_)
  · replace h := h.1 c1
    refine lv_iload_n hx hb dX5_characterAt_9 rfl (lv_at hl 2 rfl) ?_
    refine lv_iconst (v := 3) hx hb dX5_characterAt_10 (by decide) ?_
    refine lv_idiv hx hb dX5_characterAt_11 (by decide) ?_
    refine lv_topi (fun x2 ex2 => ?_)
    replace h := h x2 ex2
    refine lv_istore_n (lv' := [(3, .int x2), (0, .ref h_this), (1, .int p1), (2, .int p2)]) hx hb dX5_characterAt_12 rfl hl (by decide) rfl (fun ls hl => ?_)
    refine lv_aload_n hx hb dX5_characterAt_13 rfl (lv_at hl 1 rfl) ?_
    refine lv_iload_n hx hb dX5_characterAt_14 rfl (lv_at hl 2 rfl) ?_
    refine lv_iload_n hx hb dX5_characterAt_15 rfl (lv_at hl 0 rfl) ?_
    refine call_iV (As := [.int p1, .int x2]) (rest := []) (wr := [(h_this_written, .inl (cy.1, 10, .inl v_written)), (h_this_moved, .inl (cy.1, 10, .inl v_moved))]) ⟨hx, hb, hml, hown, hts⟩ (mX5_has l D cy h_this h_this_written h_this_moved h_this_following v_count v_following p1 x2 _ h) (cwV 2 hts gX5_characterAt_X5_has rfl rfl rfl hdV_X5_has ⟨Nat.le_of_ble_eq_true rfl, Nat.le_of_ble_eq_true rfl⟩) hP hK hN hD hS hA [0, 3] [1, 2] rfl rfl (by decide) (by decide) (by decide) (ci := 5) rfl rfl rfl rfl hl.1 rfl (Nat.le_of_ble_eq_true rfl) dX5_characterAt_16 ⟨Nat.le_of_ble_eq_true rfl, Nat.le_of_ble_eq_true rfl⟩ (fun r3 u4 H locs h hP hD hS => ?_)
    have hP : va_P D vwCl [(h_this_written, .inl (cy.1, 10, .inl v_written)), (h_this_moved, .inl (cy.1, 10, .inl v_moved)), (h_this, .inr (5, [.int v_count, .ref h_this_written, .ref h_this_moved, .ref h_this_following])), (h_this_following, .inl (cy.1, 10, .inl v_following))] H := hP
    have hD : va_D A [(h_this_written, .inl (cy.1, 10, .inl v_written)), (h_this_moved, .inl (cy.1, 10, .inl v_moved)), (h_this, .inr (5, [.int v_count, .ref h_this_written, .ref h_this_moved, .ref h_this_following])), (h_this_following, .inl (cy.1, 10, .inl v_following))] := hD
    refine lv_if_ne (tgt := 25) hx hb dX5_characterAt_19 (by decide) (fun c5 => ?_) (fun c5 => ?_)
    · replace h := h.1 c5
      refine lv_iload_n hx hb dX5_characterAt_25 rfl (lv_at hl 3 rfl) ?_
      refine lv_iconst (v := 3) hx hb dX5_characterAt_26 (by decide) ?_
      refine lv_irem hx hb dX5_characterAt_27 (by decide) ?_
      refine lv_topi (fun x6 ex6 => ?_)
      replace h := h x6 ex6
      by_cases c7 : x6 = 0
      · replace h := h.1 c7
        refine lv_lookup (off := 28) (tgt := 56) hx hb dX5_characterAt_28 (by decide) (by rw [c7]; decide) (by decide) ?_
        refine lv_bipush (v := 48) hx hb dX5_characterAt_56 (by decide) ?_
        refine lv_aload_n hx hb dX5_characterAt_58 rfl (lv_at hl 1 rfl) ?_
        refine lv_iload_n hx hb dX5_characterAt_59 rfl (lv_at hl 2 rfl) ?_
        refine lv_iload_n hx hb dX5_characterAt_60 rfl (lv_at hl 0 rfl) ?_
        refine call_iV (As := [.int p1, .int x2]) (rest := [.int 48]) (wr := [(h_this_moved, .inl (cy.1, 10, .inl v_moved)), (h_this_following, .inl (cy.1, 10, .inl v_following))]) ⟨hx, hb, hml, hown, hts⟩ (mX5_writtenBy l D cy h_this h_this_written h_this_moved h_this_following v_count v_written p1 x2 _ h) (cwV 2 hts gX5_characterAt_X5_writtenBy rfl rfl rfl hdV_X5_writtenBy ⟨Nat.le_of_ble_eq_true rfl, Nat.le_of_ble_eq_true rfl⟩) hP hK hN hD hS hA [2, 0] [1, 3] rfl rfl (by decide) (by decide) (by decide) (ci := 5) rfl rfl rfl rfl hl.1 rfl (Nat.le_of_ble_eq_true rfl) dX5_characterAt_61 ⟨Nat.le_of_ble_eq_true rfl, Nat.le_of_ble_eq_true rfl⟩ (fun r8 u9 H locs h hP hD hS => ?_)
        have hP : va_P D vwCl [(h_this_moved, .inl (cy.1, 10, .inl v_moved)), (h_this_following, .inl (cy.1, 10, .inl v_following)), (h_this, .inr (5, [.int v_count, .ref h_this_written, .ref h_this_moved, .ref h_this_following])), (h_this_written, .inl (cy.1, 10, .inl v_written))] H := hP
        have hD : va_D A [(h_this_moved, .inl (cy.1, 10, .inl v_moved)), (h_this_following, .inl (cy.1, 10, .inl v_following)), (h_this, .inr (5, [.int v_count, .ref h_this_written, .ref h_this_moved, .ref h_this_following])), (h_this_written, .inl (cy.1, 10, .inl v_written))] := hD
        refine lv_iadd hx hb dX5_characterAt_64 ?_
        exact RT 65 H locs ls (48 + r8) () dX5_characterAt_65 h (hP.sub [2, 3, 0, 1] rfl) (hD.sub [2, 3, 0, 1] (by decide) rfl) hS
      replace h := h.2 c7
      by_cases c10 : x6 = 1
      · replace h := h.1 c10
        refine lv_lookup (off := 38) (tgt := 66) hx hb dX5_characterAt_28 (by decide) (by rw [c10]; decide) (by decide) ?_
        refine lv_aload_n hx hb dX5_characterAt_66 rfl (lv_at hl 1 rfl) ?_
        refine lv_iload_n hx hb dX5_characterAt_67 rfl (lv_at hl 2 rfl) ?_
        refine lv_iload_n hx hb dX5_characterAt_68 rfl (lv_at hl 0 rfl) ?_
        refine call_iV (As := [.int p1, .int x2]) (rest := []) (wr := [(h_this_written, .inl (cy.1, 10, .inl v_written)), (h_this_following, .inl (cy.1, 10, .inl v_following))]) ⟨hx, hb, hml, hown, hts⟩ (mX5_moveOf l D cy h_this h_this_written h_this_moved h_this_following v_count v_moved p1 x2 _ h) (cwV 2 hts gX5_characterAt_X5_moveOf rfl rfl rfl hdV_X5_moveOf ⟨Nat.le_of_ble_eq_true rfl, Nat.le_of_ble_eq_true rfl⟩) hP hK hN hD hS hA [2, 1] [0, 3] rfl rfl (by decide) (by decide) (by decide) (ci := 5) rfl rfl rfl rfl hl.1 rfl (Nat.le_of_ble_eq_true rfl) dX5_characterAt_69 ⟨Nat.le_of_ble_eq_true rfl, Nat.le_of_ble_eq_true rfl⟩ (fun r11 u12 H locs h hP hD hS => ?_)
        have hP : va_P D vwCl [(h_this_written, .inl (cy.1, 10, .inl v_written)), (h_this_following, .inl (cy.1, 10, .inl v_following)), (h_this, .inr (5, [.int v_count, .ref h_this_written, .ref h_this_moved, .ref h_this_following])), (h_this_moved, .inl (cy.1, 10, .inl v_moved))] H := hP
        have hD : va_D A [(h_this_written, .inl (cy.1, 10, .inl v_written)), (h_this_following, .inl (cy.1, 10, .inl v_following)), (h_this, .inr (5, [.int v_count, .ref h_this_written, .ref h_this_moved, .ref h_this_following])), (h_this_moved, .inl (cy.1, 10, .inl v_moved))] := hD
        refine lv_iconst (v := 1) hx hb dX5_characterAt_72 (by decide) ?_
        refine lv_icmp_ne (tgt := 81) hx hb dX5_characterAt_73 (by decide) (fun c13 => ?_) (fun c13 => ?_)
        · replace h := h.1 c13
          refine lv_bipush (v := 76) hx hb dX5_characterAt_81 (by decide) ?_
          exact RT 83 H locs ls 76 () dX5_characterAt_83 h (hP.sub [2, 0, 3, 1] rfl) (hD.sub [2, 0, 3, 1] (by decide) rfl) hS
        · replace h := h.2 c13
          refine lv_bipush (v := 82) hx hb dX5_characterAt_76 (by decide) ?_
          refine lv_goto (tgt := 83) hx hb dX5_characterAt_78 (by decide) ?_
          exact RT 83 H locs ls 82 () dX5_characterAt_83 h (hP.sub [2, 0, 3, 1] rfl) (hD.sub [2, 0, 3, 1] (by decide) rfl) hS
      replace h := h.2 c10
      refine lv_lookup (off := 56) (tgt := 84) hx hb dX5_characterAt_28 (by decide) (sw_df c7 c10) (by decide) ?_
      refine lv_aload_n hx hb dX5_characterAt_84 rfl (lv_at hl 1 rfl) ?_
      refine lv_iload_n hx hb dX5_characterAt_85 rfl (lv_at hl 2 rfl) ?_
      refine lv_iload_n hx hb dX5_characterAt_86 rfl (lv_at hl 0 rfl) ?_
      refine call_iV (As := [.int p1, .int x2]) (rest := []) (wr := [(h_this_written, .inl (cy.1, 10, .inl v_written)), (h_this_moved, .inl (cy.1, 10, .inl v_moved))]) ⟨hx, hb, hml, hown, hts⟩ (mX5_nextOf l D cy h_this h_this_written h_this_moved h_this_following v_count v_following p1 x2 _ h) (cwV 2 hts gX5_characterAt_X5_nextOf rfl rfl rfl hdV_X5_nextOf ⟨Nat.le_of_ble_eq_true rfl, Nat.le_of_ble_eq_true rfl⟩) hP hK hN hD hS hA [2, 3] [0, 1] rfl rfl (by decide) (by decide) (by decide) (ci := 5) rfl rfl rfl rfl hl.1 rfl (Nat.le_of_ble_eq_true rfl) dX5_characterAt_87 ⟨Nat.le_of_ble_eq_true rfl, Nat.le_of_ble_eq_true rfl⟩ (fun r14 u15 H locs h hP hD hS => ?_)
      have hP : va_P D vwCl [(h_this_written, .inl (cy.1, 10, .inl v_written)), (h_this_moved, .inl (cy.1, 10, .inl v_moved)), (h_this, .inr (5, [.int v_count, .ref h_this_written, .ref h_this_moved, .ref h_this_following])), (h_this_following, .inl (cy.1, 10, .inl v_following))] H := hP
      have hD : va_D A [(h_this_written, .inl (cy.1, 10, .inl v_written)), (h_this_moved, .inl (cy.1, 10, .inl v_moved)), (h_this, .inr (5, [.int v_count, .ref h_this_written, .ref h_this_moved, .ref h_this_following])), (h_this_following, .inl (cy.1, 10, .inl v_following))] := hD
      refine lv_bipush (v := 9) hx hb dX5_characterAt_90 (by decide) ?_
      refine lv_icmp_ne (tgt := 100) hx hb dX5_characterAt_92 (by decide) (fun c16 => ?_) (fun c16 => ?_)
      · replace h := h.1 c16
        refine lv_bipush (v := 65) hx hb dX5_characterAt_100 (by decide) ?_
        refine lv_aload_n hx hb dX5_characterAt_102 rfl (lv_at hl 1 rfl) ?_
        refine lv_iload_n hx hb dX5_characterAt_103 rfl (lv_at hl 2 rfl) ?_
        refine lv_iload_n hx hb dX5_characterAt_104 rfl (lv_at hl 0 rfl) ?_
        refine call_iV (As := [.int p1, .int x2]) (rest := [.int 65]) (wr := [(h_this_written, .inl (cy.1, 10, .inl v_written)), (h_this_moved, .inl (cy.1, 10, .inl v_moved))]) ⟨hx, hb, hml, hown, hts⟩ (mX5_nextOf l D cy h_this h_this_written h_this_moved h_this_following v_count v_following p1 x2 _ h) (cwV 2 hts gX5_characterAt_X5_nextOf rfl rfl rfl hdV_X5_nextOf ⟨Nat.le_of_ble_eq_true rfl, Nat.le_of_ble_eq_true rfl⟩) hP hK hN hD hS hA [2, 3] [0, 1] rfl rfl (by decide) (by decide) (by decide) (ci := 5) rfl rfl rfl rfl hl.1 rfl (Nat.le_of_ble_eq_true rfl) dX5_characterAt_105 ⟨Nat.le_of_ble_eq_true rfl, Nat.le_of_ble_eq_true rfl⟩ (fun r17 u18 H locs h hP hD hS => ?_)
        have hP : va_P D vwCl [(h_this_written, .inl (cy.1, 10, .inl v_written)), (h_this_moved, .inl (cy.1, 10, .inl v_moved)), (h_this, .inr (5, [.int v_count, .ref h_this_written, .ref h_this_moved, .ref h_this_following])), (h_this_following, .inl (cy.1, 10, .inl v_following))] H := hP
        have hD : va_D A [(h_this_written, .inl (cy.1, 10, .inl v_written)), (h_this_moved, .inl (cy.1, 10, .inl v_moved)), (h_this, .inr (5, [.int v_count, .ref h_this_written, .ref h_this_moved, .ref h_this_following])), (h_this_following, .inl (cy.1, 10, .inl v_following))] := hD
        refine lv_iadd hx hb dX5_characterAt_108 ?_
        exact RT 109 H locs ls (65 + r17) () dX5_characterAt_109 h (hP.sub [2, 0, 1, 3] rfl) (hD.sub [2, 0, 1, 3] (by decide) rfl) hS
      · replace h := h.2 c16
        refine lv_bipush (v := 90) hx hb dX5_characterAt_95 (by decide) ?_
        refine lv_goto (tgt := 109) hx hb dX5_characterAt_97 (by decide) ?_
        exact RT 109 H locs ls 90 () dX5_characterAt_109 h (hP.sub [2, 0, 1, 3] rfl) (hD.sub [2, 0, 1, 3] (by decide) rfl) hS
    · replace h := h.2 c5
      refine lv_bipush (v := 45) hx hb dX5_characterAt_22 (by decide) ?_
      exact RT 24 H locs ls 45 () dX5_characterAt_24 h (hP.sub [2, 0, 1, 3] rfl) (hD.sub [2, 0, 1, 3] (by decide) rfl) hS
  · replace h := h.2 c1
    refine lv_bipush (v := 95) hx hb dX5_characterAt_6 (by decide) ?_
    exact RT 8 H locs ls 95 () dX5_characterAt_8 h (hP.sub [0, 1, 2, 3] rfl) (hD.sub [0, 1, 2, 3] (by decide) rfl) hS
def pX7_rowCount (v_length : Int32) (Q : Int32 → Prop) : Prop :=
  Q ((v_length + 1) / 7)
abbrev rmX7_rowCount : Room := { frames := 0, cells := 0, slots := 0, locals := 0 }
set_option maxHeartbeats 4000000 in
set_option maxRecDepth 100000 in
theorem mX7_rowCount (l : Launch) (D : va_G) (cy : Cy) (h_this : Nat) (h_this_codes : Nat) (v_length : Int32) (Q : Int32 → Prop) (h : pX7_rowCount v_length Q) : Ci l yX7_rowCount wsX7_rowCount rmX7_rowCount D cy [(h_this, .inr (7, [.ref h_this_codes, .int v_length]))] [.ref h_this] (fun (r : Int32) (_ : Unit) => Q r) (fun (_ : Unit) => [(h_this, .inr (7, [.ref h_this_codes, .int v_length]))]) := by
  refine of_i (cc := cX7_rowCount) (maxL := 1) (by decide) rfl (Nat.le_of_ble_eq_true rfl) ?_
  intro p e s m args below meth c A ls QQ T0 RT hP hD hS hl
  obtain ⟨hx, hb, hr, hts, hown, hlocks, hml, hin, hK, hN, hA⟩ := T0
  have hown : s.vm.findClass RX7 = some m.cls := hown
  have hl : lv_has ls 1 [(0, .ref h_this)] := hl
  have iX7 : ∀ w ∈ wsX70, w ∈ wsX7_rowCount := fun _ h => List.mem_cons_of_mem _ (List.mem_append_right _ h)
  have k15 := hts (.fieldLink RX7 15 "HaltingDecider$TypedText" "length" "I") (List.mem_of_getElem? (i := 1) (by decide +kernel))
  obtain ⟨H, hH⟩ : ∃ H, H = s.heap := ⟨_, rfl⟩
  obtain ⟨locs, hlo⟩ : ∃ z : List Loc, z = [] := ⟨_, rfl⟩
  have hS0 := hS
  rw [← hH] at hP ⊢
  rw [← hlo]
  replace hS : va_S A s.heap H locs := by rw [hH, hlo]; exact hS0
  refine lv_aload_n hx hb dX7_rowCount_0 rfl (lv_at hl 0 rfl) ?_
  refine va_get (D := D) (ci := 7) (v := .int v_length) (C := RX7) (T := TX7) (N := 2) hx hb hts iX7 hown hK hP 0 rfl rfl 1 (by decide) k15 (fun _ h9 => h9) rfl dX7_rowCount_1 ?_
  refine lv_iconst (v := 1) hx hb dX7_rowCount_4 (by decide) ?_
  refine lv_iadd hx hb dX7_rowCount_5 ?_
  refine lv_bipush (v := 7) hx hb dX7_rowCount_6 (by decide) ?_
  refine lv_idiv hx hb dX7_rowCount_8 (by decide) ?_
  exact RT 9 H locs ls ((v_length + 1) / 7) () dX7_rowCount_9 h (hP.sub [0] rfl) (hD.sub [0] (by decide) rfl) hS
def pX7_codeAt (p1 : Int32) (v_codes : Nat → Int32) (v_length : Int32) (Q : Int32 → Prop) : Prop :=
  ((p1 < 0 → Q 0) ∧ (¬ p1 < 0 → ((v_length ≤ p1 → Q 0) ∧ (¬ v_length ≤ p1 → (((nI 40) ≤ p1 → Q 0) ∧ (¬ (nI 40) ≤ p1 → (vp_in p1 40 ∧ Q (v_codes p1.toNatClampNeg))))))))
abbrev rmX7_codeAt : Room := { frames := 0, cells := 0, slots := 0, locals := 0 }
set_option maxHeartbeats 4000000 in
set_option maxRecDepth 100000 in
theorem mX7_codeAt (l : Launch) (D : va_G) (cy : Cy) (h_this : Nat) (h_this_codes : Nat) (v_length : Int32) (v_codes : Nat → Int32) (p1 : Int32) (Q : Int32 → Prop) (h : pX7_codeAt p1 v_codes v_length Q) : Ci l yX7_codeAt wsX7_codeAt rmX7_codeAt D cy [(h_this, .inr (7, [.ref h_this_codes, .int v_length])), (h_this_codes, .inl (cy.1, 40, .inl v_codes))] [.ref h_this, .int p1] (fun (r : Int32) (_ : Unit) => Q r) (fun (_ : Unit) => [(h_this, .inr (7, [.ref h_this_codes, .int v_length])), (h_this_codes, .inl (cy.1, 40, .inl v_codes))]) := by
  refine of_i (cc := cX7_codeAt) (maxL := 2) (by decide) rfl (Nat.le_of_ble_eq_true rfl) ?_
  intro p e s m args below meth c A ls QQ T0 RT hP hD hS hl
  obtain ⟨hx, hb, hr, hts, hown, hlocks, hml, hin, hK, hN, hA⟩ := T0
  have hown : s.vm.findClass RX7 = some m.cls := hown
  have hl : lv_has ls 2 [(0, .ref h_this), (1, .int p1)] := hl
  have iX7 : ∀ w ∈ wsX70, w ∈ wsX7_codeAt := fun _ h => List.mem_cons_of_mem _ (List.mem_append_right _ h)
  have k15 := hts (.fieldLink RX7 15 "HaltingDecider$TypedText" "length" "I") (List.mem_of_getElem? (i := 1) (by decide +kernel))
  have k11 := hts (.fieldLink RX7 11 "HaltingDecider$TypedText" "codes" "[I") (List.mem_of_getElem? (i := 2) (by decide +kernel))
  obtain ⟨H, hH⟩ : ∃ H, H = s.heap := ⟨_, rfl⟩
  obtain ⟨locs, hlo⟩ : ∃ z : List Loc, z = [] := ⟨_, rfl⟩
  have hS0 := hS
  rw [← hH] at hP ⊢
  rw [← hlo]
  replace hS : va_S A s.heap H locs := by rw [hH, hlo]; exact hS0
  refine lv_iload_n hx hb dX7_codeAt_0 rfl (lv_at hl 1 rfl) ?_
  refine lv_if_lt (tgt := 30) hx hb dX7_codeAt_1 (by decide) (fun c1 => ?_) (fun c1 => ?_)
  · replace h := h.1 c1
    refine lv_iconst (v := 0) hx hb dX7_codeAt_30 (by decide) ?_
    exact RT 31 H locs ls 0 () dX7_codeAt_31 h (hP.sub [0, 1] rfl) (hD.sub [0, 1] (by decide) rfl) hS
  · replace h := h.2 c1
    refine lv_iload_n hx hb dX7_codeAt_4 rfl (lv_at hl 1 rfl) ?_
    refine lv_aload_n hx hb dX7_codeAt_5 rfl (lv_at hl 0 rfl) ?_
    refine va_get (D := D) (ci := 7) (v := .int v_length) (C := RX7) (T := TX7) (N := 2) hx hb hts iX7 hown hK hP 0 rfl rfl 1 (by decide) k15 (fun _ h9 => h9) rfl dX7_codeAt_6 ?_
    refine lv_icmp_ge (tgt := 30) hx hb dX7_codeAt_9 (by decide) (fun c2 => ?_) (fun c2 => ?_)
    · replace h := h.1 c2
      refine lv_iconst (v := 0) hx hb dX7_codeAt_30 (by decide) ?_
      exact RT 31 H locs ls 0 () dX7_codeAt_31 h (hP.sub [0, 1] rfl) (hD.sub [0, 1] (by decide) rfl) hS
    · replace h := h.2 c2
      refine lv_iload_n hx hb dX7_codeAt_12 rfl (lv_at hl 1 rfl) ?_
      refine lv_aload_n hx hb dX7_codeAt_13 rfl (lv_at hl 0 rfl) ?_
      refine va_get (D := D) (ci := 7) (v := .ref h_this_codes) (C := RX7) (T := TX7) (N := 2) hx hb hts iX7 hown hK hP 0 rfl rfl 0 (by decide) k11 (fun _ h9 => h9) rfl dX7_codeAt_14 ?_
      refine va_alen (v := nI 40) hx hb hK hP 1 0 rfl rfl rfl dX7_codeAt_17 ?_
      refine lv_icmp_ge (tgt := 30) hx hb dX7_codeAt_18 (by decide) (fun c3 => ?_) (fun c3 => ?_)
      · replace h := h.1 c3
        refine lv_iconst (v := 0) hx hb dX7_codeAt_30 (by decide) ?_
        exact RT 31 H locs ls 0 () dX7_codeAt_31 h (hP.sub [0, 1] rfl) (hD.sub [0, 1] (by decide) rfl) hS
      · replace h := h.2 c3
        refine lv_aload_n hx hb dX7_codeAt_21 rfl (lv_at hl 0 rfl) ?_
        refine va_get (D := D) (ci := 7) (v := .ref h_this_codes) (C := RX7) (T := TX7) (N := 2) hx hb hts iX7 hown hK hP 0 rfl rfl 0 (by decide) k11 (fun _ h9 => h9) rfl dX7_codeAt_22 ?_
        refine lv_iload_n hx hb dX7_codeAt_25 rfl (lv_at hl 1 rfl) ?_
        have b4 := h.1
        replace h := h.2
        refine va_iald hx hb hK hP 1 0 rfl rfl b4 dX7_codeAt_26 ?_
        refine lv_goto (tgt := 31) hx hb dX7_codeAt_27 (by decide) ?_
        exact RT 31 H locs ls (v_codes p1.toNatClampNeg) () dX7_codeAt_31 h (hP.sub [0, 1] rfl) (hD.sub [0, 1] (by decide) rfl) hS
def pX5_copyEntry_j83 (p2 : Int32) (p3 : Int32) (v_count : Int32) (v_a1_codes : Nat → Int32) (v_a1_length : Int32) (Q : (Nat → Int32) → (Nat → Int32) → (Nat → Int32) → Prop) (s1 : Int32) (s2 : Int32) (s3 : Int32) (s4 : Int32) (s5 : Int32) (w_written : Nat → Int32) (w_moved : Nat → Int32) (w_following : Nat → Int32) : Prop :=
  pX5_put s1 s2 s3 s4 s5 v_count w_written w_moved w_following (fun w11 w12 w13 => Q w11 w12 w13)
def pX5_copyEntry_j44 (p2 : Int32) (p3 : Int32) (v_count : Int32) (v_a1_codes : Nat → Int32) (v_a1_length : Int32) (Q : (Nat → Int32) → (Nat → Int32) → (Nat → Int32) → Prop) (l4 : Int32) (l5 : Int32) (s0 : Int32) (w_written : Nat → Int32) (w_moved : Nat → Int32) (w_following : Nat → Int32) : Prop :=
  pX7_codeAt (l4 + 2) v_a1_codes v_a1_length (fun r8 => ((¬ r8 = 90 → pX5_copyEntry_j83 p2 p3 v_count v_a1_codes v_a1_length Q p2 p3 (l5 - 48) s0 (r8 - 65) w_written w_moved w_following) ∧ (r8 = 90 → pX5_copyEntry_j83 p2 p3 v_count v_a1_codes v_a1_length Q p2 p3 (l5 - 48) s0 9 w_written w_moved w_following)))
def pX5_copyEntry (p2 : Int32) (p3 : Int32) (v_count : Int32) (v_written : Nat → Int32) (v_moved : Nat → Int32) (v_following : Nat → Int32) (v_a1_codes : Nat → Int32) (v_a1_length : Int32) (Q : (Nat → Int32) → (Nat → Int32) → (Nat → Int32) → Prop) : Prop :=
  (∀ x1 : Int32, x1 = (7 * p2) + (3 * p3) → pX7_codeAt x1 v_a1_codes v_a1_length (fun r2 => ((¬ r2 = 45 → pX7_codeAt (x1 + 1) v_a1_codes v_a1_length (fun r5 => ((¬ r5 = 82 → pX5_copyEntry_j44 p2 p3 v_count v_a1_codes v_a1_length Q x1 r2 0 v_written v_moved v_following) ∧ (r5 = 82 → pX5_copyEntry_j44 p2 p3 v_count v_a1_codes v_a1_length Q x1 r2 1 v_written v_moved v_following)))) ∧ (r2 = 45 → Q v_written v_moved v_following))))
abbrev rmX5_copyEntry : Room := { frames := 2, cells := 0, slots := 0, locals := 49 }
theorem hdV_X5_put : yX5_put.cls = RX5 ∧ yX5_put.cls ≠ "java/lang/invoke/MethodHandle" ∧ yX5_put.cls ≠ "java/lang/invoke/VarHandle" ∧ (parseMethodDescriptor yX5_put.desc).map (fun d => d.parameters.length) = some 5 := by decide +kernel
theorem hdV_X7_codeAt : yX7_codeAt.cls = RX7 ∧ yX7_codeAt.cls ≠ "java/lang/invoke/MethodHandle" ∧ yX7_codeAt.cls ≠ "java/lang/invoke/VarHandle" ∧ (parseMethodDescriptor yX7_codeAt.desc).map (fun d => d.parameters.length) = some 1 := by decide +kernel
set_option maxHeartbeats 4000000 in
set_option maxRecDepth 100000 in
theorem mX5_copyEntry (l : Launch) (D : va_G) (cy : Cy) (h_this : Nat) (h_a1 : Nat) (h_this_written : Nat) (h_this_moved : Nat) (h_this_following : Nat) (h_a1_codes : Nat) (v_count : Int32) (v_written : Nat → Int32) (v_moved : Nat → Int32) (v_following : Nat → Int32) (v_a1_length : Int32) (v_a1_codes : Nat → Int32) (p2 : Int32) (p3 : Int32) (Q : (Nat → Int32) → (Nat → Int32) → (Nat → Int32) → Prop) (h : pX5_copyEntry p2 p3 v_count v_written v_moved v_following v_a1_codes v_a1_length Q) : Cv l yX5_copyEntry wsX5_copyEntry rmX5_copyEntry 0 0 D cy [(h_this, .inr (5, [.int v_count, .ref h_this_written, .ref h_this_moved, .ref h_this_following])), (h_this_written, .inl (cy.1, 10, .inl v_written)), (h_this_moved, .inl (cy.1, 10, .inl v_moved)), (h_this_following, .inl (cy.1, 10, .inl v_following)), (h_a1, .inr (7, [.ref h_a1_codes, .int v_a1_length])), (h_a1_codes, .inl (cy.1, 40, .inl v_a1_codes))] [.ref h_this, .ref h_a1, .int p2, .int p3] (fun (u : (Nat → Int32) × (Nat → Int32) × (Nat → Int32)) => Q u.1 u.2.1 u.2.2) (fun (u : (Nat → Int32) × (Nat → Int32) × (Nat → Int32)) => [(h_this, .inr (5, [.int v_count, .ref h_this_written, .ref h_this_moved, .ref h_this_following])), (h_this_written, .inl (cy.1, 10, .inl u.1)), (h_this_moved, .inl (cy.1, 10, .inl u.2.1)), (h_this_following, .inl (cy.1, 10, .inl u.2.2)), (h_a1, .inr (7, [.ref h_a1_codes, .int v_a1_length])), (h_a1_codes, .inl (cy.1, 40, .inl v_a1_codes))]) := by
  refine of_v (cc := cX5_copyEntry) (maxL := 8) (by decide) rfl (Nat.le_of_ble_eq_true rfl) ?_
  intro p e s m args below meth c A ls QQ T0 RT hP hD hS hl
  obtain ⟨hx, hb, hr, hts, hown, hlocks, hml, hin, hK, hN, hA⟩ := T0
  have hown : s.vm.findClass RX5 = some m.cls := hown
  have hl : lv_has ls 8 [(0, .ref h_this), (1, .ref h_a1), (2, .int p2), (3, .int p3)] := hl
  have J83 : ∀ (s1 : Int32) (s2 : Int32) (s3 : Int32) (s4 : Int32) (s5 : Int32) (w_written : Nat → Int32) (w_moved : Nat → Int32) (w_following : Nat → Int32) (H : Heap) (locs : List Loc) (ls : Array Slot), pX5_copyEntry_j83 p2 p3 v_count v_a1_codes v_a1_length Q s1 s2 s3 s4 s5 w_written w_moved w_following → va_P D vwCl [(h_this, .inr (5, [.int v_count, .ref h_this_written, .ref h_this_moved, .ref h_this_following])), (h_this_written, .inl (cy.1, 10, .inl w_written)), (h_this_moved, .inl (cy.1, 10, .inl w_moved)), (h_this_following, .inl (cy.1, 10, .inl w_following)), (h_a1, .inr (7, [.ref h_a1_codes, .int v_a1_length])), (h_a1_codes, .inl (cy.1, 40, .inl v_a1_codes))] H → va_D A [(h_this, .inr (5, [.int v_count, .ref h_this_written, .ref h_this_moved, .ref h_this_following])), (h_this_written, .inl (cy.1, 10, .inl w_written)), (h_this_moved, .inl (cy.1, 10, .inl w_moved)), (h_this_following, .inl (cy.1, 10, .inl w_following)), (h_a1, .inr (7, [.ref h_a1_codes, .int v_a1_length])), (h_a1_codes, .inl (cy.1, 40, .inl v_a1_codes))] → va_S A s.heap H locs → lv_has ls 8 [] → W p l e rmX5_copyEntry s m args below meth c H locs 0 0 QQ (F0 m 83 ls [.int s5, .int s4, .int s3, .int s2, .int s1, .ref h_this]) := by
    intro s1 s2 s3 s4 s5 w_written w_moved w_following H locs ls h hP hD hS hl
    refine call_vV (As := [.int s1, .int s2, .int s3, .int s4, .int s5]) (rest := []) (wr := [(h_a1, .inr (7, [.ref h_a1_codes, .int v_a1_length])), (h_a1_codes, .inl (cy.1, 40, .inl v_a1_codes))]) ⟨hx, hb, hml, hown, hts⟩ (mX5_put l D cy h_this h_this_written h_this_moved h_this_following v_count w_written w_moved w_following s1 s2 s3 s4 s5 _ h) (cwV 5 hts gX5_copyEntry_X5_put rfl rfl rfl hdV_X5_put ⟨Nat.le_of_ble_eq_true rfl, Nat.le_of_ble_eq_true rfl⟩) hP hK hN hD hS hA [0, 1, 2, 3] [4, 5] rfl rfl (by decide) (by decide) (by decide) (ci := 5) rfl rfl rfl rfl hl.1 rfl (Nat.le_of_ble_eq_true rfl) dX5_copyEntry_83 ⟨Nat.le_of_ble_eq_true rfl, Nat.le_of_ble_eq_true rfl⟩ (fun u14 H locs h hP hD hS => ?_)
    obtain ⟨w11, w12, w13⟩ := u14
    have hP : va_P D vwCl [(h_a1, .inr (7, [.ref h_a1_codes, .int v_a1_length])), (h_a1_codes, .inl (cy.1, 40, .inl v_a1_codes)), (h_this, .inr (5, [.int v_count, .ref h_this_written, .ref h_this_moved, .ref h_this_following])), (h_this_written, .inl (cy.1, 10, .inl w11)), (h_this_moved, .inl (cy.1, 10, .inl w12)), (h_this_following, .inl (cy.1, 10, .inl w13))] H := hP
    have hD : va_D A [(h_a1, .inr (7, [.ref h_a1_codes, .int v_a1_length])), (h_a1_codes, .inl (cy.1, 40, .inl v_a1_codes)), (h_this, .inr (5, [.int v_count, .ref h_this_written, .ref h_this_moved, .ref h_this_following])), (h_this_written, .inl (cy.1, 10, .inl w11)), (h_this_moved, .inl (cy.1, 10, .inl w12)), (h_this_following, .inl (cy.1, 10, .inl w13))] := hD
    exact RT 86 H locs ls (w11, w12, w13) dX5_copyEntry_86 h (hP.sub [2, 3, 4, 5, 0, 1] rfl) (hD.sub [2, 3, 4, 5, 0, 1] (by decide) rfl) hS
  have J44 : ∀ (l4 : Int32) (l5 : Int32) (s0 : Int32) (w_written : Nat → Int32) (w_moved : Nat → Int32) (w_following : Nat → Int32) (H : Heap) (locs : List Loc) (ls : Array Slot), pX5_copyEntry_j44 p2 p3 v_count v_a1_codes v_a1_length Q l4 l5 s0 w_written w_moved w_following → va_P D vwCl [(h_this, .inr (5, [.int v_count, .ref h_this_written, .ref h_this_moved, .ref h_this_following])), (h_this_written, .inl (cy.1, 10, .inl w_written)), (h_this_moved, .inl (cy.1, 10, .inl w_moved)), (h_this_following, .inl (cy.1, 10, .inl w_following)), (h_a1, .inr (7, [.ref h_a1_codes, .int v_a1_length])), (h_a1_codes, .inl (cy.1, 40, .inl v_a1_codes))] H → va_D A [(h_this, .inr (5, [.int v_count, .ref h_this_written, .ref h_this_moved, .ref h_this_following])), (h_this_written, .inl (cy.1, 10, .inl w_written)), (h_this_moved, .inl (cy.1, 10, .inl w_moved)), (h_this_following, .inl (cy.1, 10, .inl w_following)), (h_a1, .inr (7, [.ref h_a1_codes, .int v_a1_length])), (h_a1_codes, .inl (cy.1, 40, .inl v_a1_codes))] → va_S A s.heap H locs → lv_has ls 8 [(0, .ref h_this), (1, .ref h_a1), (2, .int p2), (3, .int p3), (4, .int l4), (5, .int l5)] → W p l e rmX5_copyEntry s m args below meth c H locs 0 0 QQ (F0 m 44 ls [.int s0]) := by
    intro l4 l5 s0 w_written w_moved w_following H locs ls h hP hD hS hl
    refine lv_istore (lv' := [(6, .int s0), (0, .ref h_this), (1, .ref h_a1), (2, .int p2), (3, .int p3), (4, .int l4), (5, .int l5)]) hx hb dX5_copyEntry_44 hl (by decide) rfl (fun ls hl => ?_)
    refine lv_aload_n hx hb dX5_copyEntry_46 rfl (lv_at hl 2 rfl) ?_
    refine lv_iload hx hb dX5_copyEntry_47 (lv_at hl 5 rfl) ?_
    refine lv_iconst (v := 2) hx hb dX5_copyEntry_49 (by decide) ?_
    refine lv_iadd hx hb dX5_copyEntry_50 ?_
    refine call_iV (As := [.int (l4 + 2)]) (rest := []) (wr := [(h_this, .inr (5, [.int v_count, .ref h_this_written, .ref h_this_moved, .ref h_this_following])), (h_this_written, .inl (cy.1, 10, .inl w_written)), (h_this_moved, .inl (cy.1, 10, .inl w_moved)), (h_this_following, .inl (cy.1, 10, .inl w_following))]) ⟨hx, hb, hml, hown, hts⟩ (mX7_codeAt l D cy h_a1 h_a1_codes v_a1_length v_a1_codes (l4 + 2) _ h) (cwV 1 hts gX5_copyEntry_X7_codeAt rfl rfl rfl hdV_X7_codeAt ⟨Nat.le_of_ble_eq_true rfl, Nat.le_of_ble_eq_true rfl⟩) hP hK hN hD hS hA [4, 5] [0, 1, 2, 3] rfl rfl (by decide) (by decide) (by decide) (ci := 7) rfl rfl rfl rfl hl.1 rfl (Nat.le_of_ble_eq_true rfl) dX5_copyEntry_51 ⟨Nat.le_of_ble_eq_true rfl, Nat.le_of_ble_eq_true rfl⟩ (fun r8 u9 H locs h hP hD hS => ?_)
    have hP : va_P D vwCl [(h_this, .inr (5, [.int v_count, .ref h_this_written, .ref h_this_moved, .ref h_this_following])), (h_this_written, .inl (cy.1, 10, .inl w_written)), (h_this_moved, .inl (cy.1, 10, .inl w_moved)), (h_this_following, .inl (cy.1, 10, .inl w_following)), (h_a1, .inr (7, [.ref h_a1_codes, .int v_a1_length])), (h_a1_codes, .inl (cy.1, 40, .inl v_a1_codes))] H := hP
    have hD : va_D A [(h_this, .inr (5, [.int v_count, .ref h_this_written, .ref h_this_moved, .ref h_this_following])), (h_this_written, .inl (cy.1, 10, .inl w_written)), (h_this_moved, .inl (cy.1, 10, .inl w_moved)), (h_this_following, .inl (cy.1, 10, .inl w_following)), (h_a1, .inr (7, [.ref h_a1_codes, .int v_a1_length])), (h_a1_codes, .inl (cy.1, 40, .inl v_a1_codes))] := hD
    refine lv_istore (lv' := [(7, .int r8), (6, .int s0), (0, .ref h_this), (1, .ref h_a1), (2, .int p2), (3, .int p3), (4, .int l4), (5, .int l5)]) hx hb dX5_copyEntry_54 hl (by decide) rfl (fun ls hl => ?_)
    refine lv_aload_n hx hb dX5_copyEntry_56 rfl (lv_at hl 2 rfl) ?_
    refine lv_iload_n hx hb dX5_copyEntry_57 rfl (lv_at hl 4 rfl) ?_
    refine lv_iload_n hx hb dX5_copyEntry_58 rfl (lv_at hl 5 rfl) ?_
    refine lv_iload hx hb dX5_copyEntry_59 (lv_at hl 7 rfl) ?_
    refine lv_bipush (v := 48) hx hb dX5_copyEntry_61 (by decide) ?_
    refine lv_isub hx hb dX5_copyEntry_63 ?_
    refine lv_iload hx hb dX5_copyEntry_64 (lv_at hl 1 rfl) ?_
    refine lv_iload hx hb dX5_copyEntry_66 (lv_at hl 0 rfl) ?_
    refine lv_bipush (v := 90) hx hb dX5_copyEntry_68 (by decide) ?_
    refine lv_icmp_ne (tgt := 78) hx hb dX5_copyEntry_70 (by decide) (fun c10 => ?_) (fun c10 => ?_)
    · replace h := h.1 c10
      refine lv_iload hx hb dX5_copyEntry_78 (lv_at hl 0 rfl) ?_
      refine lv_bipush (v := 65) hx hb dX5_copyEntry_80 (by decide) ?_
      refine lv_isub hx hb dX5_copyEntry_82 ?_
      exact J83 p2 p3 (l5 - 48) s0 (r8 - 65) w_written w_moved w_following H locs ls h (hP.sub [0, 1, 2, 3, 4, 5] rfl) (hD.sub [0, 1, 2, 3, 4, 5] (by decide) rfl) hS (lv_sub hl [] rfl)
    · replace h := h.2 c10
      refine lv_bipush (v := 9) hx hb dX5_copyEntry_73 (by decide) ?_
      refine lv_goto (tgt := 83) hx hb dX5_copyEntry_75 (by decide) ?_
      exact J83 p2 p3 (l5 - 48) s0 9 w_written w_moved w_following H locs ls h (hP.sub [0, 1, 2, 3, 4, 5] rfl) (hD.sub [0, 1, 2, 3, 4, 5] (by decide) rfl) hS (lv_sub hl [] rfl)
  obtain ⟨H, hH⟩ : ∃ H, H = s.heap := ⟨_, rfl⟩
  obtain ⟨locs, hlo⟩ : ∃ z : List Loc, z = [] := ⟨_, rfl⟩
  have hS0 := hS
  rw [← hH] at hP ⊢
  rw [← hlo]
  replace hS : va_S A s.heap H locs := by rw [hH, hlo]; exact hS0
  refine lv_bipush (v := 7) hx hb dX5_copyEntry_0 (by decide) ?_
  refine lv_iload_n hx hb dX5_copyEntry_2 rfl (lv_at hl 2 rfl) ?_
  refine lv_imul hx hb dX5_copyEntry_3 ?_
  refine lv_iconst (v := 3) hx hb dX5_copyEntry_4 (by decide) ?_
  refine lv_iload_n hx hb dX5_copyEntry_5 rfl (lv_at hl 3 rfl) ?_
  refine lv_imul hx hb dX5_copyEntry_6 ?_
  refine lv_iadd hx hb dX5_copyEntry_7 ?_
  refine lv_topi (fun x1 ex1 => ?_)
  replace h := h x1 ex1
  refine lv_istore (lv' := [(4, .int x1), (0, .ref h_this), (1, .ref h_a1), (2, .int p2), (3, .int p3)]) hx hb dX5_copyEntry_8 hl (by decide) rfl (fun ls hl => ?_)
  refine lv_aload_n hx hb dX5_copyEntry_10 rfl (lv_at hl 2 rfl) ?_
  refine lv_iload hx hb dX5_copyEntry_11 (lv_at hl 0 rfl) ?_
  refine call_iV (As := [.int x1]) (rest := []) (wr := [(h_this, .inr (5, [.int v_count, .ref h_this_written, .ref h_this_moved, .ref h_this_following])), (h_this_written, .inl (cy.1, 10, .inl v_written)), (h_this_moved, .inl (cy.1, 10, .inl v_moved)), (h_this_following, .inl (cy.1, 10, .inl v_following))]) ⟨hx, hb, hml, hown, hts⟩ (mX7_codeAt l D cy h_a1 h_a1_codes v_a1_length v_a1_codes x1 _ h) (cwV 1 hts gX5_copyEntry_X7_codeAt rfl rfl rfl hdV_X7_codeAt ⟨Nat.le_of_ble_eq_true rfl, Nat.le_of_ble_eq_true rfl⟩) hP hK hN hD hS hA [4, 5] [0, 1, 2, 3] rfl rfl (by decide) (by decide) (by decide) (ci := 7) rfl rfl rfl rfl hl.1 rfl (Nat.le_of_ble_eq_true rfl) dX5_copyEntry_13 ⟨Nat.le_of_ble_eq_true rfl, Nat.le_of_ble_eq_true rfl⟩ (fun r2 u3 H locs h hP hD hS => ?_)
  have hP : va_P D vwCl [(h_this, .inr (5, [.int v_count, .ref h_this_written, .ref h_this_moved, .ref h_this_following])), (h_this_written, .inl (cy.1, 10, .inl v_written)), (h_this_moved, .inl (cy.1, 10, .inl v_moved)), (h_this_following, .inl (cy.1, 10, .inl v_following)), (h_a1, .inr (7, [.ref h_a1_codes, .int v_a1_length])), (h_a1_codes, .inl (cy.1, 40, .inl v_a1_codes))] H := hP
  have hD : va_D A [(h_this, .inr (5, [.int v_count, .ref h_this_written, .ref h_this_moved, .ref h_this_following])), (h_this_written, .inl (cy.1, 10, .inl v_written)), (h_this_moved, .inl (cy.1, 10, .inl v_moved)), (h_this_following, .inl (cy.1, 10, .inl v_following)), (h_a1, .inr (7, [.ref h_a1_codes, .int v_a1_length])), (h_a1_codes, .inl (cy.1, 40, .inl v_a1_codes))] := hD
  refine lv_istore (lv' := [(5, .int r2), (4, .int x1), (0, .ref h_this), (1, .ref h_a1), (2, .int p2), (3, .int p3)]) hx hb dX5_copyEntry_16 hl (by decide) rfl (fun ls hl => ?_)
  refine lv_iload hx hb dX5_copyEntry_18 (lv_at hl 0 rfl) ?_
  refine lv_bipush (v := 45) hx hb dX5_copyEntry_20 (by decide) ?_
  refine lv_icmp_ne (tgt := 26) hx hb dX5_copyEntry_22 (by decide) (fun c4 => ?_) (fun c4 => ?_)
  · replace h := h.1 c4
    refine lv_aload_n hx hb dX5_copyEntry_26 rfl (lv_at hl 3 rfl) ?_
    refine lv_iload hx hb dX5_copyEntry_27 (lv_at hl 1 rfl) ?_
    refine lv_iconst (v := 1) hx hb dX5_copyEntry_29 (by decide) ?_
    refine lv_iadd hx hb dX5_copyEntry_30 ?_
    refine call_iV (As := [.int (x1 + 1)]) (rest := []) (wr := [(h_this, .inr (5, [.int v_count, .ref h_this_written, .ref h_this_moved, .ref h_this_following])), (h_this_written, .inl (cy.1, 10, .inl v_written)), (h_this_moved, .inl (cy.1, 10, .inl v_moved)), (h_this_following, .inl (cy.1, 10, .inl v_following))]) ⟨hx, hb, hml, hown, hts⟩ (mX7_codeAt l D cy h_a1 h_a1_codes v_a1_length v_a1_codes (x1 + 1) _ h) (cwV 1 hts gX5_copyEntry_X7_codeAt rfl rfl rfl hdV_X7_codeAt ⟨Nat.le_of_ble_eq_true rfl, Nat.le_of_ble_eq_true rfl⟩) hP hK hN hD hS hA [4, 5] [0, 1, 2, 3] rfl rfl (by decide) (by decide) (by decide) (ci := 7) rfl rfl rfl rfl hl.1 rfl (Nat.le_of_ble_eq_true rfl) dX5_copyEntry_31 ⟨Nat.le_of_ble_eq_true rfl, Nat.le_of_ble_eq_true rfl⟩ (fun r5 u6 H locs h hP hD hS => ?_)
    have hP : va_P D vwCl [(h_this, .inr (5, [.int v_count, .ref h_this_written, .ref h_this_moved, .ref h_this_following])), (h_this_written, .inl (cy.1, 10, .inl v_written)), (h_this_moved, .inl (cy.1, 10, .inl v_moved)), (h_this_following, .inl (cy.1, 10, .inl v_following)), (h_a1, .inr (7, [.ref h_a1_codes, .int v_a1_length])), (h_a1_codes, .inl (cy.1, 40, .inl v_a1_codes))] H := hP
    have hD : va_D A [(h_this, .inr (5, [.int v_count, .ref h_this_written, .ref h_this_moved, .ref h_this_following])), (h_this_written, .inl (cy.1, 10, .inl v_written)), (h_this_moved, .inl (cy.1, 10, .inl v_moved)), (h_this_following, .inl (cy.1, 10, .inl v_following)), (h_a1, .inr (7, [.ref h_a1_codes, .int v_a1_length])), (h_a1_codes, .inl (cy.1, 40, .inl v_a1_codes))] := hD
    refine lv_bipush (v := 82) hx hb dX5_copyEntry_34 (by decide) ?_
    refine lv_icmp_ne (tgt := 43) hx hb dX5_copyEntry_36 (by decide) (fun c7 => ?_) (fun c7 => ?_)
    · replace h := h.1 c7
      refine lv_iconst (v := 0) hx hb dX5_copyEntry_43 (by decide) ?_
      exact J44 x1 r2 0 v_written v_moved v_following H locs ls h (hP.sub [0, 1, 2, 3, 4, 5] rfl) (hD.sub [0, 1, 2, 3, 4, 5] (by decide) rfl) hS (lv_sub hl [2, 3, 4, 5, 1, 0] rfl)
    · replace h := h.2 c7
      refine lv_iconst (v := 1) hx hb dX5_copyEntry_39 (by decide) ?_
      refine lv_goto (tgt := 44) hx hb dX5_copyEntry_40 (by decide) ?_
      exact J44 x1 r2 1 v_written v_moved v_following H locs ls h (hP.sub [0, 1, 2, 3, 4, 5] rfl) (hD.sub [0, 1, 2, 3, 4, 5] (by decide) rfl) hS (lv_sub hl [2, 3, 4, 5, 1, 0] rfl)
  · replace h := h.2 c4
    exact RT 25 H locs ls (v_written, v_moved, v_following) dX5_copyEntry_25 h (hP.sub [0, 1, 2, 3, 4, 5] rfl) (hD.sub [0, 1, 2, 3, 4, 5] (by decide) rfl) hS
def pX5_copyFrom_B20 (v_a1_codes : Nat → Int32) (v_a1_length : Int32) (Q : Int32 → (Nat → Int32) → (Nat → Int32) → (Nat → Int32) → Prop) (X10 : (Int32 × (Nat → Int32) × (Nat → Int32) × (Nat → Int32)) → Prop) (w_count : Int32) (l2 : Int32) (X20 : (Int32 × (Nat → Int32) × (Nat → Int32) × (Nat → Int32)) → Prop) : (Int32 × (Nat → Int32) × (Nat → Int32) × (Nat → Int32)) → Prop := fun v => match v with
  | (l3, w_written, w_moved, w_following) => (((1 : Int32) < l3 → (∀ x8 : Int32, x8 = l2 + 1 → X10 (x8, w_written, w_moved, w_following))) ∧ (¬ (1 : Int32) < l3 → pX5_copyEntry l2 l3 w_count w_written w_moved w_following v_a1_codes v_a1_length (fun w9 w10 w11 => (∀ x13 : Int32, x13 = l3 + 1 → X20 (x13, w9, w10, w11)))))
def pX5_copyFrom_B10 (v_a1_codes : Nat → Int32) (v_a1_length : Int32) (Q : Int32 → (Nat → Int32) → (Nat → Int32) → (Nat → Int32) → Prop) (w_count : Int32) (X10 : (Int32 × (Nat → Int32) × (Nat → Int32) × (Nat → Int32)) → Prop) : (Int32 × (Nat → Int32) × (Nat → Int32) × (Nat → Int32)) → Prop := fun v => match v with
  | (l2, w_written, w_moved, w_following) => ((w_count ≤ l2 → Q w_count w_written w_moved w_following) ∧ (¬ w_count ≤ l2 → Lp (pX5_copyFrom_B20 v_a1_codes v_a1_length Q X10 w_count l2) (0, w_written, w_moved, w_following)))
def pX5_copyFrom (v_count : Int32) (v_written : Nat → Int32) (v_moved : Nat → Int32) (v_following : Nat → Int32) (v_a1_codes : Nat → Int32) (v_a1_length : Int32) (Q : Int32 → (Nat → Int32) → (Nat → Int32) → (Nat → Int32) → Prop) : Prop :=
  pX7_rowCount v_a1_length (fun r1 => pX5_reset r1 v_count v_following (fun w3 w4 => Lp (pX5_copyFrom_B10 v_a1_codes v_a1_length Q w3) (0, v_written, v_moved, w4)))
abbrev rmX5_copyFrom : Room := { frames := 3, cells := 0, slots := 0, locals := 76 }
theorem hdV_X5_copyEntry : yX5_copyEntry.cls = RX5 ∧ yX5_copyEntry.cls ≠ "java/lang/invoke/MethodHandle" ∧ yX5_copyEntry.cls ≠ "java/lang/invoke/VarHandle" ∧ (parseMethodDescriptor yX5_copyEntry.desc).map (fun d => d.parameters.length) = some 3 := by decide +kernel
theorem hdV_X5_reset : yX5_reset.cls = RX5 ∧ yX5_reset.cls ≠ "java/lang/invoke/MethodHandle" ∧ yX5_reset.cls ≠ "java/lang/invoke/VarHandle" ∧ (parseMethodDescriptor yX5_reset.desc).map (fun d => d.parameters.length) = some 1 := by decide +kernel
theorem hdV_X7_rowCount : yX7_rowCount.cls = RX7 ∧ yX7_rowCount.cls ≠ "java/lang/invoke/MethodHandle" ∧ yX7_rowCount.cls ≠ "java/lang/invoke/VarHandle" ∧ (parseMethodDescriptor yX7_rowCount.desc).map (fun d => d.parameters.length) = some 0 := by decide +kernel
set_option maxHeartbeats 4000000 in
set_option maxRecDepth 100000 in
theorem mX5_copyFrom (l : Launch) (D : va_G) (cy : Cy) (h_this : Nat) (h_a1 : Nat) (h_this_written : Nat) (h_this_moved : Nat) (h_this_following : Nat) (h_a1_codes : Nat) (v_count : Int32) (v_written : Nat → Int32) (v_moved : Nat → Int32) (v_following : Nat → Int32) (v_a1_length : Int32) (v_a1_codes : Nat → Int32) (Q : Int32 → (Nat → Int32) → (Nat → Int32) → (Nat → Int32) → Prop) (h : pX5_copyFrom v_count v_written v_moved v_following v_a1_codes v_a1_length Q) : Cv l yX5_copyFrom wsX5_copyFrom rmX5_copyFrom 0 0 D cy [(h_this, .inr (5, [.int v_count, .ref h_this_written, .ref h_this_moved, .ref h_this_following])), (h_this_written, .inl (cy.1, 10, .inl v_written)), (h_this_moved, .inl (cy.1, 10, .inl v_moved)), (h_this_following, .inl (cy.1, 10, .inl v_following)), (h_a1, .inr (7, [.ref h_a1_codes, .int v_a1_length])), (h_a1_codes, .inl (cy.1, 40, .inl v_a1_codes))] [.ref h_this, .ref h_a1] (fun (u : Int32 × (Nat → Int32) × (Nat → Int32) × (Nat → Int32)) => Q u.1 u.2.1 u.2.2.1 u.2.2.2) (fun (u : Int32 × (Nat → Int32) × (Nat → Int32) × (Nat → Int32)) => [(h_this, .inr (5, [.int u.1, .ref h_this_written, .ref h_this_moved, .ref h_this_following])), (h_this_written, .inl (cy.1, 10, .inl u.2.1)), (h_this_moved, .inl (cy.1, 10, .inl u.2.2.1)), (h_this_following, .inl (cy.1, 10, .inl u.2.2.2)), (h_a1, .inr (7, [.ref h_a1_codes, .int v_a1_length])), (h_a1_codes, .inl (cy.1, 40, .inl v_a1_codes))]) := by
  refine of_v (cc := cX5_copyFrom) (maxL := 4) (by decide) rfl (Nat.le_of_ble_eq_true rfl) ?_
  intro p e s m args below meth c A ls QQ T0 RT hP hD hS hl
  obtain ⟨hx, hb, hr, hts, hown, hlocks, hml, hin, hK, hN, hA⟩ := T0
  have hown : s.vm.findClass RX5 = some m.cls := hown
  have hl : lv_has ls 4 [(0, .ref h_this), (1, .ref h_a1)] := hl
  have iX5 : ∀ w ∈ wsX50, w ∈ wsX5_copyFrom := fun _ h => List.mem_cons_of_mem _ (List.mem_append_left _ (List.mem_append_right _ h))
  have k31 := hts (.fieldLink RX5 31 "HaltingDecider$Machine" "count" "I") (List.mem_of_getElem? (i := 1) (by decide +kernel))
  have L10 : ∀ (w_count : Int32) (v : Int32 × (Nat → Int32) × (Nat → Int32) × (Nat → Int32)), Lp (pX5_copyFrom_B10 v_a1_codes v_a1_length Q w_count) v → ∀ (H : Heap) (locs : List Loc) (ls : Array Slot), va_P D vwCl [(h_this, .inr (5, [.int w_count, .ref h_this_written, .ref h_this_moved, .ref h_this_following])), (h_this_written, .inl (cy.1, 10, .inl v.2.1)), (h_this_moved, .inl (cy.1, 10, .inl v.2.2.1)), (h_this_following, .inl (cy.1, 10, .inl v.2.2.2)), (h_a1, .inr (7, [.ref h_a1_codes, .int v_a1_length])), (h_a1_codes, .inl (cy.1, 40, .inl v_a1_codes))] H → va_D A [(h_this, .inr (5, [.int w_count, .ref h_this_written, .ref h_this_moved, .ref h_this_following])), (h_this_written, .inl (cy.1, 10, .inl v.2.1)), (h_this_moved, .inl (cy.1, 10, .inl v.2.2.1)), (h_this_following, .inl (cy.1, 10, .inl v.2.2.2)), (h_a1, .inr (7, [.ref h_a1_codes, .int v_a1_length])), (h_a1_codes, .inl (cy.1, 40, .inl v_a1_codes))] → va_S A s.heap H locs → lv_has ls 4 [(0, .ref h_this), (1, .ref h_a1), (2, .int v.1)] → W p l e rmX5_copyFrom s m args below meth c H locs 0 0 QQ (F0 m 10 ls []) := by
    intro w_count
    intro v h
    refine h (fun v => ∀ (H : Heap) (locs : List Loc) (ls : Array Slot), va_P D vwCl [(h_this, .inr (5, [.int w_count, .ref h_this_written, .ref h_this_moved, .ref h_this_following])), (h_this_written, .inl (cy.1, 10, .inl v.2.1)), (h_this_moved, .inl (cy.1, 10, .inl v.2.2.1)), (h_this_following, .inl (cy.1, 10, .inl v.2.2.2)), (h_a1, .inr (7, [.ref h_a1_codes, .int v_a1_length])), (h_a1_codes, .inl (cy.1, 40, .inl v_a1_codes))] H → va_D A [(h_this, .inr (5, [.int w_count, .ref h_this_written, .ref h_this_moved, .ref h_this_following])), (h_this_written, .inl (cy.1, 10, .inl v.2.1)), (h_this_moved, .inl (cy.1, 10, .inl v.2.2.1)), (h_this_following, .inl (cy.1, 10, .inl v.2.2.2)), (h_a1, .inr (7, [.ref h_a1_codes, .int v_a1_length])), (h_a1_codes, .inl (cy.1, 40, .inl v_a1_codes))] → va_S A s.heap H locs → lv_has ls 4 [(0, .ref h_this), (1, .ref h_a1), (2, .int v.1)] → W p l e rmX5_copyFrom s m args below meth c H locs 0 0 QQ (F0 m 10 ls [])) ?_
    clear h v
    intro v X10 hY10 h H locs ls hP hD hS hl
    obtain ⟨l2, w_written, w_moved, w_following⟩ := v
    have hP : va_P D vwCl [(h_this, .inr (5, [.int w_count, .ref h_this_written, .ref h_this_moved, .ref h_this_following])), (h_this_written, .inl (cy.1, 10, .inl w_written)), (h_this_moved, .inl (cy.1, 10, .inl w_moved)), (h_this_following, .inl (cy.1, 10, .inl w_following)), (h_a1, .inr (7, [.ref h_a1_codes, .int v_a1_length])), (h_a1_codes, .inl (cy.1, 40, .inl v_a1_codes))] H := hP
    have hD : va_D A [(h_this, .inr (5, [.int w_count, .ref h_this_written, .ref h_this_moved, .ref h_this_following])), (h_this_written, .inl (cy.1, 10, .inl w_written)), (h_this_moved, .inl (cy.1, 10, .inl w_moved)), (h_this_following, .inl (cy.1, 10, .inl w_following)), (h_a1, .inr (7, [.ref h_a1_codes, .int v_a1_length])), (h_a1_codes, .inl (cy.1, 40, .inl v_a1_codes))] := hD
    have hl : lv_has ls 4 [(0, .ref h_this), (1, .ref h_a1), (2, .int l2)] := hl
    have L20 : ∀ (l2 : Int32) (v : Int32 × (Nat → Int32) × (Nat → Int32) × (Nat → Int32)), Lp (pX5_copyFrom_B20 v_a1_codes v_a1_length Q X10 w_count l2) v → ∀ (H : Heap) (locs : List Loc) (ls : Array Slot), va_P D vwCl [(h_this, .inr (5, [.int w_count, .ref h_this_written, .ref h_this_moved, .ref h_this_following])), (h_this_written, .inl (cy.1, 10, .inl v.2.1)), (h_this_moved, .inl (cy.1, 10, .inl v.2.2.1)), (h_this_following, .inl (cy.1, 10, .inl v.2.2.2)), (h_a1, .inr (7, [.ref h_a1_codes, .int v_a1_length])), (h_a1_codes, .inl (cy.1, 40, .inl v_a1_codes))] H → va_D A [(h_this, .inr (5, [.int w_count, .ref h_this_written, .ref h_this_moved, .ref h_this_following])), (h_this_written, .inl (cy.1, 10, .inl v.2.1)), (h_this_moved, .inl (cy.1, 10, .inl v.2.2.1)), (h_this_following, .inl (cy.1, 10, .inl v.2.2.2)), (h_a1, .inr (7, [.ref h_a1_codes, .int v_a1_length])), (h_a1_codes, .inl (cy.1, 40, .inl v_a1_codes))] → va_S A s.heap H locs → lv_has ls 4 [(0, .ref h_this), (1, .ref h_a1), (2, .int l2), (3, .int v.1)] → W p l e rmX5_copyFrom s m args below meth c H locs 0 0 QQ (F0 m 20 ls []) := by
      intro l2
      intro v h
      refine h (fun v => ∀ (H : Heap) (locs : List Loc) (ls : Array Slot), va_P D vwCl [(h_this, .inr (5, [.int w_count, .ref h_this_written, .ref h_this_moved, .ref h_this_following])), (h_this_written, .inl (cy.1, 10, .inl v.2.1)), (h_this_moved, .inl (cy.1, 10, .inl v.2.2.1)), (h_this_following, .inl (cy.1, 10, .inl v.2.2.2)), (h_a1, .inr (7, [.ref h_a1_codes, .int v_a1_length])), (h_a1_codes, .inl (cy.1, 40, .inl v_a1_codes))] H → va_D A [(h_this, .inr (5, [.int w_count, .ref h_this_written, .ref h_this_moved, .ref h_this_following])), (h_this_written, .inl (cy.1, 10, .inl v.2.1)), (h_this_moved, .inl (cy.1, 10, .inl v.2.2.1)), (h_this_following, .inl (cy.1, 10, .inl v.2.2.2)), (h_a1, .inr (7, [.ref h_a1_codes, .int v_a1_length])), (h_a1_codes, .inl (cy.1, 40, .inl v_a1_codes))] → va_S A s.heap H locs → lv_has ls 4 [(0, .ref h_this), (1, .ref h_a1), (2, .int l2), (3, .int v.1)] → W p l e rmX5_copyFrom s m args below meth c H locs 0 0 QQ (F0 m 20 ls [])) ?_
      clear h v
      intro v X20 hY20 h H locs ls hP hD hS hl
      obtain ⟨l3, w_written, w_moved, w_following⟩ := v
      have hP : va_P D vwCl [(h_this, .inr (5, [.int w_count, .ref h_this_written, .ref h_this_moved, .ref h_this_following])), (h_this_written, .inl (cy.1, 10, .inl w_written)), (h_this_moved, .inl (cy.1, 10, .inl w_moved)), (h_this_following, .inl (cy.1, 10, .inl w_following)), (h_a1, .inr (7, [.ref h_a1_codes, .int v_a1_length])), (h_a1_codes, .inl (cy.1, 40, .inl v_a1_codes))] H := hP
      have hD : va_D A [(h_this, .inr (5, [.int w_count, .ref h_this_written, .ref h_this_moved, .ref h_this_following])), (h_this_written, .inl (cy.1, 10, .inl w_written)), (h_this_moved, .inl (cy.1, 10, .inl w_moved)), (h_this_following, .inl (cy.1, 10, .inl w_following)), (h_a1, .inr (7, [.ref h_a1_codes, .int v_a1_length])), (h_a1_codes, .inl (cy.1, 40, .inl v_a1_codes))] := hD
      have hl : lv_has ls 4 [(0, .ref h_this), (1, .ref h_a1), (2, .int l2), (3, .int l3)] := hl
      refine lv_iload_n hx hb dX5_copyFrom_20 rfl (lv_at hl 3 rfl) ?_
      refine lv_iconst (v := 1) hx hb dX5_copyFrom_21 (by decide) ?_
      refine lv_icmp_gt (tgt := 38) hx hb dX5_copyFrom_22 (by decide) (fun c7 => ?_) (fun c7 => ?_)
      · replace h := h.1 c7
        obtain ⟨x8, ex8⟩ : ∃ y : Int32, y = l2 + 1 := ⟨_, rfl⟩
        replace h := h x8 ex8
        refine lv_iinc (v := x8) (lv' := [(2, .int x8), (0, .ref h_this), (1, .ref h_a1), (3, .int l3)]) hx hb dX5_copyFrom_38 hl (k := 2) rfl (by rw [ex8]; rfl) (by decide) rfl (fun ls hl => ?_)
        refine lv_goto (tgt := 10) hx hb dX5_copyFrom_41 (by decide) ?_
        exact hY10 (x8, w_written, w_moved, w_following) h H locs ls (hP.sub [0, 1, 2, 3, 4, 5] rfl) (hD.sub [0, 1, 2, 3, 4, 5] (by decide) rfl) hS (lv_sub hl [1, 2, 0] rfl)
      · replace h := h.2 c7
        refine lv_aload_n hx hb dX5_copyFrom_25 rfl (lv_at hl 0 rfl) ?_
        refine lv_aload_n hx hb dX5_copyFrom_26 rfl (lv_at hl 1 rfl) ?_
        refine lv_iload_n hx hb dX5_copyFrom_27 rfl (lv_at hl 2 rfl) ?_
        refine lv_iload_n hx hb dX5_copyFrom_28 rfl (lv_at hl 3 rfl) ?_
        refine call_vV (As := [.ref h_a1, .int l2, .int l3]) (rest := []) (wr := []) ⟨hx, hb, hml, hown, hts⟩ (mX5_copyEntry l D cy h_this h_a1 h_this_written h_this_moved h_this_following h_a1_codes w_count w_written w_moved w_following v_a1_length v_a1_codes l2 l3 _ h) (cwV 3 hts gX5_copyFrom_X5_copyEntry rfl rfl rfl hdV_X5_copyEntry ⟨Nat.le_of_ble_eq_true rfl, Nat.le_of_ble_eq_true rfl⟩) hP hK hN hD hS hA [0, 1, 2, 3, 4, 5] [] rfl rfl (by decide) (by decide) (by decide) (ci := 5) rfl rfl rfl rfl hl.1 rfl (Nat.le_of_ble_eq_true rfl) dX5_copyFrom_29 ⟨Nat.le_of_ble_eq_true rfl, Nat.le_of_ble_eq_true rfl⟩ (fun u12 H locs h hP hD hS => ?_)
        obtain ⟨w9, w10, w11⟩ := u12
        have hP : va_P D vwCl [(h_this, .inr (5, [.int w_count, .ref h_this_written, .ref h_this_moved, .ref h_this_following])), (h_this_written, .inl (cy.1, 10, .inl w9)), (h_this_moved, .inl (cy.1, 10, .inl w10)), (h_this_following, .inl (cy.1, 10, .inl w11)), (h_a1, .inr (7, [.ref h_a1_codes, .int v_a1_length])), (h_a1_codes, .inl (cy.1, 40, .inl v_a1_codes))] H := hP
        have hD : va_D A [(h_this, .inr (5, [.int w_count, .ref h_this_written, .ref h_this_moved, .ref h_this_following])), (h_this_written, .inl (cy.1, 10, .inl w9)), (h_this_moved, .inl (cy.1, 10, .inl w10)), (h_this_following, .inl (cy.1, 10, .inl w11)), (h_a1, .inr (7, [.ref h_a1_codes, .int v_a1_length])), (h_a1_codes, .inl (cy.1, 40, .inl v_a1_codes))] := hD
        obtain ⟨x13, ex13⟩ : ∃ y : Int32, y = l3 + 1 := ⟨_, rfl⟩
        replace h := h x13 ex13
        refine lv_iinc (v := x13) (lv' := [(3, .int x13), (0, .ref h_this), (1, .ref h_a1), (2, .int l2)]) hx hb dX5_copyFrom_32 hl (k := 3) rfl (by rw [ex13]; rfl) (by decide) rfl (fun ls hl => ?_)
        refine lv_goto (tgt := 20) hx hb dX5_copyFrom_35 (by decide) ?_
        exact hY20 (x13, w9, w10, w11) h H locs ls (hP.sub [0, 1, 2, 3, 4, 5] rfl) (hD.sub [0, 1, 2, 3, 4, 5] (by decide) rfl) hS (lv_sub hl [1, 2, 3, 0] rfl)
    refine lv_iload_n hx hb dX5_copyFrom_10 rfl (lv_at hl 2 rfl) ?_
    refine lv_aload_n hx hb dX5_copyFrom_11 rfl (lv_at hl 0 rfl) ?_
    refine va_get (D := D) (ci := 5) (v := .int w_count) (C := RX5) (T := TX5) (N := 4) hx hb hts iX5 hown hK hP 0 rfl rfl 0 (by decide) k31 (fun _ h9 => h9) rfl dX5_copyFrom_12 ?_
    refine lv_icmp_ge (tgt := 44) hx hb dX5_copyFrom_15 (by decide) (fun c6 => ?_) (fun c6 => ?_)
    · replace h := h.1 c6
      exact RT 44 H locs ls (w_count, w_written, w_moved, w_following) dX5_copyFrom_44 h (hP.sub [0, 1, 2, 3, 4, 5] rfl) (hD.sub [0, 1, 2, 3, 4, 5] (by decide) rfl) hS
    · replace h := h.2 c6
      refine lv_iconst (v := 0) hx hb dX5_copyFrom_18 (by decide) ?_
      refine lv_istore_n (lv' := [(3, .int 0), (0, .ref h_this), (1, .ref h_a1), (2, .int l2)]) hx hb dX5_copyFrom_19 rfl hl (by decide) rfl (fun ls hl => ?_)
      exact L20 l2 (0, w_written, w_moved, w_following) h H locs ls (hP.sub [0, 1, 2, 3, 4, 5] rfl) (hD.sub [0, 1, 2, 3, 4, 5] (by decide) rfl) hS (lv_sub hl [1, 2, 3, 0] rfl)
  obtain ⟨H, hH⟩ : ∃ H, H = s.heap := ⟨_, rfl⟩
  obtain ⟨locs, hlo⟩ : ∃ z : List Loc, z = [] := ⟨_, rfl⟩
  have hS0 := hS
  rw [← hH] at hP ⊢
  rw [← hlo]
  replace hS : va_S A s.heap H locs := by rw [hH, hlo]; exact hS0
  refine lv_aload_n hx hb dX5_copyFrom_0 rfl (lv_at hl 0 rfl) ?_
  refine lv_aload_n hx hb dX5_copyFrom_1 rfl (lv_at hl 1 rfl) ?_
  refine call_iV (As := []) (rest := [.ref h_this]) (wr := [(h_this, .inr (5, [.int v_count, .ref h_this_written, .ref h_this_moved, .ref h_this_following])), (h_this_written, .inl (cy.1, 10, .inl v_written)), (h_this_moved, .inl (cy.1, 10, .inl v_moved)), (h_this_following, .inl (cy.1, 10, .inl v_following)), (h_a1_codes, .inl (cy.1, 40, .inl v_a1_codes))]) ⟨hx, hb, hml, hown, hts⟩ (mX7_rowCount l D cy h_a1 h_a1_codes v_a1_length _ h) (cwV 0 hts gX5_copyFrom_X7_rowCount rfl rfl rfl hdV_X7_rowCount ⟨Nat.le_of_ble_eq_true rfl, Nat.le_of_ble_eq_true rfl⟩) hP hK hN hD hS hA [4] [0, 1, 2, 3, 5] rfl rfl (by decide) (by decide) (by decide) (ci := 7) rfl rfl rfl rfl hl.1 rfl (Nat.le_of_ble_eq_true rfl) dX5_copyFrom_2 ⟨Nat.le_of_ble_eq_true rfl, Nat.le_of_ble_eq_true rfl⟩ (fun r1 u2 H locs h hP hD hS => ?_)
  have hP : va_P D vwCl [(h_this, .inr (5, [.int v_count, .ref h_this_written, .ref h_this_moved, .ref h_this_following])), (h_this_written, .inl (cy.1, 10, .inl v_written)), (h_this_moved, .inl (cy.1, 10, .inl v_moved)), (h_this_following, .inl (cy.1, 10, .inl v_following)), (h_a1_codes, .inl (cy.1, 40, .inl v_a1_codes)), (h_a1, .inr (7, [.ref h_a1_codes, .int v_a1_length]))] H := hP
  have hD : va_D A [(h_this, .inr (5, [.int v_count, .ref h_this_written, .ref h_this_moved, .ref h_this_following])), (h_this_written, .inl (cy.1, 10, .inl v_written)), (h_this_moved, .inl (cy.1, 10, .inl v_moved)), (h_this_following, .inl (cy.1, 10, .inl v_following)), (h_a1_codes, .inl (cy.1, 40, .inl v_a1_codes)), (h_a1, .inr (7, [.ref h_a1_codes, .int v_a1_length]))] := hD
  refine call_vV (As := [.int r1]) (rest := []) (wr := [(h_this_written, .inl (cy.1, 10, .inl v_written)), (h_this_moved, .inl (cy.1, 10, .inl v_moved)), (h_a1_codes, .inl (cy.1, 40, .inl v_a1_codes)), (h_a1, .inr (7, [.ref h_a1_codes, .int v_a1_length]))]) ⟨hx, hb, hml, hown, hts⟩ (mX5_reset l D cy h_this h_this_written h_this_moved h_this_following v_count v_following r1 _ h) (cwV 1 hts gX5_copyFrom_X5_reset rfl rfl rfl hdV_X5_reset ⟨Nat.le_of_ble_eq_true rfl, Nat.le_of_ble_eq_true rfl⟩) hP hK hN hD hS hA [0, 3] [1, 2, 4, 5] rfl rfl (by decide) (by decide) (by decide) (ci := 5) rfl rfl rfl rfl hl.1 rfl (Nat.le_of_ble_eq_true rfl) dX5_copyFrom_5 ⟨Nat.le_of_ble_eq_true rfl, Nat.le_of_ble_eq_true rfl⟩ (fun u5 H locs h hP hD hS => ?_)
  obtain ⟨w3, w4⟩ := u5
  have hP : va_P D vwCl [(h_this_written, .inl (cy.1, 10, .inl v_written)), (h_this_moved, .inl (cy.1, 10, .inl v_moved)), (h_a1_codes, .inl (cy.1, 40, .inl v_a1_codes)), (h_a1, .inr (7, [.ref h_a1_codes, .int v_a1_length])), (h_this, .inr (5, [.int w3, .ref h_this_written, .ref h_this_moved, .ref h_this_following])), (h_this_following, .inl (cy.1, 10, .inl w4))] H := hP
  have hD : va_D A [(h_this_written, .inl (cy.1, 10, .inl v_written)), (h_this_moved, .inl (cy.1, 10, .inl v_moved)), (h_a1_codes, .inl (cy.1, 40, .inl v_a1_codes)), (h_a1, .inr (7, [.ref h_a1_codes, .int v_a1_length])), (h_this, .inr (5, [.int w3, .ref h_this_written, .ref h_this_moved, .ref h_this_following])), (h_this_following, .inl (cy.1, 10, .inl w4))] := hD
  refine lv_iconst (v := 0) hx hb dX5_copyFrom_8 (by decide) ?_
  refine lv_istore_n (lv' := [(2, .int 0), (0, .ref h_this), (1, .ref h_a1)]) hx hb dX5_copyFrom_9 rfl hl (by decide) rfl (fun ls hl => ?_)
  exact L10 w3 (0, v_written, v_moved, w4) h H locs ls (hP.sub [4, 0, 1, 5, 3, 2] rfl) (hD.sub [4, 0, 1, 5, 3, 2] (by decide) rfl) hS (lv_sub hl [1, 2, 0] rfl)
def pX6_wordsFor (p0 : Int32) (Q : Int32 → Prop) : Prop :=
  (((0 : Int32) ≤ p0 → Q ((p0 / 16) + 1)) ∧ (¬ (0 : Int32) ≤ p0 → Q 0))
abbrev rmX6_wordsFor : Room := { frames := 0, cells := 0, slots := 0, locals := 0 }
set_option maxHeartbeats 4000000 in
set_option maxRecDepth 100000 in
theorem mX6_wordsFor (l : Launch) (D : va_G) (cy : Cy) (p0 : Int32) (Q : Int32 → Prop) (h : pX6_wordsFor p0 Q) : Ci l yX6_wordsFor wsX6_wordsFor rmX6_wordsFor D cy [] [.int p0] (fun (r : Int32) (_ : Unit) => Q r) (fun (_ : Unit) => []) := by
  refine of_i (cc := cX6_wordsFor) (maxL := 1) (by decide) rfl (Nat.le_of_ble_eq_true rfl) ?_
  intro p e s m args below meth c A ls QQ T0 RT hP hD hS hl
  obtain ⟨hx, hb, hr, hts, hown, hlocks, hml, hin, hK, hN, hA⟩ := T0
  have hown : s.vm.findClass RX6 = some m.cls := hown
  have hl : lv_has ls 1 [(0, .int p0)] := hl
  obtain ⟨H, hH⟩ : ∃ H, H = s.heap := ⟨_, rfl⟩
  obtain ⟨locs, hlo⟩ : ∃ z : List Loc, z = [] := ⟨_, rfl⟩
  have hS0 := hS
  rw [← hH] at hP ⊢
  rw [← hlo]
  replace hS : va_S A s.heap H locs := by rw [hH, hlo]; exact hS0
  refine lv_iload_n hx hb dX6_wordsFor_0 rfl (lv_at hl 0 rfl) ?_
  refine lv_if_ge (tgt := 8) hx hb dX6_wordsFor_1 (by decide) (fun c1 => ?_) (fun c1 => ?_)
  · replace h := h.1 c1
    refine lv_iload_n hx hb dX6_wordsFor_8 rfl (lv_at hl 0 rfl) ?_
    refine lv_bipush (v := 16) hx hb dX6_wordsFor_9 (by decide) ?_
    refine lv_idiv hx hb dX6_wordsFor_11 (by decide) ?_
    refine lv_iconst (v := 1) hx hb dX6_wordsFor_12 (by decide) ?_
    refine lv_iadd hx hb dX6_wordsFor_13 ?_
    exact RT 14 H locs ls ((p0 / 16) + 1) () dX6_wordsFor_14 h (hP.sub [] rfl) (hD.sub [] (by decide) rfl) hS
  · replace h := h.2 c1
    refine lv_iconst (v := 0) hx hb dX6_wordsFor_4 (by decide) ?_
    refine lv_goto (tgt := 14) hx hb dX6_wordsFor_5 (by decide) ?_
    exact RT 14 H locs ls 0 () dX6_wordsFor_14 h (hP.sub [] rfl) (hD.sub [] (by decide) rfl) hS
def pJ6_bitCount_0f7a4 (p0 : Int32) (Q : Int32 → Prop) : Prop :=
  (∀ x1 : Int32, x1 = p0 - ((ushr p0 1) &&& 1431655765) → (∀ x2 : Int32, x2 = (x1 &&& 858993459) + ((ushr x1 2) &&& 858993459) → (∀ x3 : Int32, x3 = (x2 + (ushr x2 4)) &&& 252645135 → (∀ x4 : Int32, x4 = x3 + (ushr x3 8) → (∀ x5 : Int32, x5 = x4 + (ushr x4 16) → Q (x5 &&& 63))))))
abbrev rmJ6_bitCount_0f7a4 : Room := { frames := 0, cells := 0, slots := 0, locals := 0 }
set_option maxHeartbeats 4000000 in
set_option maxRecDepth 100000 in
theorem mJ6_bitCount_0f7a4 (l : Launch) (D : va_G) (cy : Cy) (p0 : Int32) (Q : Int32 → Prop) (h : pJ6_bitCount_0f7a4 p0 Q) : Ci l yJ6_bitCount_0f7a4 wsJ6_bitCount_0f7a4 rmJ6_bitCount_0f7a4 D cy [] [.int p0] (fun (r : Int32) (_ : Unit) => Q r) (fun (_ : Unit) => []) := by
  refine of_i (cc := cJ6_bitCount_0f7a4) (maxL := 1) (by decide) rfl (Nat.le_of_ble_eq_true rfl) ?_
  intro p e s m args below meth c A ls QQ T0 RT hP hD hS hl
  obtain ⟨hx, hb, hr, hts, hown, hlocks, hml, hin, hK, hN, hA⟩ := T0
  have hown : s.vm.findClass RJ6 = some m.cls := hown
  have hl : lv_has ls 1 [(0, .int p0)] := hl
  have kc265 := hts (.constant RJ6 265 (1431655765)) (List.mem_of_getElem? (i := 1) (by decide +kernel))
  have kc266 := hts (.constant RJ6 266 (858993459)) (List.mem_of_getElem? (i := 2) (by decide +kernel))
  have kc267 := hts (.constant RJ6 267 (252645135)) (List.mem_of_getElem? (i := 3) (by decide +kernel))
  obtain ⟨H, hH⟩ : ∃ H, H = s.heap := ⟨_, rfl⟩
  obtain ⟨locs, hlo⟩ : ∃ z : List Loc, z = [] := ⟨_, rfl⟩
  have hS0 := hS
  rw [← hH] at hP ⊢
  rw [← hlo]
  replace hS : va_S A s.heap H locs := by rw [hH, hlo]; exact hS0
  refine lv_iload_n hx hb dJ6_bitCount_0f7a4_0 rfl (lv_at hl 0 rfl) ?_
  refine lv_iload_n hx hb dJ6_bitCount_0f7a4_1 rfl (lv_at hl 0 rfl) ?_
  refine lv_iconst (v := 1) hx hb dJ6_bitCount_0f7a4_2 (by decide) ?_
  refine lv_iushr (v := ushr p0 1) hx hb dJ6_bitCount_0f7a4_3 rfl ?_
  refine lv_ldcw (v := 1431655765) hx hb hown kc265 dJ6_bitCount_0f7a4_4 ?_
  refine lv_iand hx hb dJ6_bitCount_0f7a4_7 ?_
  refine lv_isub hx hb dJ6_bitCount_0f7a4_8 ?_
  refine lv_topi (fun x1 ex1 => ?_)
  replace h := h x1 ex1
  refine lv_istore_n (lv' := [(0, .int x1)]) hx hb dJ6_bitCount_0f7a4_9 rfl hl (by decide) rfl (fun ls hl => ?_)
  refine lv_iload_n hx hb dJ6_bitCount_0f7a4_10 rfl (lv_at hl 0 rfl) ?_
  refine lv_ldcw (v := 858993459) hx hb hown kc266 dJ6_bitCount_0f7a4_11 ?_
  refine lv_iand hx hb dJ6_bitCount_0f7a4_14 ?_
  refine lv_iload_n hx hb dJ6_bitCount_0f7a4_15 rfl (lv_at hl 0 rfl) ?_
  refine lv_iconst (v := 2) hx hb dJ6_bitCount_0f7a4_16 (by decide) ?_
  refine lv_iushr (v := ushr x1 2) hx hb dJ6_bitCount_0f7a4_17 rfl ?_
  refine lv_ldcw (v := 858993459) hx hb hown kc266 dJ6_bitCount_0f7a4_18 ?_
  refine lv_iand hx hb dJ6_bitCount_0f7a4_21 ?_
  refine lv_iadd hx hb dJ6_bitCount_0f7a4_22 ?_
  refine lv_topi (fun x2 ex2 => ?_)
  replace h := h x2 ex2
  refine lv_istore_n (lv' := [(0, .int x2)]) hx hb dJ6_bitCount_0f7a4_23 rfl hl (by decide) rfl (fun ls hl => ?_)
  refine lv_iload_n hx hb dJ6_bitCount_0f7a4_24 rfl (lv_at hl 0 rfl) ?_
  refine lv_iload_n hx hb dJ6_bitCount_0f7a4_25 rfl (lv_at hl 0 rfl) ?_
  refine lv_iconst (v := 4) hx hb dJ6_bitCount_0f7a4_26 (by decide) ?_
  refine lv_iushr (v := ushr x2 4) hx hb dJ6_bitCount_0f7a4_27 rfl ?_
  refine lv_iadd hx hb dJ6_bitCount_0f7a4_28 ?_
  refine lv_ldcw (v := 252645135) hx hb hown kc267 dJ6_bitCount_0f7a4_29 ?_
  refine lv_iand hx hb dJ6_bitCount_0f7a4_32 ?_
  refine lv_topi (fun x3 ex3 => ?_)
  replace h := h x3 ex3
  refine lv_istore_n (lv' := [(0, .int x3)]) hx hb dJ6_bitCount_0f7a4_33 rfl hl (by decide) rfl (fun ls hl => ?_)
  refine lv_iload_n hx hb dJ6_bitCount_0f7a4_34 rfl (lv_at hl 0 rfl) ?_
  refine lv_iload_n hx hb dJ6_bitCount_0f7a4_35 rfl (lv_at hl 0 rfl) ?_
  refine lv_bipush (v := 8) hx hb dJ6_bitCount_0f7a4_36 (by decide) ?_
  refine lv_iushr (v := ushr x3 8) hx hb dJ6_bitCount_0f7a4_38 rfl ?_
  refine lv_iadd hx hb dJ6_bitCount_0f7a4_39 ?_
  refine lv_topi (fun x4 ex4 => ?_)
  replace h := h x4 ex4
  refine lv_istore_n (lv' := [(0, .int x4)]) hx hb dJ6_bitCount_0f7a4_40 rfl hl (by decide) rfl (fun ls hl => ?_)
  refine lv_iload_n hx hb dJ6_bitCount_0f7a4_41 rfl (lv_at hl 0 rfl) ?_
  refine lv_iload_n hx hb dJ6_bitCount_0f7a4_42 rfl (lv_at hl 0 rfl) ?_
  refine lv_bipush (v := 16) hx hb dJ6_bitCount_0f7a4_43 (by decide) ?_
  refine lv_iushr (v := ushr x4 16) hx hb dJ6_bitCount_0f7a4_45 rfl ?_
  refine lv_iadd hx hb dJ6_bitCount_0f7a4_46 ?_
  refine lv_topi (fun x5 ex5 => ?_)
  replace h := h x5 ex5
  refine lv_istore_n (lv' := [(0, .int x5)]) hx hb dJ6_bitCount_0f7a4_47 rfl hl (by decide) rfl (fun ls hl => ?_)
  refine lv_iload_n hx hb dJ6_bitCount_0f7a4_48 rfl (lv_at hl 0 rfl) ?_
  refine lv_bipush (v := 63) hx hb dJ6_bitCount_0f7a4_49 (by decide) ?_
  refine lv_iand hx hb dJ6_bitCount_0f7a4_51 ?_
  exact RT 52 H locs ls (x5 &&& 63) () dJ6_bitCount_0f7a4_52 h (hP.sub [] rfl) (hD.sub [] (by decide) rfl) hS
def pX6_countOnes_B4 (n_this : Nat) (v_words : Nat → Int32) (Q : Int32 → Prop) (X4 : (Int32 × Int32) → Prop) : (Int32 × Int32) → Prop := fun v => match v with
  | (l1, l2) => (((nI n_this) ≤ l2 → Q l1) ∧ (¬ (nI n_this) ≤ l2 → (vp_in l2 n_this ∧ pJ6_bitCount_0f7a4 (v_words l2.toNatClampNeg) (fun r3 => (∀ x5 : Int32, x5 = l1 + r3 → (∀ x6 : Int32, x6 = l2 + 1 → X4 (x5, x6)))))))
def pX6_countOnes (n_this : Nat) (v_words : Nat → Int32) (Q : Int32 → Prop) : Prop :=
  Lp (pX6_countOnes_B4 n_this v_words Q) (0, 0)
abbrev rmX6_countOnes : Room := { frames := 1, cells := 0, slots := 0, locals := 20 }
theorem hdS_J6_bitCount_0f7a4 : yJ6_bitCount_0f7a4.cls ≠ "java/lang/invoke/MethodHandle" ∧ yJ6_bitCount_0f7a4.cls ≠ "java/lang/invoke/VarHandle" ∧ (parseMethodDescriptor yJ6_bitCount_0f7a4.desc).map (fun d => d.parameters.length) = some 1 := by decide +kernel
set_option maxHeartbeats 4000000 in
set_option maxRecDepth 100000 in
theorem mX6_countOnes (l : Launch) (D : va_G) (cy : Cy) (h_this : Nat) (h_this_words : Nat) (n_this : Nat) (v_radius : Int32) (v_words : Nat → Int32) (Q : Int32 → Prop) (h : pX6_countOnes n_this v_words Q) : Ci l yX6_countOnes wsX6_countOnes rmX6_countOnes D cy [(h_this, .inr (6, [.int v_radius, .ref h_this_words])), (h_this_words, .inl (cy.1, n_this, .inl v_words))] [.ref h_this] (fun (r : Int32) (_ : Unit) => Q r) (fun (_ : Unit) => [(h_this, .inr (6, [.int v_radius, .ref h_this_words])), (h_this_words, .inl (cy.1, n_this, .inl v_words))]) := by
  refine of_i (cc := cX6_countOnes) (maxL := 3) (by decide) rfl (Nat.le_of_ble_eq_true rfl) ?_
  intro p e s m args below meth c A ls QQ T0 RT hP hD hS hl
  obtain ⟨hx, hb, hr, hts, hown, hlocks, hml, hin, hK, hN, hA⟩ := T0
  have hown : s.vm.findClass RX6 = some m.cls := hown
  have hl : lv_has ls 3 [(0, .ref h_this)] := hl
  have iX6 : ∀ w ∈ wsX60, w ∈ wsX6_countOnes := fun _ h => List.mem_cons_of_mem _ (List.mem_append_right _ h)
  have k23 := hts (.fieldLink RX6 23 "HaltingDecider$Tape" "words" "[I") (List.mem_of_getElem? (i := 1) (by decide +kernel))
  have L4 : ∀ (v : Int32 × Int32), Lp (pX6_countOnes_B4 n_this v_words Q) v → ∀ (H : Heap) (locs : List Loc) (ls : Array Slot), va_P D vwCl [(h_this, .inr (6, [.int v_radius, .ref h_this_words])), (h_this_words, .inl (cy.1, n_this, .inl v_words))] H → va_D A [(h_this, .inr (6, [.int v_radius, .ref h_this_words])), (h_this_words, .inl (cy.1, n_this, .inl v_words))] → va_S A s.heap H locs → lv_has ls 3 [(0, .ref h_this), (1, .int v.1), (2, .int v.2)] → W p l e rmX6_countOnes s m args below meth c H locs 0 0 QQ (F0 m 4 ls []) := by
    intro v h
    refine h (fun v => ∀ (H : Heap) (locs : List Loc) (ls : Array Slot), va_P D vwCl [(h_this, .inr (6, [.int v_radius, .ref h_this_words])), (h_this_words, .inl (cy.1, n_this, .inl v_words))] H → va_D A [(h_this, .inr (6, [.int v_radius, .ref h_this_words])), (h_this_words, .inl (cy.1, n_this, .inl v_words))] → va_S A s.heap H locs → lv_has ls 3 [(0, .ref h_this), (1, .int v.1), (2, .int v.2)] → W p l e rmX6_countOnes s m args below meth c H locs 0 0 QQ (F0 m 4 ls [])) ?_
    clear h v
    intro v X4 hY4 h H locs ls hP hD hS hl
    obtain ⟨l1, l2⟩ := v
    have hP : va_P D vwCl [(h_this, .inr (6, [.int v_radius, .ref h_this_words])), (h_this_words, .inl (cy.1, n_this, .inl v_words))] H := hP
    have hD : va_D A [(h_this, .inr (6, [.int v_radius, .ref h_this_words])), (h_this_words, .inl (cy.1, n_this, .inl v_words))] := hD
    have hl : lv_has ls 3 [(0, .ref h_this), (1, .int l1), (2, .int l2)] := hl
    refine lv_iload_n hx hb dX6_countOnes_4 rfl (lv_at hl 2 rfl) ?_
    refine lv_aload_n hx hb dX6_countOnes_5 rfl (lv_at hl 0 rfl) ?_
    refine va_get (D := D) (ci := 6) (v := .ref h_this_words) (C := RX6) (T := TX6) (N := 2) hx hb hts iX6 hown hK hP 0 rfl rfl 1 (by decide) k23 (fun _ h9 => h9) rfl dX6_countOnes_6 ?_
    refine va_alen (v := nI n_this) hx hb hK hP 1 0 rfl rfl rfl dX6_countOnes_9 ?_
    refine lv_icmp_ge (tgt := 31) hx hb dX6_countOnes_10 (by decide) (fun c1 => ?_) (fun c1 => ?_)
    · replace h := h.1 c1
      refine lv_iload_n hx hb dX6_countOnes_31 rfl (lv_at hl 1 rfl) ?_
      exact RT 32 H locs ls l1 () dX6_countOnes_32 h (hP.sub [0, 1] rfl) (hD.sub [0, 1] (by decide) rfl) hS
    · replace h := h.2 c1
      refine lv_iload_n hx hb dX6_countOnes_13 rfl (lv_at hl 1 rfl) ?_
      refine lv_aload_n hx hb dX6_countOnes_14 rfl (lv_at hl 0 rfl) ?_
      refine va_get (D := D) (ci := 6) (v := .ref h_this_words) (C := RX6) (T := TX6) (N := 2) hx hb hts iX6 hown hK hP 0 rfl rfl 1 (by decide) k23 (fun _ h9 => h9) rfl dX6_countOnes_15 ?_
      refine lv_iload_n hx hb dX6_countOnes_18 rfl (lv_at hl 2 rfl) ?_
      have b2 := h.1
      replace h := h.2
      refine va_iald hx hb hK hP 1 0 rfl rfl b2 dX6_countOnes_19 ?_
      refine call_iS (As := [.int (v_words l2.toNatClampNeg)]) (rest := [.int l1]) (wr := [(h_this, .inr (6, [.int v_radius, .ref h_this_words])), (h_this_words, .inl (cy.1, n_this, .inl v_words))]) ⟨hx, hb, hml, hown, hts⟩ (mJ6_bitCount_0f7a4 l D cy (v_words l2.toNatClampNeg) _ h) (va_cwS 1 hts gX6_countOnes_J6_bitCount_0f7a4 rfl rfl rfl hdS_J6_bitCount_0f7a4 ⟨Nat.le_of_ble_eq_true rfl, Nat.le_of_ble_eq_true rfl⟩) hP hK hN hD hS hA [] [0, 1] rfl rfl (by decide) (by decide) (by decide) rfl hl.1 rfl (Nat.le_of_ble_eq_true rfl) dX6_countOnes_20 ⟨Nat.le_of_ble_eq_true rfl, Nat.le_of_ble_eq_true rfl⟩ (fun r3 u4 H locs h hP hD hS => ?_)
      have hP : va_P D vwCl [(h_this, .inr (6, [.int v_radius, .ref h_this_words])), (h_this_words, .inl (cy.1, n_this, .inl v_words))] H := hP
      have hD : va_D A [(h_this, .inr (6, [.int v_radius, .ref h_this_words])), (h_this_words, .inl (cy.1, n_this, .inl v_words))] := hD
      refine lv_iadd hx hb dX6_countOnes_23 ?_
      refine lv_topi (fun x5 ex5 => ?_)
      replace h := h x5 ex5
      refine lv_istore_n (lv' := [(1, .int x5), (0, .ref h_this), (2, .int l2)]) hx hb dX6_countOnes_24 rfl hl (by decide) rfl (fun ls hl => ?_)
      obtain ⟨x6, ex6⟩ : ∃ y : Int32, y = l2 + 1 := ⟨_, rfl⟩
      replace h := h x6 ex6
      refine lv_iinc (v := x6) (lv' := [(2, .int x6), (1, .int x5), (0, .ref h_this)]) hx hb dX6_countOnes_25 hl (k := 2) rfl (by rw [ex6]; rfl) (by decide) rfl (fun ls hl => ?_)
      refine lv_goto (tgt := 4) hx hb dX6_countOnes_28 (by decide) ?_
      exact hY4 (x5, x6) h H locs ls (hP.sub [0, 1] rfl) (hD.sub [0, 1] (by decide) rfl) hS (lv_sub hl [2, 1, 0] rfl)
  obtain ⟨H, hH⟩ : ∃ H, H = s.heap := ⟨_, rfl⟩
  obtain ⟨locs, hlo⟩ : ∃ z : List Loc, z = [] := ⟨_, rfl⟩
  have hS0 := hS
  rw [← hH] at hP ⊢
  rw [← hlo]
  replace hS : va_S A s.heap H locs := by rw [hH, hlo]; exact hS0
  refine lv_iconst (v := 0) hx hb dX6_countOnes_0 (by decide) ?_
  refine lv_istore_n (lv' := [(1, .int 0), (0, .ref h_this)]) hx hb dX6_countOnes_1 rfl hl (by decide) rfl (fun ls hl => ?_)
  refine lv_iconst (v := 0) hx hb dX6_countOnes_2 (by decide) ?_
  refine lv_istore_n (lv' := [(2, .int 0), (1, .int 0), (0, .ref h_this)]) hx hb dX6_countOnes_3 rfl hl (by decide) rfl (fun ls hl => ?_)
  exact L4 (0, 0) h H locs ls (hP.sub [0, 1] rfl) (hD.sub [0, 1] (by decide) rfl) hS (lv_sub hl [2, 1, 0] rfl)
def pX7_clear (v_length : Int32) (Q : Int32 → Prop) : Prop :=
  Q 0
abbrev rmX7_clear : Room := { frames := 0, cells := 0, slots := 0, locals := 0 }
set_option maxHeartbeats 4000000 in
set_option maxRecDepth 100000 in
theorem mX7_clear (l : Launch) (D : va_G) (cy : Cy) (h_this : Nat) (h_this_codes : Nat) (v_length : Int32) (Q : Int32 → Prop) (h : pX7_clear v_length Q) : Cv l yX7_clear wsX7_clear rmX7_clear 0 0 D cy [(h_this, .inr (7, [.ref h_this_codes, .int v_length]))] [.ref h_this] (fun (u : Int32) => Q u) (fun (u : Int32) => [(h_this, .inr (7, [.ref h_this_codes, .int u]))]) := by
  refine of_v (cc := cX7_clear) (maxL := 1) (by decide) rfl (Nat.le_of_ble_eq_true rfl) ?_
  intro p e s m args below meth c A ls QQ T0 RT hP hD hS hl
  obtain ⟨hx, hb, hr, hts, hown, hlocks, hml, hin, hK, hN, hA⟩ := T0
  have hown : s.vm.findClass RX7 = some m.cls := hown
  have hl : lv_has ls 1 [(0, .ref h_this)] := hl
  have iX7 : ∀ w ∈ wsX70, w ∈ wsX7_clear := fun _ h => List.mem_cons_of_mem _ (List.mem_append_right _ h)
  have k15 := hts (.fieldLink RX7 15 "HaltingDecider$TypedText" "length" "I") (List.mem_of_getElem? (i := 1) (by decide +kernel))
  obtain ⟨H, hH⟩ : ∃ H, H = s.heap := ⟨_, rfl⟩
  obtain ⟨locs, hlo⟩ : ∃ z : List Loc, z = [] := ⟨_, rfl⟩
  have hS0 := hS
  rw [← hH] at hP ⊢
  rw [← hlo]
  replace hS : va_S A s.heap H locs := by rw [hH, hlo]; exact hS0
  refine lv_aload_n hx hb dX7_clear_0 rfl (lv_at hl 0 rfl) ?_
  refine lv_iconst (v := 0) hx hb dX7_clear_1 (by decide) ?_
  refine va_put (D := D) (ci := 7) (v := .int 0) (ty := .int) (C := RX7) (T := TX7) (N := 2) hx hb hts iX7 tyX7 tyX7_ok nmX7 hown hK hP hD hS 0 rfl rfl 1 (by decide) k15 (fun _ h9 => h9) rfl (tyX7_ok 1 (by decide)) rfl rfl (Nat.le_of_ble_eq_true rfl) dX7_clear_2 (fun H locs hP hD hS => ?_)
  have hP : va_P D vwCl [(h_this, .inr (7, [.ref h_this_codes, .int 0]))] H := hP
  have hD : va_D A [(h_this, .inr (7, [.ref h_this_codes, .int 0]))] := hD
  exact RT 5 H locs ls 0 dX7_clear_5 h (hP.sub [0] rfl) (hD.sub [0] (by decide) rfl) hS
def pX7_append (p1 : Int32) (v_codes : Nat → Int32) (v_length : Int32) (Q : Int32 → (Nat → Int32) → Int32 → Prop) : Prop :=
  ((v_length < 0 → Q 0 v_codes v_length) ∧ (¬ v_length < 0 → ((v_length < (nI 40) → (vp_in v_length 40 ∧ (∀ x4 : Int32, x4 = v_length + 1 → Q 1 (upd v_codes v_length.toNatClampNeg p1) x4))) ∧ (¬ v_length < (nI 40) → Q 0 v_codes v_length))))
abbrev rmX7_append : Room := { frames := 0, cells := 0, slots := 0, locals := 0 }
set_option maxHeartbeats 4000000 in
set_option maxRecDepth 100000 in
theorem mX7_append (l : Launch) (D : va_G) (cy : Cy) (h_this : Nat) (h_this_codes : Nat) (v_length : Int32) (v_codes : Nat → Int32) (p1 : Int32) (Q : Int32 → (Nat → Int32) → Int32 → Prop) (h : pX7_append p1 v_codes v_length Q) : Ci l yX7_append wsX7_append rmX7_append D cy [(h_this, .inr (7, [.ref h_this_codes, .int v_length])), (h_this_codes, .inl (cy.1, 40, .inl v_codes))] [.ref h_this, .int p1] (fun (r : Int32) (u : (Nat → Int32) × Int32) => Q r u.1 u.2) (fun (u : (Nat → Int32) × Int32) => [(h_this, .inr (7, [.ref h_this_codes, .int u.2])), (h_this_codes, .inl (cy.1, 40, .inl u.1))]) := by
  refine of_z (cc := cX7_append) (maxL := 2) (by decide) rfl (Nat.le_of_ble_eq_true rfl) ?_
  intro p e s m args below meth c A ls QQ T0 RT hP hD hS hl
  obtain ⟨hx, hb, hr, hts, hown, hlocks, hml, hin, hK, hN, hA⟩ := T0
  have hown : s.vm.findClass RX7 = some m.cls := hown
  have hl : lv_has ls 2 [(0, .ref h_this), (1, .int p1)] := hl
  have iX7 : ∀ w ∈ wsX70, w ∈ wsX7_append := fun _ h => List.mem_cons_of_mem _ (List.mem_append_right _ h)
  have k15 := hts (.fieldLink RX7 15 "HaltingDecider$TypedText" "length" "I") (List.mem_of_getElem? (i := 1) (by decide +kernel))
  have k11 := hts (.fieldLink RX7 11 "HaltingDecider$TypedText" "codes" "[I") (List.mem_of_getElem? (i := 2) (by decide +kernel))
  obtain ⟨H, hH⟩ : ∃ H, H = s.heap := ⟨_, rfl⟩
  obtain ⟨locs, hlo⟩ : ∃ z : List Loc, z = [] := ⟨_, rfl⟩
  have hS0 := hS
  rw [← hH] at hP ⊢
  rw [← hlo]
  replace hS : va_S A s.heap H locs := by rw [hH, hlo]; exact hS0
  refine lv_aload_n hx hb dX7_append_0 rfl (lv_at hl 0 rfl) ?_
  refine va_get (D := D) (ci := 7) (v := .int v_length) (C := RX7) (T := TX7) (N := 2) hx hb hts iX7 hown hK hP 0 rfl rfl 1 (by decide) k15 (fun _ h9 => h9) rfl dX7_append_1 ?_
  refine lv_if_lt (tgt := 19) hx hb dX7_append_4 (by decide) (fun c1 => ?_) (fun c1 => ?_)
  · replace h := h.1 c1
    refine lv_iconst (v := 0) hx hb dX7_append_19 (by decide) ?_
    exact RT 20 H locs ls 0 (v_codes, v_length) dX7_append_20 isB_0 h (hP.sub [0, 1] rfl) (hD.sub [0, 1] (by decide) rfl) hS
  · replace h := h.2 c1
    refine lv_aload_n hx hb dX7_append_7 rfl (lv_at hl 0 rfl) ?_
    refine va_get (D := D) (ci := 7) (v := .int v_length) (C := RX7) (T := TX7) (N := 2) hx hb hts iX7 hown hK hP 0 rfl rfl 1 (by decide) k15 (fun _ h9 => h9) rfl dX7_append_8 ?_
    refine lv_aload_n hx hb dX7_append_11 rfl (lv_at hl 0 rfl) ?_
    refine va_get (D := D) (ci := 7) (v := .ref h_this_codes) (C := RX7) (T := TX7) (N := 2) hx hb hts iX7 hown hK hP 0 rfl rfl 0 (by decide) k11 (fun _ h9 => h9) rfl dX7_append_12 ?_
    refine va_alen (v := nI 40) hx hb hK hP 1 0 rfl rfl rfl dX7_append_15 ?_
    refine lv_icmp_lt (tgt := 21) hx hb dX7_append_16 (by decide) (fun c2 => ?_) (fun c2 => ?_)
    · replace h := h.1 c2
      refine lv_aload_n hx hb dX7_append_21 rfl (lv_at hl 0 rfl) ?_
      refine va_get (D := D) (ci := 7) (v := .ref h_this_codes) (C := RX7) (T := TX7) (N := 2) hx hb hts iX7 hown hK hP 0 rfl rfl 0 (by decide) k11 (fun _ h9 => h9) rfl dX7_append_22 ?_
      refine lv_aload_n hx hb dX7_append_25 rfl (lv_at hl 0 rfl) ?_
      refine va_get (D := D) (ci := 7) (v := .int v_length) (C := RX7) (T := TX7) (N := 2) hx hb hts iX7 hown hK hP 0 rfl rfl 1 (by decide) k15 (fun _ h9 => h9) rfl dX7_append_26 ?_
      refine lv_iload_n hx hb dX7_append_29 rfl (lv_at hl 1 rfl) ?_
      have b3 := h.1
      replace h := h.2
      refine va_iast hx hb hK hP hD hS 1 0 rfl rfl b3 dX7_append_30 (fun H locs hP hD hS => ?_)
      have hP : va_P D vwCl [(h_this, .inr (7, [.ref h_this_codes, .int v_length])), (h_this_codes, .inl (cy.1, 40, .inl (upd v_codes v_length.toNatClampNeg p1)))] H := hP
      have hD : va_D A [(h_this, .inr (7, [.ref h_this_codes, .int v_length])), (h_this_codes, .inl (cy.1, 40, .inl (upd v_codes v_length.toNatClampNeg p1)))] := hD
      refine lv_aload_n hx hb dX7_append_31 rfl (lv_at hl 0 rfl) ?_
      refine lv_dup hx hb dX7_append_32 rfl ?_
      refine va_get (D := D) (ci := 7) (v := .int v_length) (C := RX7) (T := TX7) (N := 2) hx hb hts iX7 hown hK hP 0 rfl rfl 1 (by decide) k15 (fun _ h9 => h9) rfl dX7_append_33 ?_
      refine lv_iconst (v := 1) hx hb dX7_append_36 (by decide) ?_
      refine lv_iadd hx hb dX7_append_37 ?_
      refine lv_topi (fun x4 ex4 => ?_)
      replace h := h x4 ex4
      refine va_put (D := D) (ci := 7) (v := .int x4) (ty := .int) (C := RX7) (T := TX7) (N := 2) hx hb hts iX7 tyX7 tyX7_ok nmX7 hown hK hP hD hS 0 rfl rfl 1 (by decide) k15 (fun _ h9 => h9) rfl (tyX7_ok 1 (by decide)) rfl rfl (Nat.le_of_ble_eq_true rfl) dX7_append_38 (fun H locs hP hD hS => ?_)
      have hP : va_P D vwCl [(h_this, .inr (7, [.ref h_this_codes, .int x4])), (h_this_codes, .inl (cy.1, 40, .inl (upd v_codes v_length.toNatClampNeg p1)))] H := hP
      have hD : va_D A [(h_this, .inr (7, [.ref h_this_codes, .int x4])), (h_this_codes, .inl (cy.1, 40, .inl (upd v_codes v_length.toNatClampNeg p1)))] := hD
      refine lv_iconst (v := 1) hx hb dX7_append_41 (by decide) ?_
      exact RT 42 H locs ls 1 (upd v_codes v_length.toNatClampNeg p1, x4) dX7_append_42 isB_1 h (hP.sub [0, 1] rfl) (hD.sub [0, 1] (by decide) rfl) hS
    · replace h := h.2 c2
      refine lv_iconst (v := 0) hx hb dX7_append_19 (by decide) ?_
      exact RT 20 H locs ls 0 (v_codes, v_length) dX7_append_20 isB_0 h (hP.sub [0, 1] rfl) (hD.sub [0, 1] (by decide) rfl) hS
def pX7_isStateLetter (p0 : Int32) (Q : Int32 → Prop) : Prop :=
  ((p0 < 65 → Q 0) ∧ (¬ p0 < 65 → (((70 : Int32) ≤ p0 → Q 0) ∧ (¬ (70 : Int32) ≤ p0 → Q 1))))
abbrev rmX7_isStateLetter : Room := { frames := 0, cells := 0, slots := 0, locals := 0 }
set_option maxHeartbeats 4000000 in
set_option maxRecDepth 100000 in
theorem mX7_isStateLetter (l : Launch) (D : va_G) (cy : Cy) (p0 : Int32) (Q : Int32 → Prop) (h : pX7_isStateLetter p0 Q) : Ci l yX7_isStateLetter wsX7_isStateLetter rmX7_isStateLetter D cy [] [.int p0] (fun (r : Int32) (_ : Unit) => Q r) (fun (_ : Unit) => []) := by
  refine of_z (cc := cX7_isStateLetter) (maxL := 1) (by decide) rfl (Nat.le_of_ble_eq_true rfl) ?_
  intro p e s m args below meth c A ls QQ T0 RT hP hD hS hl
  obtain ⟨hx, hb, hr, hts, hown, hlocks, hml, hin, hK, hN, hA⟩ := T0
  have hown : s.vm.findClass RX7 = some m.cls := hown
  have hl : lv_has ls 1 [(0, .int p0)] := hl
  obtain ⟨H, hH⟩ : ∃ H, H = s.heap := ⟨_, rfl⟩
  obtain ⟨locs, hlo⟩ : ∃ z : List Loc, z = [] := ⟨_, rfl⟩
  have hS0 := hS
  rw [← hH] at hP ⊢
  rw [← hlo]
  replace hS : va_S A s.heap H locs := by rw [hH, hlo]; exact hS0
  refine lv_iload_n hx hb dX7_isStateLetter_0 rfl (lv_at hl 0 rfl) ?_
  refine lv_bipush (v := 65) hx hb dX7_isStateLetter_1 (by decide) ?_
  refine lv_icmp_lt (tgt := 16) hx hb dX7_isStateLetter_3 (by decide) (fun c1 => ?_) (fun c1 => ?_)
  · replace h := h.1 c1
    refine lv_iconst (v := 0) hx hb dX7_isStateLetter_16 (by decide) ?_
    exact RT 17 H locs ls 0 () dX7_isStateLetter_17 isB_0 h (hP.sub [] rfl) (hD.sub [] (by decide) rfl) hS
  · replace h := h.2 c1
    refine lv_iload_n hx hb dX7_isStateLetter_6 rfl (lv_at hl 0 rfl) ?_
    refine lv_bipush (v := 70) hx hb dX7_isStateLetter_7 (by decide) ?_
    refine lv_icmp_ge (tgt := 16) hx hb dX7_isStateLetter_9 (by decide) (fun c2 => ?_) (fun c2 => ?_)
    · replace h := h.1 c2
      refine lv_iconst (v := 0) hx hb dX7_isStateLetter_16 (by decide) ?_
      exact RT 17 H locs ls 0 () dX7_isStateLetter_17 isB_0 h (hP.sub [] rfl) (hD.sub [] (by decide) rfl) hS
    · replace h := h.2 c2
      refine lv_iconst (v := 1) hx hb dX7_isStateLetter_12 (by decide) ?_
      refine lv_goto (tgt := 17) hx hb dX7_isStateLetter_13 (by decide) ?_
      exact RT 17 H locs ls 1 () dX7_isStateLetter_17 isB_1 h (hP.sub [] rfl) (hD.sub [] (by decide) rfl) hS
def pX7_fits (p1 : Int32) (v_codes : Nat → Int32) (v_length : Int32) (Q : Int32 → Prop) : Prop :=
  pX7_codeAt p1 v_codes v_length (fun r1 => (∀ x3 : Int32, x3 = p1 - p1 / 7 * 7 → ((¬ x3 = 6 → (∀ x5 : Int32, x5 = x3 - x3 / 3 * 3 → ((¬ x5 = 0 → pX7_codeAt (p1 - x5) v_codes v_length (fun r7 => ((¬ r7 = 45 → ((¬ x5 = 1 → ((r1 = 90 → Q 1) ∧ (¬ r1 = 90 → pX7_isStateLetter r1 (fun r12 => ((r12 = 0 → Q 0) ∧ (¬ r12 = 0 → Q 1)))))) ∧ (x5 = 1 → ((r1 = 76 → Q 1) ∧ (¬ r1 = 76 → ((¬ r1 = 82 → Q 0) ∧ (r1 = 82 → Q 1))))))) ∧ (r7 = 45 → ((¬ r1 = 45 → Q 0) ∧ (r1 = 45 → Q 1)))))) ∧ (x5 = 0 → ((r1 = 48 → Q 1) ∧ (¬ r1 = 48 → ((r1 = 49 → Q 1) ∧ (¬ r1 = 49 → ((¬ r1 = 45 → Q 0) ∧ (r1 = 45 → Q 1)))))))))) ∧ (x3 = 6 → ((¬ r1 = 95 → Q 0) ∧ (r1 = 95 → (((34 : Int32) ≤ p1 → Q 0) ∧ (¬ (34 : Int32) ≤ p1 → Q 1))))))))
abbrev rmX7_fits : Room := { frames := 1, cells := 0, slots := 0, locals := 21 }
theorem hdS_X7_isStateLetter : yX7_isStateLetter.cls ≠ "java/lang/invoke/MethodHandle" ∧ yX7_isStateLetter.cls ≠ "java/lang/invoke/VarHandle" ∧ (parseMethodDescriptor yX7_isStateLetter.desc).map (fun d => d.parameters.length) = some 1 := by decide +kernel
set_option maxHeartbeats 4000000 in
set_option maxRecDepth 100000 in
theorem mX7_fits (l : Launch) (D : va_G) (cy : Cy) (h_this : Nat) (h_this_codes : Nat) (v_length : Int32) (v_codes : Nat → Int32) (p1 : Int32) (Q : Int32 → Prop) (h : pX7_fits p1 v_codes v_length Q) : Ci l yX7_fits wsX7_fits rmX7_fits D cy [(h_this, .inr (7, [.ref h_this_codes, .int v_length])), (h_this_codes, .inl (cy.1, 40, .inl v_codes))] [.ref h_this, .int p1] (fun (r : Int32) (_ : Unit) => Q r) (fun (_ : Unit) => [(h_this, .inr (7, [.ref h_this_codes, .int v_length])), (h_this_codes, .inl (cy.1, 40, .inl v_codes))]) := by
  refine of_z (cc := cX7_fits) (maxL := 5) (by decide) rfl (Nat.le_of_ble_eq_true rfl) ?_
  intro p e s m args below meth c A ls QQ T0 RT hP hD hS hl
  obtain ⟨hx, hb, hr, hts, hown, hlocks, hml, hin, hK, hN, hA⟩ := T0
  have hown : s.vm.findClass RX7 = some m.cls := hown
  have hl : lv_has ls 5 [(0, .ref h_this), (1, .int p1)] := hl
  obtain ⟨H, hH⟩ : ∃ H, H = s.heap := ⟨_, rfl⟩
  obtain ⟨locs, hlo⟩ : ∃ z : List Loc, z = [] := ⟨_, rfl⟩
  have hS0 := hS
  rw [← hH] at hP ⊢
  rw [← hlo]
  replace hS : va_S A s.heap H locs := by rw [hH, hlo]; exact hS0
  refine lv_aload_n hx hb dX7_fits_0 rfl (lv_at hl 0 rfl) ?_
  refine lv_iload_n hx hb dX7_fits_1 rfl (lv_at hl 1 rfl) ?_
  refine call_iV (As := [.int p1]) (rest := []) (wr := []) ⟨hx, hb, hml, hown, hts⟩ (mX7_codeAt l D cy h_this h_this_codes v_length v_codes p1 _ h) (cwV 1 hts gX7_fits_X7_codeAt rfl rfl rfl hdV_X7_codeAt ⟨Nat.le_of_ble_eq_true rfl, Nat.le_of_ble_eq_true rfl⟩) hP hK hN hD hS hA [0, 1] [] rfl rfl (by decide) (by decide) (by decide) (ci := 7) rfl rfl rfl rfl hl.1 rfl (Nat.le_of_ble_eq_true rfl) dX7_fits_2 ⟨Nat.le_of_ble_eq_true rfl, Nat.le_of_ble_eq_true rfl⟩ (fun r1 u2 H locs h hP hD hS => ?_)
  have hP : va_P D vwCl [(h_this, .inr (7, [.ref h_this_codes, .int v_length])), (h_this_codes, .inl (cy.1, 40, .inl v_codes))] H := hP
  have hD : va_D A [(h_this, .inr (7, [.ref h_this_codes, .int v_length])), (h_this_codes, .inl (cy.1, 40, .inl v_codes))] := hD
  refine lv_istore_n (lv' := [(2, .int r1), (0, .ref h_this), (1, .int p1)]) hx hb dX7_fits_5 rfl hl (by decide) rfl (fun ls hl => ?_)
  refine lv_iload_n hx hb dX7_fits_6 rfl (lv_at hl 2 rfl) ?_
  refine lv_bipush (v := 7) hx hb dX7_fits_7 (by decide) ?_
  refine lv_irem hx hb dX7_fits_9 (by decide) ?_
  refine lv_topi (fun x3 ex3 => ?_)
  replace h := h x3 ex3
  refine lv_istore_n (lv' := [(3, .int x3), (2, .int r1), (0, .ref h_this), (1, .int p1)]) hx hb dX7_fits_10 rfl hl (by decide) rfl (fun ls hl => ?_)
  refine lv_iload_n hx hb dX7_fits_11 rfl (lv_at hl 0 rfl) ?_
  refine lv_bipush (v := 6) hx hb dX7_fits_12 (by decide) ?_
  refine lv_icmp_ne (tgt := 35) hx hb dX7_fits_14 (by decide) (fun c4 => ?_) (fun c4 => ?_)
  · replace h := h.1 c4
    refine lv_iload_n hx hb dX7_fits_35 rfl (lv_at hl 0 rfl) ?_
    refine lv_iconst (v := 3) hx hb dX7_fits_36 (by decide) ?_
    refine lv_irem hx hb dX7_fits_37 (by decide) ?_
    refine lv_topi (fun x5 ex5 => ?_)
    replace h := h x5 ex5
    refine lv_istore (lv' := [(4, .int x5), (3, .int x3), (2, .int r1), (0, .ref h_this), (1, .int p1)]) hx hb dX7_fits_38 hl (by decide) rfl (fun ls hl => ?_)
    refine lv_iload hx hb dX7_fits_40 (lv_at hl 0 rfl) ?_
    refine lv_if_ne (tgt := 69) hx hb dX7_fits_42 (by decide) (fun c6 => ?_) (fun c6 => ?_)
    · replace h := h.1 c6
      refine lv_aload_n hx hb dX7_fits_69 rfl (lv_at hl 3 rfl) ?_
      refine lv_iload_n hx hb dX7_fits_70 rfl (lv_at hl 4 rfl) ?_
      refine lv_iload hx hb dX7_fits_71 (lv_at hl 0 rfl) ?_
      refine lv_isub hx hb dX7_fits_73 ?_
      refine call_iV (As := [.int (p1 - x5)]) (rest := []) (wr := []) ⟨hx, hb, hml, hown, hts⟩ (mX7_codeAt l D cy h_this h_this_codes v_length v_codes (p1 - x5) _ h) (cwV 1 hts gX7_fits_X7_codeAt rfl rfl rfl hdV_X7_codeAt ⟨Nat.le_of_ble_eq_true rfl, Nat.le_of_ble_eq_true rfl⟩) hP hK hN hD hS hA [0, 1] [] rfl rfl (by decide) (by decide) (by decide) (ci := 7) rfl rfl rfl rfl hl.1 rfl (Nat.le_of_ble_eq_true rfl) dX7_fits_74 ⟨Nat.le_of_ble_eq_true rfl, Nat.le_of_ble_eq_true rfl⟩ (fun r7 u8 H locs h hP hD hS => ?_)
      have hP : va_P D vwCl [(h_this, .inr (7, [.ref h_this_codes, .int v_length])), (h_this_codes, .inl (cy.1, 40, .inl v_codes))] H := hP
      have hD : va_D A [(h_this, .inr (7, [.ref h_this_codes, .int v_length])), (h_this_codes, .inl (cy.1, 40, .inl v_codes))] := hD
      refine lv_bipush (v := 45) hx hb dX7_fits_77 (by decide) ?_
      refine lv_icmp_ne (tgt := 94) hx hb dX7_fits_79 (by decide) (fun c9 => ?_) (fun c9 => ?_)
      · replace h := h.1 c9
        refine lv_iload hx hb dX7_fits_94 (lv_at hl 0 rfl) ?_
        refine lv_iconst (v := 1) hx hb dX7_fits_96 (by decide) ?_
        refine lv_icmp_ne (tgt := 120) hx hb dX7_fits_97 (by decide) (fun c10 => ?_) (fun c10 => ?_)
        · replace h := h.1 c10
          refine lv_iload_n hx hb dX7_fits_120 rfl (lv_at hl 2 rfl) ?_
          refine lv_bipush (v := 90) hx hb dX7_fits_121 (by decide) ?_
          refine lv_icmp_eq (tgt := 133) hx hb dX7_fits_123 (by decide) (fun c11 => ?_) (fun c11 => ?_)
          · replace h := h.1 c11
            refine lv_iconst (v := 1) hx hb dX7_fits_133 (by decide) ?_
            refine lv_goto (tgt := 138) hx hb dX7_fits_134 (by decide) ?_
            exact RT 138 H locs ls 1 () dX7_fits_138 isB_1 h (hP.sub [0, 1] rfl) (hD.sub [0, 1] (by decide) rfl) hS
          · replace h := h.2 c11
            refine lv_iload_n hx hb dX7_fits_126 rfl (lv_at hl 2 rfl) ?_
            refine call_iS (As := [.int r1]) (rest := []) (wr := [(h_this, .inr (7, [.ref h_this_codes, .int v_length])), (h_this_codes, .inl (cy.1, 40, .inl v_codes))]) ⟨hx, hb, hml, hown, hts⟩ (mX7_isStateLetter l D cy r1 _ h) (va_cwS 1 hts gX7_fits_X7_isStateLetter rfl rfl rfl hdS_X7_isStateLetter ⟨Nat.le_of_ble_eq_true rfl, Nat.le_of_ble_eq_true rfl⟩) hP hK hN hD hS hA [] [0, 1] rfl rfl (by decide) (by decide) (by decide) rfl hl.1 rfl (Nat.le_of_ble_eq_true rfl) dX7_fits_127 ⟨Nat.le_of_ble_eq_true rfl, Nat.le_of_ble_eq_true rfl⟩ (fun r12 u13 H locs h hP hD hS => ?_)
            have hP : va_P D vwCl [(h_this, .inr (7, [.ref h_this_codes, .int v_length])), (h_this_codes, .inl (cy.1, 40, .inl v_codes))] H := hP
            have hD : va_D A [(h_this, .inr (7, [.ref h_this_codes, .int v_length])), (h_this_codes, .inl (cy.1, 40, .inl v_codes))] := hD
            refine lv_if_eq (tgt := 137) hx hb dX7_fits_130 (by decide) (fun c14 => ?_) (fun c14 => ?_)
            · replace h := h.1 c14
              refine lv_iconst (v := 0) hx hb dX7_fits_137 (by decide) ?_
              exact RT 138 H locs ls 0 () dX7_fits_138 isB_0 h (hP.sub [0, 1] rfl) (hD.sub [0, 1] (by decide) rfl) hS
            · replace h := h.2 c14
              refine lv_iconst (v := 1) hx hb dX7_fits_133 (by decide) ?_
              refine lv_goto (tgt := 138) hx hb dX7_fits_134 (by decide) ?_
              exact RT 138 H locs ls 1 () dX7_fits_138 isB_1 h (hP.sub [0, 1] rfl) (hD.sub [0, 1] (by decide) rfl) hS
        · replace h := h.2 c10
          refine lv_iload_n hx hb dX7_fits_100 rfl (lv_at hl 2 rfl) ?_
          refine lv_bipush (v := 76) hx hb dX7_fits_101 (by decide) ?_
          refine lv_icmp_eq (tgt := 112) hx hb dX7_fits_103 (by decide) (fun c15 => ?_) (fun c15 => ?_)
          · replace h := h.1 c15
            refine lv_iconst (v := 1) hx hb dX7_fits_112 (by decide) ?_
            refine lv_goto (tgt := 138) hx hb dX7_fits_113 (by decide) ?_
            exact RT 138 H locs ls 1 () dX7_fits_138 isB_1 h (hP.sub [0, 1] rfl) (hD.sub [0, 1] (by decide) rfl) hS
          · replace h := h.2 c15
            refine lv_iload_n hx hb dX7_fits_106 rfl (lv_at hl 2 rfl) ?_
            refine lv_bipush (v := 82) hx hb dX7_fits_107 (by decide) ?_
            refine lv_icmp_ne (tgt := 116) hx hb dX7_fits_109 (by decide) (fun c16 => ?_) (fun c16 => ?_)
            · replace h := h.1 c16
              refine lv_iconst (v := 0) hx hb dX7_fits_116 (by decide) ?_
              refine lv_goto (tgt := 138) hx hb dX7_fits_117 (by decide) ?_
              exact RT 138 H locs ls 0 () dX7_fits_138 isB_0 h (hP.sub [0, 1] rfl) (hD.sub [0, 1] (by decide) rfl) hS
            · replace h := h.2 c16
              refine lv_iconst (v := 1) hx hb dX7_fits_112 (by decide) ?_
              refine lv_goto (tgt := 138) hx hb dX7_fits_113 (by decide) ?_
              exact RT 138 H locs ls 1 () dX7_fits_138 isB_1 h (hP.sub [0, 1] rfl) (hD.sub [0, 1] (by decide) rfl) hS
      · replace h := h.2 c9
        refine lv_iload_n hx hb dX7_fits_82 rfl (lv_at hl 2 rfl) ?_
        refine lv_bipush (v := 45) hx hb dX7_fits_83 (by decide) ?_
        refine lv_icmp_ne (tgt := 92) hx hb dX7_fits_85 (by decide) (fun c17 => ?_) (fun c17 => ?_)
        · replace h := h.1 c17
          refine lv_iconst (v := 0) hx hb dX7_fits_92 (by decide) ?_
          exact RT 93 H locs ls 0 () dX7_fits_93 isB_0 h (hP.sub [0, 1] rfl) (hD.sub [0, 1] (by decide) rfl) hS
        · replace h := h.2 c17
          refine lv_iconst (v := 1) hx hb dX7_fits_88 (by decide) ?_
          refine lv_goto (tgt := 93) hx hb dX7_fits_89 (by decide) ?_
          exact RT 93 H locs ls 1 () dX7_fits_93 isB_1 h (hP.sub [0, 1] rfl) (hD.sub [0, 1] (by decide) rfl) hS
    · replace h := h.2 c6
      refine lv_iload_n hx hb dX7_fits_45 rfl (lv_at hl 2 rfl) ?_
      refine lv_bipush (v := 48) hx hb dX7_fits_46 (by decide) ?_
      refine lv_icmp_eq (tgt := 63) hx hb dX7_fits_48 (by decide) (fun c18 => ?_) (fun c18 => ?_)
      · replace h := h.1 c18
        refine lv_iconst (v := 1) hx hb dX7_fits_63 (by decide) ?_
        refine lv_goto (tgt := 68) hx hb dX7_fits_64 (by decide) ?_
        exact RT 68 H locs ls 1 () dX7_fits_68 isB_1 h (hP.sub [0, 1] rfl) (hD.sub [0, 1] (by decide) rfl) hS
      · replace h := h.2 c18
        refine lv_iload_n hx hb dX7_fits_51 rfl (lv_at hl 2 rfl) ?_
        refine lv_bipush (v := 49) hx hb dX7_fits_52 (by decide) ?_
        refine lv_icmp_eq (tgt := 63) hx hb dX7_fits_54 (by decide) (fun c19 => ?_) (fun c19 => ?_)
        · replace h := h.1 c19
          refine lv_iconst (v := 1) hx hb dX7_fits_63 (by decide) ?_
          refine lv_goto (tgt := 68) hx hb dX7_fits_64 (by decide) ?_
          exact RT 68 H locs ls 1 () dX7_fits_68 isB_1 h (hP.sub [0, 1] rfl) (hD.sub [0, 1] (by decide) rfl) hS
        · replace h := h.2 c19
          refine lv_iload_n hx hb dX7_fits_57 rfl (lv_at hl 2 rfl) ?_
          refine lv_bipush (v := 45) hx hb dX7_fits_58 (by decide) ?_
          refine lv_icmp_ne (tgt := 67) hx hb dX7_fits_60 (by decide) (fun c20 => ?_) (fun c20 => ?_)
          · replace h := h.1 c20
            refine lv_iconst (v := 0) hx hb dX7_fits_67 (by decide) ?_
            exact RT 68 H locs ls 0 () dX7_fits_68 isB_0 h (hP.sub [0, 1] rfl) (hD.sub [0, 1] (by decide) rfl) hS
          · replace h := h.2 c20
            refine lv_iconst (v := 1) hx hb dX7_fits_63 (by decide) ?_
            refine lv_goto (tgt := 68) hx hb dX7_fits_64 (by decide) ?_
            exact RT 68 H locs ls 1 () dX7_fits_68 isB_1 h (hP.sub [0, 1] rfl) (hD.sub [0, 1] (by decide) rfl) hS
  · replace h := h.2 c4
    refine lv_iload_n hx hb dX7_fits_17 rfl (lv_at hl 1 rfl) ?_
    refine lv_bipush (v := 95) hx hb dX7_fits_18 (by decide) ?_
    refine lv_icmp_ne (tgt := 33) hx hb dX7_fits_20 (by decide) (fun c21 => ?_) (fun c21 => ?_)
    · replace h := h.1 c21
      refine lv_iconst (v := 0) hx hb dX7_fits_33 (by decide) ?_
      exact RT 34 H locs ls 0 () dX7_fits_34 isB_0 h (hP.sub [0, 1] rfl) (hD.sub [0, 1] (by decide) rfl) hS
    · replace h := h.2 c21
      refine lv_iload_n hx hb dX7_fits_23 rfl (lv_at hl 3 rfl) ?_
      refine lv_bipush (v := 34) hx hb dX7_fits_24 (by decide) ?_
      refine lv_icmp_ge (tgt := 33) hx hb dX7_fits_26 (by decide) (fun c22 => ?_) (fun c22 => ?_)
      · replace h := h.1 c22
        refine lv_iconst (v := 0) hx hb dX7_fits_33 (by decide) ?_
        exact RT 34 H locs ls 0 () dX7_fits_34 isB_0 h (hP.sub [0, 1] rfl) (hD.sub [0, 1] (by decide) rfl) hS
      · replace h := h.2 c22
        refine lv_iconst (v := 1) hx hb dX7_fits_29 (by decide) ?_
        refine lv_goto (tgt := 34) hx hb dX7_fits_30 (by decide) ?_
        exact RT 34 H locs ls 1 () dX7_fits_34 isB_1 h (hP.sub [0, 1] rfl) (hD.sub [0, 1] (by decide) rfl) hS
def pX7_firstMisplaced_B2 (v_codes : Nat → Int32) (v_length : Int32) (Q : Int32 → Prop) (X2 : Int32 → Prop) : Int32 → Prop := fun v => match v with
  | l1 => ((v_length ≤ l1 → ((¬ (v_length - v_length / 7 * 7) = 6 → Q v_length) ∧ ((v_length - v_length / 7 * 7) = 6 → Q (-1)))) ∧ (¬ v_length ≤ l1 → pX7_fits l1 v_codes v_length (fun r3 => ((¬ r3 = 0 → (∀ x6 : Int32, x6 = l1 + 1 → X2 x6)) ∧ (r3 = 0 → Q l1)))))
def pX7_firstMisplaced (v_codes : Nat → Int32) (v_length : Int32) (Q : Int32 → Prop) : Prop :=
  Lp (pX7_firstMisplaced_B2 v_codes v_length Q) 0
abbrev rmX7_firstMisplaced : Room := { frames := 2, cells := 0, slots := 0, locals := 45 }
theorem hdV_X7_fits : yX7_fits.cls = RX7 ∧ yX7_fits.cls ≠ "java/lang/invoke/MethodHandle" ∧ yX7_fits.cls ≠ "java/lang/invoke/VarHandle" ∧ (parseMethodDescriptor yX7_fits.desc).map (fun d => d.parameters.length) = some 1 := by decide +kernel
set_option maxHeartbeats 4000000 in
set_option maxRecDepth 100000 in
theorem mX7_firstMisplaced (l : Launch) (D : va_G) (cy : Cy) (h_this : Nat) (h_this_codes : Nat) (v_length : Int32) (v_codes : Nat → Int32) (Q : Int32 → Prop) (h : pX7_firstMisplaced v_codes v_length Q) : Ci l yX7_firstMisplaced wsX7_firstMisplaced rmX7_firstMisplaced D cy [(h_this, .inr (7, [.ref h_this_codes, .int v_length])), (h_this_codes, .inl (cy.1, 40, .inl v_codes))] [.ref h_this] (fun (r : Int32) (_ : Unit) => Q r) (fun (_ : Unit) => [(h_this, .inr (7, [.ref h_this_codes, .int v_length])), (h_this_codes, .inl (cy.1, 40, .inl v_codes))]) := by
  refine of_i (cc := cX7_firstMisplaced) (maxL := 2) (by decide) rfl (Nat.le_of_ble_eq_true rfl) ?_
  intro p e s m args below meth c A ls QQ T0 RT hP hD hS hl
  obtain ⟨hx, hb, hr, hts, hown, hlocks, hml, hin, hK, hN, hA⟩ := T0
  have hown : s.vm.findClass RX7 = some m.cls := hown
  have hl : lv_has ls 2 [(0, .ref h_this)] := hl
  have iX7 : ∀ w ∈ wsX70, w ∈ wsX7_firstMisplaced := fun _ h => List.mem_cons_of_mem _ (List.mem_append_right _ h)
  have k15 := hts (.fieldLink RX7 15 "HaltingDecider$TypedText" "length" "I") (List.mem_of_getElem? (i := 1) (by decide +kernel))
  have L2 : ∀ (v : Int32), Lp (pX7_firstMisplaced_B2 v_codes v_length Q) v → ∀ (H : Heap) (locs : List Loc) (ls : Array Slot), va_P D vwCl [(h_this, .inr (7, [.ref h_this_codes, .int v_length])), (h_this_codes, .inl (cy.1, 40, .inl v_codes))] H → va_D A [(h_this, .inr (7, [.ref h_this_codes, .int v_length])), (h_this_codes, .inl (cy.1, 40, .inl v_codes))] → va_S A s.heap H locs → lv_has ls 2 [(0, .ref h_this), (1, .int v)] → W p l e rmX7_firstMisplaced s m args below meth c H locs 0 0 QQ (F0 m 2 ls []) := by
    intro v h
    refine h (fun v => ∀ (H : Heap) (locs : List Loc) (ls : Array Slot), va_P D vwCl [(h_this, .inr (7, [.ref h_this_codes, .int v_length])), (h_this_codes, .inl (cy.1, 40, .inl v_codes))] H → va_D A [(h_this, .inr (7, [.ref h_this_codes, .int v_length])), (h_this_codes, .inl (cy.1, 40, .inl v_codes))] → va_S A s.heap H locs → lv_has ls 2 [(0, .ref h_this), (1, .int v)] → W p l e rmX7_firstMisplaced s m args below meth c H locs 0 0 QQ (F0 m 2 ls [])) ?_
    clear h v
    intro v X2 hY2 h H locs ls hP hD hS hl
    obtain ⟨l1, rfl⟩ : ∃ z, z = v := ⟨_, rfl⟩
    have hP : va_P D vwCl [(h_this, .inr (7, [.ref h_this_codes, .int v_length])), (h_this_codes, .inl (cy.1, 40, .inl v_codes))] H := hP
    have hD : va_D A [(h_this, .inr (7, [.ref h_this_codes, .int v_length])), (h_this_codes, .inl (cy.1, 40, .inl v_codes))] := hD
    have hl : lv_has ls 2 [(0, .ref h_this), (1, .int l1)] := hl
    refine lv_iload_n hx hb dX7_firstMisplaced_2 rfl (lv_at hl 1 rfl) ?_
    refine lv_aload_n hx hb dX7_firstMisplaced_3 rfl (lv_at hl 0 rfl) ?_
    refine va_get (D := D) (ci := 7) (v := .int v_length) (C := RX7) (T := TX7) (N := 2) hx hb hts iX7 hown hK hP 0 rfl rfl 1 (by decide) k15 (fun _ h9 => h9) rfl dX7_firstMisplaced_4 ?_
    refine lv_icmp_ge (tgt := 26) hx hb dX7_firstMisplaced_7 (by decide) (fun c1 => ?_) (fun c1 => ?_)
    · replace h := h.1 c1
      refine lv_aload_n hx hb dX7_firstMisplaced_26 rfl (lv_at hl 0 rfl) ?_
      refine va_get (D := D) (ci := 7) (v := .int v_length) (C := RX7) (T := TX7) (N := 2) hx hb hts iX7 hown hK hP 0 rfl rfl 1 (by decide) k15 (fun _ h9 => h9) rfl dX7_firstMisplaced_27 ?_
      refine lv_bipush (v := 7) hx hb dX7_firstMisplaced_30 (by decide) ?_
      refine lv_irem hx hb dX7_firstMisplaced_32 (by decide) ?_
      refine lv_bipush (v := 6) hx hb dX7_firstMisplaced_33 (by decide) ?_
      refine lv_icmp_ne (tgt := 42) hx hb dX7_firstMisplaced_35 (by decide) (fun c2 => ?_) (fun c2 => ?_)
      · replace h := h.1 c2
        refine lv_aload_n hx hb dX7_firstMisplaced_42 rfl (lv_at hl 0 rfl) ?_
        refine va_get (D := D) (ci := 7) (v := .int v_length) (C := RX7) (T := TX7) (N := 2) hx hb hts iX7 hown hK hP 0 rfl rfl 1 (by decide) k15 (fun _ h9 => h9) rfl dX7_firstMisplaced_43 ?_
        exact RT 46 H locs ls v_length () dX7_firstMisplaced_46 h (hP.sub [0, 1] rfl) (hD.sub [0, 1] (by decide) rfl) hS
      · replace h := h.2 c2
        refine lv_iconst (v := (-1)) hx hb dX7_firstMisplaced_38 (by decide) ?_
        refine lv_goto (tgt := 46) hx hb dX7_firstMisplaced_39 (by decide) ?_
        exact RT 46 H locs ls (-1) () dX7_firstMisplaced_46 h (hP.sub [0, 1] rfl) (hD.sub [0, 1] (by decide) rfl) hS
    · replace h := h.2 c1
      refine lv_aload_n hx hb dX7_firstMisplaced_10 rfl (lv_at hl 0 rfl) ?_
      refine lv_iload_n hx hb dX7_firstMisplaced_11 rfl (lv_at hl 1 rfl) ?_
      refine call_iV (As := [.int l1]) (rest := []) (wr := []) ⟨hx, hb, hml, hown, hts⟩ (mX7_fits l D cy h_this h_this_codes v_length v_codes l1 _ h) (cwV 1 hts gX7_firstMisplaced_X7_fits rfl rfl rfl hdV_X7_fits ⟨Nat.le_of_ble_eq_true rfl, Nat.le_of_ble_eq_true rfl⟩) hP hK hN hD hS hA [0, 1] [] rfl rfl (by decide) (by decide) (by decide) (ci := 7) rfl rfl rfl rfl hl.1 rfl (Nat.le_of_ble_eq_true rfl) dX7_firstMisplaced_12 ⟨Nat.le_of_ble_eq_true rfl, Nat.le_of_ble_eq_true rfl⟩ (fun r3 u4 H locs h hP hD hS => ?_)
      have hP : va_P D vwCl [(h_this, .inr (7, [.ref h_this_codes, .int v_length])), (h_this_codes, .inl (cy.1, 40, .inl v_codes))] H := hP
      have hD : va_D A [(h_this, .inr (7, [.ref h_this_codes, .int v_length])), (h_this_codes, .inl (cy.1, 40, .inl v_codes))] := hD
      refine lv_if_ne (tgt := 20) hx hb dX7_firstMisplaced_15 (by decide) (fun c5 => ?_) (fun c5 => ?_)
      · replace h := h.1 c5
        obtain ⟨x6, ex6⟩ : ∃ y : Int32, y = l1 + 1 := ⟨_, rfl⟩
        replace h := h x6 ex6
        refine lv_iinc (v := x6) (lv' := [(1, .int x6), (0, .ref h_this)]) hx hb dX7_firstMisplaced_20 hl (k := 1) rfl (by rw [ex6]; rfl) (by decide) rfl (fun ls hl => ?_)
        refine lv_goto (tgt := 2) hx hb dX7_firstMisplaced_23 (by decide) ?_
        exact hY2 x6 h H locs ls (hP.sub [0, 1] rfl) (hD.sub [0, 1] (by decide) rfl) hS (lv_sub hl [1, 0] rfl)
      · replace h := h.2 c5
        refine lv_iload_n hx hb dX7_firstMisplaced_18 rfl (lv_at hl 1 rfl) ?_
        exact RT 19 H locs ls l1 () dX7_firstMisplaced_19 h (hP.sub [0, 1] rfl) (hD.sub [0, 1] (by decide) rfl) hS
  obtain ⟨H, hH⟩ : ∃ H, H = s.heap := ⟨_, rfl⟩
  obtain ⟨locs, hlo⟩ : ∃ z : List Loc, z = [] := ⟨_, rfl⟩
  have hS0 := hS
  rw [← hH] at hP ⊢
  rw [← hlo]
  replace hS : va_S A s.heap H locs := by rw [hH, hlo]; exact hS0
  refine lv_iconst (v := 0) hx hb dX7_firstMisplaced_0 (by decide) ?_
  refine lv_istore_n (lv' := [(1, .int 0), (0, .ref h_this)]) hx hb dX7_firstMisplaced_1 rfl hl (by decide) rfl (fun ls hl => ?_)
  exact L2 0 h H locs ls (hP.sub [0, 1] rfl) (hD.sub [0, 1] (by decide) rfl) hS (lv_sub hl [1, 0] rfl)
def pX7_firstWithoutRow_j38 (v_codes : Nat → Int32) (v_length : Int32) (Q : Int32 → Prop) (X7 : Int32 → Prop) (l1 : Int32) (l2 : Int32) : Prop :=
  (∀ x9 : Int32, x9 = l2 + 1 → X7 x9)
def pX7_firstWithoutRow_B7 (v_codes : Nat → Int32) (v_length : Int32) (Q : Int32 → Prop) (l1 : Int32) (X7 : Int32 → Prop) : Int32 → Prop := fun v => match v with
  | l2 => ((v_length ≤ l2 → Q (-1)) ∧ (¬ v_length ≤ l2 → pX7_codeAt l2 v_codes v_length (fun r4 => pX7_isStateLetter r4 (fun r6 => ((r6 = 0 → pX7_firstWithoutRow_j38 v_codes v_length Q X7 l1 l2) ∧ (¬ r6 = 0 → (((r4 - 65) < l1 → pX7_firstWithoutRow_j38 v_codes v_length Q X7 l1 l2) ∧ (¬ (r4 - 65) < l1 → Q l2))))))))
def pX7_firstWithoutRow (v_codes : Nat → Int32) (v_length : Int32) (Q : Int32 → Prop) : Prop :=
  pX7_rowCount v_length (fun r1 => Lp (pX7_firstWithoutRow_B7 v_codes v_length Q r1) 0)
abbrev rmX7_firstWithoutRow : Room := { frames := 1, cells := 0, slots := 0, locals := 21 }
set_option maxHeartbeats 4000000 in
set_option maxRecDepth 100000 in
theorem mX7_firstWithoutRow (l : Launch) (D : va_G) (cy : Cy) (h_this : Nat) (h_this_codes : Nat) (v_length : Int32) (v_codes : Nat → Int32) (Q : Int32 → Prop) (h : pX7_firstWithoutRow v_codes v_length Q) : Ci l yX7_firstWithoutRow wsX7_firstWithoutRow rmX7_firstWithoutRow D cy [(h_this, .inr (7, [.ref h_this_codes, .int v_length])), (h_this_codes, .inl (cy.1, 40, .inl v_codes))] [.ref h_this] (fun (r : Int32) (_ : Unit) => Q r) (fun (_ : Unit) => [(h_this, .inr (7, [.ref h_this_codes, .int v_length])), (h_this_codes, .inl (cy.1, 40, .inl v_codes))]) := by
  refine of_i (cc := cX7_firstWithoutRow) (maxL := 4) (by decide) rfl (Nat.le_of_ble_eq_true rfl) ?_
  intro p e s m args below meth c A ls QQ T0 RT hP hD hS hl
  obtain ⟨hx, hb, hr, hts, hown, hlocks, hml, hin, hK, hN, hA⟩ := T0
  have hown : s.vm.findClass RX7 = some m.cls := hown
  have hl : lv_has ls 4 [(0, .ref h_this)] := hl
  have iX7 : ∀ w ∈ wsX70, w ∈ wsX7_firstWithoutRow := fun _ h => List.mem_cons_of_mem _ (List.mem_append_right _ h)
  have k15 := hts (.fieldLink RX7 15 "HaltingDecider$TypedText" "length" "I") (List.mem_of_getElem? (i := 1) (by decide +kernel))
  have L7 : ∀ (l1 : Int32) (v : Int32), Lp (pX7_firstWithoutRow_B7 v_codes v_length Q l1) v → ∀ (H : Heap) (locs : List Loc) (ls : Array Slot), va_P D vwCl [(h_this, .inr (7, [.ref h_this_codes, .int v_length])), (h_this_codes, .inl (cy.1, 40, .inl v_codes))] H → va_D A [(h_this, .inr (7, [.ref h_this_codes, .int v_length])), (h_this_codes, .inl (cy.1, 40, .inl v_codes))] → va_S A s.heap H locs → lv_has ls 4 [(0, .ref h_this), (1, .int l1), (2, .int v)] → W p l e rmX7_firstWithoutRow s m args below meth c H locs 0 0 QQ (F0 m 7 ls []) := by
    intro l1
    intro v h
    refine h (fun v => ∀ (H : Heap) (locs : List Loc) (ls : Array Slot), va_P D vwCl [(h_this, .inr (7, [.ref h_this_codes, .int v_length])), (h_this_codes, .inl (cy.1, 40, .inl v_codes))] H → va_D A [(h_this, .inr (7, [.ref h_this_codes, .int v_length])), (h_this_codes, .inl (cy.1, 40, .inl v_codes))] → va_S A s.heap H locs → lv_has ls 4 [(0, .ref h_this), (1, .int l1), (2, .int v)] → W p l e rmX7_firstWithoutRow s m args below meth c H locs 0 0 QQ (F0 m 7 ls [])) ?_
    clear h v
    intro v X7 hY7 h H locs ls hP hD hS hl
    obtain ⟨l2, rfl⟩ : ∃ z, z = v := ⟨_, rfl⟩
    have hP : va_P D vwCl [(h_this, .inr (7, [.ref h_this_codes, .int v_length])), (h_this_codes, .inl (cy.1, 40, .inl v_codes))] H := hP
    have hD : va_D A [(h_this, .inr (7, [.ref h_this_codes, .int v_length])), (h_this_codes, .inl (cy.1, 40, .inl v_codes))] := hD
    have hl : lv_has ls 4 [(0, .ref h_this), (1, .int l1), (2, .int l2)] := hl
    have J38 : ∀ (l2 : Int32) (H : Heap) (locs : List Loc) (ls : Array Slot), pX7_firstWithoutRow_j38 v_codes v_length Q X7 l1 l2 → va_P D vwCl [(h_this, .inr (7, [.ref h_this_codes, .int v_length])), (h_this_codes, .inl (cy.1, 40, .inl v_codes))] H → va_D A [(h_this, .inr (7, [.ref h_this_codes, .int v_length])), (h_this_codes, .inl (cy.1, 40, .inl v_codes))] → va_S A s.heap H locs → lv_has ls 4 [(0, .ref h_this), (1, .int l1), (2, .int l2)] → W p l e rmX7_firstWithoutRow s m args below meth c H locs 0 0 QQ (F0 m 38 ls []) := by
      intro l2 H locs ls h hP hD hS hl
      obtain ⟨x9, ex9⟩ : ∃ y : Int32, y = l2 + 1 := ⟨_, rfl⟩
      replace h := h x9 ex9
      refine lv_iinc (v := x9) (lv' := [(2, .int x9), (0, .ref h_this), (1, .int l1)]) hx hb dX7_firstWithoutRow_38 hl (k := 2) rfl (by rw [ex9]; rfl) (by decide) rfl (fun ls hl => ?_)
      refine lv_goto (tgt := 7) hx hb dX7_firstWithoutRow_41 (by decide) ?_
      exact hY7 x9 h H locs ls (hP.sub [0, 1] rfl) (hD.sub [0, 1] (by decide) rfl) hS (lv_sub hl [1, 2, 0] rfl)
    refine lv_iload_n hx hb dX7_firstWithoutRow_7 rfl (lv_at hl 2 rfl) ?_
    refine lv_aload_n hx hb dX7_firstWithoutRow_8 rfl (lv_at hl 0 rfl) ?_
    refine va_get (D := D) (ci := 7) (v := .int v_length) (C := RX7) (T := TX7) (N := 2) hx hb hts iX7 hown hK hP 0 rfl rfl 1 (by decide) k15 (fun _ h9 => h9) rfl dX7_firstWithoutRow_9 ?_
    refine lv_icmp_ge (tgt := 44) hx hb dX7_firstWithoutRow_12 (by decide) (fun c3 => ?_) (fun c3 => ?_)
    · replace h := h.1 c3
      refine lv_iconst (v := (-1)) hx hb dX7_firstWithoutRow_44 (by decide) ?_
      exact RT 45 H locs ls (-1) () dX7_firstWithoutRow_45 h (hP.sub [0, 1] rfl) (hD.sub [0, 1] (by decide) rfl) hS
    · replace h := h.2 c3
      refine lv_aload_n hx hb dX7_firstWithoutRow_15 rfl (lv_at hl 0 rfl) ?_
      refine lv_iload_n hx hb dX7_firstWithoutRow_16 rfl (lv_at hl 2 rfl) ?_
      refine call_iV (As := [.int l2]) (rest := []) (wr := []) ⟨hx, hb, hml, hown, hts⟩ (mX7_codeAt l D cy h_this h_this_codes v_length v_codes l2 _ h) (cwV 1 hts gX7_firstWithoutRow_X7_codeAt rfl rfl rfl hdV_X7_codeAt ⟨Nat.le_of_ble_eq_true rfl, Nat.le_of_ble_eq_true rfl⟩) hP hK hN hD hS hA [0, 1] [] rfl rfl (by decide) (by decide) (by decide) (ci := 7) rfl rfl rfl rfl hl.1 rfl (Nat.le_of_ble_eq_true rfl) dX7_firstWithoutRow_17 ⟨Nat.le_of_ble_eq_true rfl, Nat.le_of_ble_eq_true rfl⟩ (fun r4 u5 H locs h hP hD hS => ?_)
      have hP : va_P D vwCl [(h_this, .inr (7, [.ref h_this_codes, .int v_length])), (h_this_codes, .inl (cy.1, 40, .inl v_codes))] H := hP
      have hD : va_D A [(h_this, .inr (7, [.ref h_this_codes, .int v_length])), (h_this_codes, .inl (cy.1, 40, .inl v_codes))] := hD
      refine lv_istore_n (lv' := [(3, .int r4), (0, .ref h_this), (1, .int l1), (2, .int l2)]) hx hb dX7_firstWithoutRow_20 rfl hl (by decide) rfl (fun ls hl => ?_)
      refine lv_iload_n hx hb dX7_firstWithoutRow_21 rfl (lv_at hl 0 rfl) ?_
      refine call_iS (As := [.int r4]) (rest := []) (wr := [(h_this, .inr (7, [.ref h_this_codes, .int v_length])), (h_this_codes, .inl (cy.1, 40, .inl v_codes))]) ⟨hx, hb, hml, hown, hts⟩ (mX7_isStateLetter l D cy r4 _ h) (va_cwS 1 hts gX7_firstWithoutRow_X7_isStateLetter rfl rfl rfl hdS_X7_isStateLetter ⟨Nat.le_of_ble_eq_true rfl, Nat.le_of_ble_eq_true rfl⟩) hP hK hN hD hS hA [] [0, 1] rfl rfl (by decide) (by decide) (by decide) rfl hl.1 rfl (Nat.le_of_ble_eq_true rfl) dX7_firstWithoutRow_22 ⟨Nat.le_of_ble_eq_true rfl, Nat.le_of_ble_eq_true rfl⟩ (fun r6 u7 H locs h hP hD hS => ?_)
      have hP : va_P D vwCl [(h_this, .inr (7, [.ref h_this_codes, .int v_length])), (h_this_codes, .inl (cy.1, 40, .inl v_codes))] H := hP
      have hD : va_D A [(h_this, .inr (7, [.ref h_this_codes, .int v_length])), (h_this_codes, .inl (cy.1, 40, .inl v_codes))] := hD
      refine lv_if_eq (tgt := 38) hx hb dX7_firstWithoutRow_25 (by decide) (fun c8 => ?_) (fun c8 => ?_)
      · replace h := h.1 c8
        exact J38 l2 H locs ls h (hP.sub [0, 1] rfl) (hD.sub [0, 1] (by decide) rfl) hS (lv_sub hl [1, 2, 3] rfl)
      · replace h := h.2 c8
        refine lv_iload_n hx hb dX7_firstWithoutRow_28 rfl (lv_at hl 0 rfl) ?_
        refine lv_bipush (v := 65) hx hb dX7_firstWithoutRow_29 (by decide) ?_
        refine lv_isub hx hb dX7_firstWithoutRow_31 ?_
        refine lv_iload_n hx hb dX7_firstWithoutRow_32 rfl (lv_at hl 2 rfl) ?_
        refine lv_icmp_lt (tgt := 38) hx hb dX7_firstWithoutRow_33 (by decide) (fun c10 => ?_) (fun c10 => ?_)
        · replace h := h.1 c10
          exact J38 l2 H locs ls h (hP.sub [0, 1] rfl) (hD.sub [0, 1] (by decide) rfl) hS (lv_sub hl [1, 2, 3] rfl)
        · replace h := h.2 c10
          refine lv_iload_n hx hb dX7_firstWithoutRow_36 rfl (lv_at hl 3 rfl) ?_
          exact RT 37 H locs ls l2 () dX7_firstWithoutRow_37 h (hP.sub [0, 1] rfl) (hD.sub [0, 1] (by decide) rfl) hS
  obtain ⟨H, hH⟩ : ∃ H, H = s.heap := ⟨_, rfl⟩
  obtain ⟨locs, hlo⟩ : ∃ z : List Loc, z = [] := ⟨_, rfl⟩
  have hS0 := hS
  rw [← hH] at hP ⊢
  rw [← hlo]
  replace hS : va_S A s.heap H locs := by rw [hH, hlo]; exact hS0
  refine lv_aload_n hx hb dX7_firstWithoutRow_0 rfl (lv_at hl 0 rfl) ?_
  refine call_iV (As := []) (rest := []) (wr := [(h_this_codes, .inl (cy.1, 40, .inl v_codes))]) ⟨hx, hb, hml, hown, hts⟩ (mX7_rowCount l D cy h_this h_this_codes v_length _ h) (cwV 0 hts gX7_firstWithoutRow_X7_rowCount rfl rfl rfl hdV_X7_rowCount ⟨Nat.le_of_ble_eq_true rfl, Nat.le_of_ble_eq_true rfl⟩) hP hK hN hD hS hA [0] [1] rfl rfl (by decide) (by decide) (by decide) (ci := 7) rfl rfl rfl rfl hl.1 rfl (Nat.le_of_ble_eq_true rfl) dX7_firstWithoutRow_1 ⟨Nat.le_of_ble_eq_true rfl, Nat.le_of_ble_eq_true rfl⟩ (fun r1 u2 H locs h hP hD hS => ?_)
  have hP : va_P D vwCl [(h_this_codes, .inl (cy.1, 40, .inl v_codes)), (h_this, .inr (7, [.ref h_this_codes, .int v_length]))] H := hP
  have hD : va_D A [(h_this_codes, .inl (cy.1, 40, .inl v_codes)), (h_this, .inr (7, [.ref h_this_codes, .int v_length]))] := hD
  refine lv_istore_n (lv' := [(1, .int r1), (0, .ref h_this)]) hx hb dX7_firstWithoutRow_4 rfl hl (by decide) rfl (fun ls hl => ?_)
  refine lv_iconst (v := 0) hx hb dX7_firstWithoutRow_5 (by decide) ?_
  refine lv_istore_n (lv' := [(2, .int 0), (1, .int r1), (0, .ref h_this)]) hx hb dX7_firstWithoutRow_6 rfl hl (by decide) rfl (fun ls hl => ?_)
  exact L7 r1 0 h H locs ls (hP.sub [1, 0] rfl) (hD.sub [1, 0] (by decide) rfl) hS (lv_sub hl [2, 1, 0] rfl)
def pX7_firstWrong (v_codes : Nat → Int32) (v_length : Int32) (Q : Int32 → Prop) : Prop :=
  pX7_firstMisplaced v_codes v_length (fun r1 => ((r1 = (-1) → pX7_firstWithoutRow v_codes v_length (fun r4 => Q r4)) ∧ (¬ r1 = (-1) → Q r1)))
abbrev rmX7_firstWrong : Room := { frames := 3, cells := 0, slots := 0, locals := 66 }
theorem hdV_X7_firstMisplaced : yX7_firstMisplaced.cls = RX7 ∧ yX7_firstMisplaced.cls ≠ "java/lang/invoke/MethodHandle" ∧ yX7_firstMisplaced.cls ≠ "java/lang/invoke/VarHandle" ∧ (parseMethodDescriptor yX7_firstMisplaced.desc).map (fun d => d.parameters.length) = some 0 := by decide +kernel
theorem hdV_X7_firstWithoutRow : yX7_firstWithoutRow.cls = RX7 ∧ yX7_firstWithoutRow.cls ≠ "java/lang/invoke/MethodHandle" ∧ yX7_firstWithoutRow.cls ≠ "java/lang/invoke/VarHandle" ∧ (parseMethodDescriptor yX7_firstWithoutRow.desc).map (fun d => d.parameters.length) = some 0 := by decide +kernel
set_option maxHeartbeats 4000000 in
set_option maxRecDepth 100000 in
theorem mX7_firstWrong (l : Launch) (D : va_G) (cy : Cy) (h_this : Nat) (h_this_codes : Nat) (v_length : Int32) (v_codes : Nat → Int32) (Q : Int32 → Prop) (h : pX7_firstWrong v_codes v_length Q) : Ci l yX7_firstWrong wsX7_firstWrong rmX7_firstWrong D cy [(h_this, .inr (7, [.ref h_this_codes, .int v_length])), (h_this_codes, .inl (cy.1, 40, .inl v_codes))] [.ref h_this] (fun (r : Int32) (_ : Unit) => Q r) (fun (_ : Unit) => [(h_this, .inr (7, [.ref h_this_codes, .int v_length])), (h_this_codes, .inl (cy.1, 40, .inl v_codes))]) := by
  refine of_i (cc := cX7_firstWrong) (maxL := 2) (by decide) rfl (Nat.le_of_ble_eq_true rfl) ?_
  intro p e s m args below meth c A ls QQ T0 RT hP hD hS hl
  obtain ⟨hx, hb, hr, hts, hown, hlocks, hml, hin, hK, hN, hA⟩ := T0
  have hown : s.vm.findClass RX7 = some m.cls := hown
  have hl : lv_has ls 2 [(0, .ref h_this)] := hl
  obtain ⟨H, hH⟩ : ∃ H, H = s.heap := ⟨_, rfl⟩
  obtain ⟨locs, hlo⟩ : ∃ z : List Loc, z = [] := ⟨_, rfl⟩
  have hS0 := hS
  rw [← hH] at hP ⊢
  rw [← hlo]
  replace hS : va_S A s.heap H locs := by rw [hH, hlo]; exact hS0
  refine lv_aload_n hx hb dX7_firstWrong_0 rfl (lv_at hl 0 rfl) ?_
  refine call_iV (As := []) (rest := []) (wr := []) ⟨hx, hb, hml, hown, hts⟩ (mX7_firstMisplaced l D cy h_this h_this_codes v_length v_codes _ h) (cwV 0 hts gX7_firstWrong_X7_firstMisplaced rfl rfl rfl hdV_X7_firstMisplaced ⟨Nat.le_of_ble_eq_true rfl, Nat.le_of_ble_eq_true rfl⟩) hP hK hN hD hS hA [0, 1] [] rfl rfl (by decide) (by decide) (by decide) (ci := 7) rfl rfl rfl rfl hl.1 rfl (Nat.le_of_ble_eq_true rfl) dX7_firstWrong_1 ⟨Nat.le_of_ble_eq_true rfl, Nat.le_of_ble_eq_true rfl⟩ (fun r1 u2 H locs h hP hD hS => ?_)
  have hP : va_P D vwCl [(h_this, .inr (7, [.ref h_this_codes, .int v_length])), (h_this_codes, .inl (cy.1, 40, .inl v_codes))] H := hP
  have hD : va_D A [(h_this, .inr (7, [.ref h_this_codes, .int v_length])), (h_this_codes, .inl (cy.1, 40, .inl v_codes))] := hD
  refine lv_istore_n (lv' := [(1, .int r1), (0, .ref h_this)]) hx hb dX7_firstWrong_4 rfl hl (by decide) rfl (fun ls hl => ?_)
  refine lv_iload_n hx hb dX7_firstWrong_5 rfl (lv_at hl 0 rfl) ?_
  refine lv_iconst (v := (-1)) hx hb dX7_firstWrong_6 (by decide) ?_
  refine lv_icmp_eq (tgt := 14) hx hb dX7_firstWrong_7 (by decide) (fun c3 => ?_) (fun c3 => ?_)
  · replace h := h.1 c3
    refine lv_aload_n hx hb dX7_firstWrong_14 rfl (lv_at hl 1 rfl) ?_
    refine call_iV (As := []) (rest := []) (wr := []) ⟨hx, hb, hml, hown, hts⟩ (mX7_firstWithoutRow l D cy h_this h_this_codes v_length v_codes _ h) (cwV 0 hts gX7_firstWrong_X7_firstWithoutRow rfl rfl rfl hdV_X7_firstWithoutRow ⟨Nat.le_of_ble_eq_true rfl, Nat.le_of_ble_eq_true rfl⟩) hP hK hN hD hS hA [0, 1] [] rfl rfl (by decide) (by decide) (by decide) (ci := 7) rfl rfl rfl rfl hl.1 rfl (Nat.le_of_ble_eq_true rfl) dX7_firstWrong_15 ⟨Nat.le_of_ble_eq_true rfl, Nat.le_of_ble_eq_true rfl⟩ (fun r4 u5 H locs h hP hD hS => ?_)
    have hP : va_P D vwCl [(h_this, .inr (7, [.ref h_this_codes, .int v_length])), (h_this_codes, .inl (cy.1, 40, .inl v_codes))] H := hP
    have hD : va_D A [(h_this, .inr (7, [.ref h_this_codes, .int v_length])), (h_this_codes, .inl (cy.1, 40, .inl v_codes))] := hD
    exact RT 18 H locs ls r4 () dX7_firstWrong_18 h (hP.sub [0, 1] rfl) (hD.sub [0, 1] (by decide) rfl) hS
  · replace h := h.2 c3
    refine lv_iload_n hx hb dX7_firstWrong_10 rfl (lv_at hl 0 rfl) ?_
    refine lv_goto (tgt := 18) hx hb dX7_firstWrong_11 (by decide) ?_
    exact RT 18 H locs ls r1 () dX7_firstWrong_18 h (hP.sub [0, 1] rfl) (hD.sub [0, 1] (by decide) rfl) hS
def pJ7_fill_031fb_B5 (n_a0 : Nat) (p1 : Int32) (Q : (Nat → Int32) → Prop) (l3 : Int32) (X5 : (Int32 × (Nat → Int32)) → Prop) : (Int32 × (Nat → Int32)) → Prop := fun v => match v with
  | (l2, w_a0) => ((l3 ≤ l2 → Q w_a0) ∧ (¬ l3 ≤ l2 → (vp_in l2 n_a0 ∧ (∀ x4 : Int32, x4 = l2 + 1 → X5 (x4, upd w_a0 l2.toNatClampNeg (vp_nar .byte p1))))))
def pJ7_fill_031fb (n_a0 : Nat) (p1 : Int32) (v_a0 : Nat → Int32) (Q : (Nat → Int32) → Prop) : Prop :=
  (∀ x1 : Int32, x1 = nI n_a0 → Lp (pJ7_fill_031fb_B5 n_a0 p1 Q x1) (0, v_a0))
abbrev rmJ7_fill_031fb : Room := { frames := 0, cells := 0, slots := 0, locals := 0 }
set_option maxHeartbeats 4000000 in
set_option maxRecDepth 100000 in
theorem mJ7_fill_031fb (l : Launch) (D : va_G) (cy : Cy) (h_a0 : Nat) (n_a0 : Nat) (v_a0 : Nat → Int32) (p1 : Int32) (Q : (Nat → Int32) → Prop) (h : pJ7_fill_031fb n_a0 p1 v_a0 Q) : Cv l yJ7_fill_031fb wsJ7_fill_031fb rmJ7_fill_031fb 0 0 D cy [(h_a0, .inl (cy.2.2, n_a0, .inl v_a0))] [.ref h_a0, .int p1] (fun (u : (Nat → Int32)) => Q u) (fun (u : (Nat → Int32)) => [(h_a0, .inl (cy.2.2, n_a0, .inl u))]) := by
  refine of_v (cc := cJ7_fill_031fb) (maxL := 4) (by decide) rfl (Nat.le_of_ble_eq_true rfl) ?_
  intro p e s m args below meth c A ls QQ T0 RT hP hD hS hl
  obtain ⟨hx, hb, hr, hts, hown, hlocks, hml, hin, hK, hN, hA⟩ := T0
  have hown : s.vm.findClass RJ7 = some m.cls := hown
  have hl : lv_has ls 4 [(0, .ref h_a0), (1, .int p1)] := hl
  have L5 : ∀ (l3 : Int32) (v : Int32 × (Nat → Int32)), Lp (pJ7_fill_031fb_B5 n_a0 p1 Q l3) v → ∀ (H : Heap) (locs : List Loc) (ls : Array Slot), va_P D vwCl [(h_a0, .inl (cy.2.2, n_a0, .inl v.2))] H → va_D A [(h_a0, .inl (cy.2.2, n_a0, .inl v.2))] → va_S A s.heap H locs → lv_has ls 4 [(0, .ref h_a0), (1, .int p1), (2, .int v.1), (3, .int l3)] → W p l e rmJ7_fill_031fb s m args below meth c H locs 0 0 QQ (F0 m 5 ls []) := by
    intro l3
    intro v h
    refine h (fun v => ∀ (H : Heap) (locs : List Loc) (ls : Array Slot), va_P D vwCl [(h_a0, .inl (cy.2.2, n_a0, .inl v.2))] H → va_D A [(h_a0, .inl (cy.2.2, n_a0, .inl v.2))] → va_S A s.heap H locs → lv_has ls 4 [(0, .ref h_a0), (1, .int p1), (2, .int v.1), (3, .int l3)] → W p l e rmJ7_fill_031fb s m args below meth c H locs 0 0 QQ (F0 m 5 ls [])) ?_
    clear h v
    intro v X5 hY5 h H locs ls hP hD hS hl
    obtain ⟨l2, w_a0⟩ := v
    have hP : va_P D vwCl [(h_a0, .inl (cy.2.2, n_a0, .inl w_a0))] H := hP
    have hD : va_D A [(h_a0, .inl (cy.2.2, n_a0, .inl w_a0))] := hD
    have hl : lv_has ls 4 [(0, .ref h_a0), (1, .int p1), (2, .int l2), (3, .int l3)] := hl
    refine lv_iload_n hx hb dJ7_fill_031fb_5 rfl (lv_at hl 2 rfl) ?_
    refine lv_iload_n hx hb dJ7_fill_031fb_6 rfl (lv_at hl 3 rfl) ?_
    refine lv_icmp_ge (tgt := 20) hx hb dJ7_fill_031fb_7 (by decide) (fun c2 => ?_) (fun c2 => ?_)
    · replace h := h.1 c2
      exact RT 20 H locs ls w_a0 dJ7_fill_031fb_20 h (hP.sub [0] rfl) (hD.sub [0] (by decide) rfl) hS
    · replace h := h.2 c2
      refine lv_aload_n hx hb dJ7_fill_031fb_10 rfl (lv_at hl 0 rfl) ?_
      refine lv_iload_n hx hb dJ7_fill_031fb_11 rfl (lv_at hl 2 rfl) ?_
      refine lv_iload_n hx hb dJ7_fill_031fb_12 rfl (lv_at hl 1 rfl) ?_
      have b3 := h.1
      replace h := h.2
      refine va_bast hx hb hK hP hD hS 0 2 rfl rfl b3 dJ7_fill_031fb_13 (fun H locs hP hD hS => ?_)
      have hP : va_P D vwCl [(h_a0, .inl (cy.2.2, n_a0, .inl (upd w_a0 l2.toNatClampNeg (vp_nar .byte p1))))] H := hP
      have hD : va_D A [(h_a0, .inl (cy.2.2, n_a0, .inl (upd w_a0 l2.toNatClampNeg (vp_nar .byte p1))))] := hD
      obtain ⟨x4, ex4⟩ : ∃ y : Int32, y = l2 + 1 := ⟨_, rfl⟩
      replace h := h x4 ex4
      refine lv_iinc (v := x4) (lv' := [(2, .int x4), (0, .ref h_a0), (1, .int p1), (3, .int l3)]) hx hb dJ7_fill_031fb_14 hl (k := 2) rfl (by rw [ex4]; rfl) (by decide) rfl (fun ls hl => ?_)
      refine lv_goto (tgt := 5) hx hb dJ7_fill_031fb_17 (by decide) ?_
      exact hY5 (x4, upd w_a0 l2.toNatClampNeg (vp_nar .byte p1)) h H locs ls (hP.sub [0] rfl) (hD.sub [0] (by decide) rfl) hS (lv_sub hl [1, 2, 0, 3] rfl)
  obtain ⟨H, hH⟩ : ∃ H, H = s.heap := ⟨_, rfl⟩
  obtain ⟨locs, hlo⟩ : ∃ z : List Loc, z = [] := ⟨_, rfl⟩
  have hS0 := hS
  rw [← hH] at hP ⊢
  rw [← hlo]
  replace hS : va_S A s.heap H locs := by rw [hH, hlo]; exact hS0
  refine lv_iconst (v := 0) hx hb dJ7_fill_031fb_0 (by decide) ?_
  refine lv_istore_n (lv' := [(2, .int 0), (0, .ref h_a0), (1, .int p1)]) hx hb dJ7_fill_031fb_1 rfl hl (by decide) rfl (fun ls hl => ?_)
  refine lv_aload_n hx hb dJ7_fill_031fb_2 rfl (lv_at hl 1 rfl) ?_
  refine va_alen (v := nI n_a0) hx hb hK hP 0 2 rfl rfl rfl dJ7_fill_031fb_3 ?_
  refine lv_topi (fun x1 ex1 => ?_)
  replace h := h x1 ex1
  refine lv_istore_n (lv' := [(3, .int x1), (2, .int 0), (0, .ref h_a0), (1, .int p1)]) hx hb dJ7_fill_031fb_4 rfl hl (by decide) rfl (fun ls hl => ?_)
  exact L5 x1 (0, v_a0) h H locs ls (hP.sub [0] rfl) (hD.sub [0] (by decide) rfl) hS (lv_sub hl [2, 3, 1, 0] rfl)
