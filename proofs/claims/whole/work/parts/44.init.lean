/-! own: the beginning -/
theorem O_init : Ob_init Iv := by
  unfold Ob_init pX8_init pX5_init
  refine s_reset (c := 2) (by omega) (fun f' hf => ?_)
  unfold pX2_init_5000 pX6_init_5000
  refine sx_begin (n := 313) (by omega) (fun w' hw => ?_)
  unfold pX7_init pX3_init pX2_init_200 pX6_init_200
  refine sx_begin (n := 13) (by omega) (fun w2 hw2 => ?_)
  unfold pX0_init pX4_init pX4_clear pX1_init pX9_init
  refine sm_begin (fun tape' on' ht ho => ?_)
  obtain ⟨a1, a2, a3⟩ := MI_new (j := 2) (wr := fun _ => 0) (mv := fun _ => 0) (fo := f') (has := fun _ => 0) (wri := fun _ => 0) (mov := fun _ => 0) (nex := fun _ => 0) (by omega) (by omega) hf (fun _ _ => rfl)
  exact ⟨2, _, a1, a2, a3, CR_0 (by omega) hw ht ho, 0, by omega, rfl, rfl, fun j hj => absurd hj (Nat.not_lt_zero _)⟩
