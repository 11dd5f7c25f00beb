/-! the law's loop -/
theorem lw_loop {G : Gx} {A : Nat → Nat} (hG : gS G 201 ≤ 3584) : ∀ (y i : Nat) (M : Mm) (S : St), i + y = 513 → RC A M S → RM A M S → SP S (1300000 * (i : Int)) → V_L_law_23 G KL (y + 1) M (A 0) (A 11) (A 12) (i32 (7 * (i : Int))) := by
  have eL : Int32.ofNat (gS G 201) = i32 ((gS G 201 : Nat) : Int) := i32_of_nat _
  intro y
  induction y with
  | zero =>
    intro i M S e hC hM hP
    unfold V_L_law_23
    rw [eL, q_7, i32_sub, i32_lt (by omega) (by omega) (by omega) (by omega)]
    exact ⟨fun _ => rfl, fun q => absurd (by omega) q⟩
  | succ y ih =>
    intro i M S e hC hM hP
    unfold V_L_law_23
    rw [eL, q_7, i32_sub, i32_lt (by omega) (by omega) (by omega) (by omega)]
    refine ⟨fun _ => rfl, fun q => ⟨i32_in (by omega) (by omega) (by omega), ?_⟩⟩
    have hR : RG A M S (1300000 * (i : Int)) := ⟨hC, hM, hP, by omega⟩
    have hv : Vi G (i32 (7 * (i : Int))) := by
      unfold Vi
      rw [q_1, q_2, q_3, q_4, q_5, q_6, i32_add, i32_add, i32_add, i32_add, i32_add, i32_add]
      exact ⟨i32_in (by omega) (by omega) (by omega), i32_in (by omega) (by omega) (by omega), i32_in (by omega) (by omega) (by omega), i32_in (by omega) (by omega) (by omega), i32_in (by omega) (by omega) (by omega), i32_in (by omega) (by omega) (by omega)⟩
    have nxt : ∀ M' S', RC A M' S' → RM A M' S' → SP S' (1300000 * (i : Int) + 1300000) → (fun M l1 l2 l3 l4 => V_L_law_23 G KL (y + 1) M l1 l2 l3 l4) M' (A 0) (A 11) (A 12) (i32 (7 * (i : Int)) + 7) := fun M' S' h1 h2 h3 => by
      show V_L_law_23 G KL (y + 1) M' (A 0) (A 11) (A 12) (i32 (7 * (i : Int)) + 7)
      rw [q_7, i32_add, show 7 * (i : Int) + 7 = 7 * ((i + 1 : Nat) : Int) by omega]
      exact ih (i + 1) M' S' (by omega) h1 h2 (by rw [show 1300000 * ((i + 1 : Nat) : Int) = 1300000 * (i : Int) + 1300000 by omega]; exact h3)
    exact ⟨fun _ => nx7 nxt hC hM hP, fun _ => l_zone hR hv nxt, fun _ => l_change hR hv nxt, fun _ => l_civil hR hv nxt, fun _ => l_minute hR hv nxt, fun _ => l_feed hR hv nxt, fun _ => l_order hR hv nxt, fun _ => l_fault hR nxt, fun _ => l_cancel hR hv nxt, fun _ => l_told hR hv nxt, fun _ => l_field hR hv nxt, fun _ => l_day hR hv nxt, fun _ => l_match hR hv nxt, fun _ => l_next hR hv nxt, fun _ => l_before hR hv nxt, fun _ => l_betw hR hv nxt, fun _ => l_put hR hv nxt, fun _ => l_pass hR hv nxt, fun _ => l_sleep hR nxt, fun _ => l_wake hR nxt, fun _ => l_log hR hv nxt, fun _ => l_tear hR nxt, fun _ => l_count hR hv nxt, trivial⟩
set_option maxRecDepth 16384 in
theorem law_vc (G : Gx) (hG : gS G 201 ≤ 3584) : V_L_law G KL M0 := by
  unfold V_L_law
  intro w1 h1 M1 e1
  have R0 : Rep M0 [] := ⟨List.Pairwise.nil, rfl, fun j hj => absurd hj (Nat.not_lt_zero _)⟩
  obtain ⟨R1, n1, f1⟩ := R0.new h1 e1
  refine s_x6 R1 n1 (fun M2 R2 f2 => kV_i (fun w3 h3 M3 e3 => ?_))
  obtain ⟨R3, n3, f3⟩ := R2.new h3 e3
  rw [am_s_e.1] at n3
  refine s_x7 R3 n3 (fun M4 R4 f4 => kV_i (fun w5 h5 M5 e5 => ?_))
  obtain ⟨R5, n5, f5⟩ := R4.new h5 e5
  rw [am_s_e.2.2.1] at n5
  rw [am_s_e.2.2.2] at R5
  have a0 : A0 M5 0 = w1 := (A0_e (n := 0) rfl).trans (n1.pf (f2.trans (f3.trans (f4.trans f5)))).2
  have a11 : A0 M5 11 = w3 := (A0_e (n := 147) rfl).trans (n3.pf (f4.trans f5)).2
  have a12 : A0 M5 12 = w5 := (A0_e (n := 181) rfl).trans n5.2
  refine ⟨514, by decide, ?_⟩
  have := lw_loop (A := A0 M5) hG 513 0 M5 S0 (by omega) (S0_rc R5) (S0_rm R5) S0_sp
  rw [a0, a11, a12] at this
  exact this
