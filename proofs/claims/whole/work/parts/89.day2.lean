/-! day -/
def dyOk (w y m d : Int) : Prop := (0 ≤ w ∧ w ≤ 3) ∧ dtOk y m d
theorem c_day {K : Rs → Mm → Prop} {A : Nat → Nat} {M : Mm} {S : St} {k w y m d : Int} (h : RC A M S) (bk : -2147483648 ≤ k ∧ k ≤ 2147483647) (bw : -2147483648 ≤ w ∧ w ≤ 2147483647) (by_ : -2147483648 ≤ y ∧ y ≤ 2147483647) (bm : -2147483648 ≤ m ∧ m ≤ 2147483647) (bd : -2147483648 ≤ d ∧ d ≤ 2147483647) (h1 : ¬ usd S k → K (.inr "java/lang/IndexOutOfBoundsException") M) (h2 : usd S k → ¬ dyOk w y m d → K (.inr "java/lang/IllegalArgumentException") M)
    (h3 : ∀ (j : Nat) (b : Bool) M', k = j → j < 12 → cfU (stC S) j = true → dyOk w y m d → (b = true ↔ hwD (cfR (stC S) j) w y m d) → FC A M M' → RC A M' S → K (.inl (some (.int (bI b)))) M') : V_X6_day K M (A 0) (i32 k) (i32 w) (i32 y) (i32 m) (i32 d) := by
  unfold V_X6_day
  refine ⟨h.sta.2.1.1, s_ordOf h bk (fun q => kR_x (h1 q)) (fun j ej hj hu => kR_s ?_)⟩
  rw [show (3 : Int32) = i32 3 by decide]
  refine s_ckW bw (by decide) (fun q => kV_x (h2 (usd_j ej hj hu) (fun c => q c.1))) (fun qw => kV_i (s_ckT by_ bm bd (fun q => kV_x (h2 (usd_j ej hj hu) (fun c => q c.2))) (fun qd => kV_i ?_)))
  have hod := h.od hj hu
  obtain ⟨d1, d2, d3, ⟨⟨e0, e1, e2, e3, e4, e5, e6, e7, e8, e9⟩, d4v⟩, d5, _⟩ := hod
  refine ⟨d1, A (41 + 10 * j), d2, e1, A (42 + 10 * j), e5, e2, s_month qd.1 qd.2.1 e2 (fun rr hc => kV_i ?_)⟩
  have g := Sc.civ (a := A (41 + 10 * j)) (c := A (42 + 10 * j)) M rr e0
  obtain ⟨r, f⟩ := h.sc hj g (by rw [mI_wn _ _ (Ne.symm e0)]; exact d5)
  obtain ⟨d1', d2', d3', d4', _⟩ := r.od hj hu
  refine ⟨d1', A (41 + 10 * j), d2', d4'.1.2.1, s_rd d4' (by rw [mI_w]; exact hc) qd.1 qd.2.1 qw (fun x hx => kJ_i ?_)⟩
  have hdm := dom_b y m
  have hdd := qd.2.2
  exact s_holdsN (by omega) (kI_i ⟨bI_01 _, h3 j _ _ ej hj hu ⟨qw, qd⟩ (hx d hdd.1 hdd.2) f r⟩)
theorem m_day {K : Rs → Mm → Prop} {A : Nat → Nat} {M : Mm} {S : St} {k w y m d : Int} (h : RM A M S) (bk : -2147483648 ≤ k ∧ k ≤ 2147483647) (bw : -2147483648 ≤ w ∧ w ≤ 2147483647) (by_ : -2147483648 ≤ y ∧ y ≤ 2147483647) (bm : -2147483648 ≤ m ∧ m ≤ 2147483647) (bd : -2147483648 ≤ d ∧ d ≤ 2147483647) (h1 : ¬ usd S k → ∀ M', FM A M M' → RM A M' S → mI M' (A 11) 0 = 1 → K (.inl (some (.int (bI false)))) M') (h2 : usd S k → ¬ dyOk w y m d → ∀ M', FM A M M' → RM A M' S → mI M' (A 11) 0 = 2 → K (.inl (some (.int (bI false)))) M')
    (h3 : ∀ (j : Nat) (b : Bool) M', k = j → j < 12 → cfU (stC S) j = true → dyOk w y m d → (b = true ↔ hwD (cfR (stC S) j) w y m d) → FM A M M' → RM A M' S → mI M' (A 11) 0 = 0 → K (.inl (some (.int (bI b)))) M') : V_X7_day K M (A 11) (i32 k) (i32 w) (i32 y) (i32 m) (i32 d) := by
  have o : ob M (A 11) 7 := h.sta.2.2.2.2.1.1
  have err : ∀ (v : Int32), ¬ v ≤ 0 → (∀ M', FM A M M' → RM A M' S → mI M' (A 11) 0 = v → K (.inl (some (.int (bI false)))) M') → V_X7_day_41 K M (A 11) (i32 k) (i32 w) (i32 y) (i32 m) (i32 d) (A 11) v := by
    intro v hv hk
    unfold V_X7_day_41
    refine ⟨o, fun M2 e2 => ?_⟩
    obtain ⟨r, f, c⟩ := h.w0 v
    rw [← e2] at r f c
    exact ⟨r.sta.2.2.2.2.1.1, fun q2 => by rw [c] at q2; exact absurd q2 hv, fun _ => hk M2 f r c⟩
  unfold V_X7_day V_X7_day_36
  refine ⟨o, s7_none h bk (fun q => kI_i ⟨fun c => absurd c (by decide), fun _ => err 1 (by decide) (h1 q)⟩) (fun j ej hj hu => kI_i ⟨fun _ => ?_, fun c => absurd rfl c⟩)⟩
  refine s7_in (l := 0) (u := 3) bw.1 bw.2 (by decide) (by decide) (kI_i ?_)
  rw [bI_ne0 (decide (0 ≤ w ∧ w ≤ 3)), bI_0 (decide (0 ≤ w ∧ w ≤ 3)), decide_eq_true_iff, decide_eq_false_iff_not]
  refine ⟨fun q => err 2 (by decide) (h2 (usd_j ej hj hu) (fun c => q c.1)), fun qw => s7_isDt by_ bm bd (fun q => kI_i ⟨fun c => absurd rfl c, fun _ => err 2 (by decide) (h2 (usd_j ej hj hu) (fun c => q c.2))⟩) (fun qd => kI_i ⟨fun _ => ?_, fun c => absurd c (by decide)⟩)⟩
  unfold V_X7_day_41 V_X7_day_116
  refine ⟨o, fun M2 e2 => ?_⟩
  obtain ⟨r, f, c⟩ := h.w0 0
  rw [← e2] at r f c
  have om := r.om hj hu
  refine ⟨r.sta.2.2.2.2.1.1, fun _ => ?_, fun q2 => absurd (by rw [c]; decide) q2⟩
  have fin : ∀ b : Bool, (b = true ↔ hwD (cfR (stC S) j) w y m d) → (bI b = 0 ∨ bI b = 1) ∧ K (.inl (some (.int (bI b)))) M2 := fun b hb => ⟨bI_01 b, h3 j b M2 ej hj hu ⟨qw, qd⟩ hb f r c⟩
  rw [ej, q_0, q_1, q_2, i32_eq (by omega) (by omega) (by omega) (by omega), i32_eq (by omega) (by omega) (by omega) (by omega), i32_eq (by omega) (by omega) (by omega) (by omega)]
  refine ⟨fun q0 => ⟨fun q1 => ⟨fun q2 => ?_, fun q2 => ?_⟩, fun q1 => ?_⟩, fun q0 => ?_⟩
  · exact s7_whl om.1 hj om.2.2.1 qd.1 qd.2.1 qd.2.2 (fun b hb => kI_i (fin b (by unfold hwD; rw [if_neg q0, if_neg q1, if_neg q2]; exact hb)))
  · exact s7_both om.1 hj om.2.2.1 qd.1 qd.2.1 qd.2.2 (fun b hb => kI_i (fin b (by unfold hwD; rw [if_neg q0, if_neg q1, if_pos q2]; exact hb)))
  · exact s7_wA om.1 hj om.2.2.1 qd.1 qd.2.1 qd.2.2 (fun b hb => kI_i (fin b (by unfold hwD; rw [if_neg q0, if_pos q1]; exact hb)))
  · exact s7_dA om.1 hj om.2.2.1 qd.1 qd.2.1 qd.2.2 (fun b hb => kI_i (fin b (by unfold hwD; rw [if_pos q0]; exact hb)))
theorem l_day {G : Gx} {K : Rs → Mm → Prop} {B23 : Mm → Nat → Nat → Nat → Int32 → Prop} {A : Nat → Nat} {M : Mm} {S : St} {B : Int} {l4 : Int32} (hR : RG A M S B) (hv : Vi G l4) (nxt : ∀ M' S', RC A M' S' → RM A M' S' → SP S' (B + 1300000) → B23 M' (A 0) (A 11) (A 12) (l4 + 7)) : V_L_law_878 G K B23 M (A 0) (A 11) (A 12) l4 := by
  obtain ⟨k, ek, bk⟩ := i32_of (gX G ((l4 + (1 : Int32))).toNatClampNeg)
  obtain ⟨w, ew, bw⟩ := i32_of (gX G ((l4 + (2 : Int32))).toNatClampNeg)
  obtain ⟨y, ey, by_⟩ := i32_of (gX G ((l4 + (3 : Int32))).toNatClampNeg)
  obtain ⟨m, em, bm⟩ := i32_of (gX G ((l4 + (4 : Int32))).toNatClampNeg)
  obtain ⟨d, ed, bd⟩ := i32_of (gX G ((l4 + (5 : Int32))).toNatClampNeg)
  obtain ⟨hC, hM, hP, _⟩ := hR
  obtain ⟨v1, v2, v3, v4, v5, v6⟩ := hv
  unfold V_L_law_878 V_L_day V_L_day_22 V_L_law_980
  rw [ek, ew, ey, em, ed]
  refine ⟨v1, v2, v3, v4, v5, hC.sta.2.1.1, c_day hC bk bw by_ bm bd (fun q => kI_x (.inl ⟨rfl, kI_i ⟨v1, v2, v3, v4, v5, hC.sta.2.2.2.2.1.1, ?_⟩⟩)) (fun u q => kI_x (.inr ⟨rfl, kI_i ⟨v1, v2, v3, v4, v5, hC.sta.2.2.2.2.1.1, ?_⟩⟩)) (fun j b M' ej hj hu ok hb f r => kI_i ?_)⟩
  · exact m_day hM bk bw by_ bm bd (fun _ M' f r c => kI_i (tailB r.sta c (fun c => absurd c (by decide)) (nx7 nxt (hC.fr f.1) r hP))) (fun u => absurd u q) (fun j b M' ej hj hu => absurd (usd_j ej hj hu) q)
  · exact m_day hM bk bw by_ bm bd (fun u' => absurd u u') (fun _ _ M' f r c => kI_i (tailB r.sta c (fun c => absurd c (by decide)) (nx7 nxt (hC.fr f.1) r hP))) (fun j b M' ej hj hu ok => absurd ok q)
  · obtain ⟨hM', hC', ho⟩ := RG.out hM f r (bJ b)
    have go : ∀ (v : Int64), v = bJ b → ∀ M3, M3 = sJ M' (A 12) 0 v → RM A M3 S ∧ RC A M3 S ∧ mJ M3 (A 12) 0 = bJ b := fun v e M3 e3 => by rw [e3, e]; exact ⟨hM', hC', ho⟩
    rw [bI_ne0 b, bI_0 b]
    have fin : ∀ M3, RM A M3 S → RC A M3 S → mJ M3 (A 12) 0 = bJ b → ∀ (j' : Nat) (b' : Bool) M2, k = j' → j' < 12 → cfU (stC S) j' = true → dyOk w y m d → (b' = true ↔ hwD (cfR (stC S) j') w y m d) → FM A M3 M2 → b' = b ∧ mJ M2 (A 12) 0 = bJ b' := by
      intro M3 _ _ o3 j' b' M2 ej' hj' hu' _ hb' f2
      have e : j' = j := by omega
      subst e
      have eb : b' = b := by
        rcases b with _ | _ <;> rcases b' with _ | _ <;> simp_all
      exact ⟨eb, by rw [f2.2, o3, eb]⟩
    refine ⟨fun q => outK r.sta ?_, fun q => outK r.sta ?_⟩
    · obtain ⟨a1, a2, a3⟩ := go 0 (by rw [q]; rfl) _ rfl
      exact kI_i ⟨v1, v2, v3, v4, v5, a2.sta.2.2.2.2.1.1, m_day a1 bk bw by_ bm bd (fun u => absurd (usd_j ej hj hu) u) (fun _ q => absurd ok q) (fun j' b' M2 ej' hj' hu' ok' hb' f2 r2 c2 => kI_i (tailB r2.sta c2 (fun _ => (fin _ a1 a2 a3 j' b' M2 ej' hj' hu' ok' hb' f2).2) (nx7 nxt (a2.fr f2.1) r2 hP)))⟩
    · obtain ⟨a1, a2, a3⟩ := go 1 (by rw [q]; rfl) _ rfl
      exact kI_i ⟨v1, v2, v3, v4, v5, a2.sta.2.2.2.2.1.1, m_day a1 bk bw by_ bm bd (fun u => absurd (usd_j ej hj hu) u) (fun _ q => absurd ok q) (fun j' b' M2 ej' hj' hu' ok' hb' f2 r2 c2 => kI_i (tailB r2.sta c2 (fun _ => (fin _ a1 a2 a3 j' b' M2 ej' hj' hu' ok' hb' f2).2) (nx7 nxt (a2.fr f2.1) r2 hP)))⟩
