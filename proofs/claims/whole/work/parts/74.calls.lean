/-! rows for the calls -/
theorem kI_x {f : Int32 → Mm → Prop} {t : String → Mm → Prop} {X : String} {M : Mm} (h : t X M) : kI f t (.inr X) M := h
theorem kJ_x {f : Int64 → Mm → Prop} {t : String → Mm → Prop} {X : String} {M : Mm} (h : t X M) : kJ f t (.inr X) M := h
theorem kV_x {f : Mm → Prop} {t : String → Mm → Prop} {X : String} {M : Mm} (h : t X M) : kV f t (.inr X) M := h
theorem kR_x {f : Nat → Mm → Prop} {t : String → Mm → Prop} {X : String} {M : Mm} (h : t X M) : kR f t (.inr X) M := h
theorem kR_s {f : Nat → Mm → Prop} {t : String → Mm → Prop} {b : Nat} {M : Mm} (h : f b M) : kR f t (.inl (some (va_rf (some b)))) M := h
def RG (A : Nat → Nat) (M : Mm) (S : St) (B : Int) : Prop := RC A M S ∧ RM A M S ∧ SP S B ∧ B ≤ 900000000
theorem RC.sta {A : Nat → Nat} {M : Mm} {S : St} (h : RC A M S) : Sta A M := h.1.1
theorem RM.sta {A : Nat → Nat} {M : Mm} {S : St} (h : RM A M S) : Sta A M := h.1.1
/-- after a call: the code thrown, and what was answered -/
theorem tail {A : Nat → Nat} {M : Mm} {co : Int32} {v : Int64} {B F : Mm → Prop} (hs : Sta A M) (h0 : mI M (A 11) 0 = co) (hv : co = 0 → mJ M (A 12) 0 = v) (h : B M) :
    ob M (A 11) 7 ∧ V_X7_thrown (kI (fun r10 M9 => ((r10 = co → ((¬ co = 0 → B M9) ∧ (co = 0 → (ob M9 (A 12) 10 ∧ (vp_in (0 : Int32) (mN M9 (A 12)) ∧ (((lg_cmp (mJ M9 (A 12) ((0 : Int32)).toNatClampNeg) v) = 0 → B M9) ∧ (¬ (lg_cmp (mJ M9 (A 12) ((0 : Int32)).toNatClampNeg) v) = 0 → F M9))))))) ∧ (¬ r10 = co → F M9))) (fun _ _ => False)) M (A 11) := by
  unfold V_X7_thrown
  refine ⟨hs.2.2.2.2.1.1, hs.2.2.2.2.1.1, kI_i ⟨fun _ => ⟨fun _ => h, fun q => ⟨hs.2.2.2.2.2.1, ?_, fun _ => h, fun q2 => ?_⟩⟩, fun q => absurd h0 q⟩⟩
  · rw [hs.2.2.2.2.2.2, q_0]; exact i32_in (by omega) (by omega) (by omega)
  · refine absurd ?_ q2
    rw [show ((0 : Int32)).toNatClampNeg = 0 by decide, hv q, lg_cmp_eq]
theorem tailV {A : Nat → Nat} {M : Mm} {co : Int32} {B F : Mm → Prop} (hs : Sta A M) (h0 : mI M (A 11) 0 = co) (h : B M) :
    ob M (A 11) 7 ∧ V_X7_thrown (kI (fun r10 M9 => ((r10 = co → B M9) ∧ (¬ r10 = co → F M9))) (fun _ _ => False)) M (A 11) := by
  unfold V_X7_thrown
  exact ⟨hs.2.2.2.2.1.1, hs.2.2.2.2.1.1, kI_i ⟨fun _ => h, fun q => absurd h0 q⟩⟩
/-- the answer goes out -/
theorem outK {A : Nat → Nat} {M : Mm} {v : Int64} {F : Mm → Prop} (hs : Sta A M) (h : F (sJ M (A 12) 0 v)) : ob M (A 12) 10 ∧ (vp_in (0 : Int32) (mN M (A 12)) ∧ ∀ M8, M8 = sJ M (A 12) ((0 : Int32)).toNatClampNeg v → F M8) := by
  refine ⟨hs.2.2.2.2.2.1, ?_, fun M8 e8 => ?_⟩
  · rw [hs.2.2.2.2.2.2, q_0]; exact i32_in (by omega) (by omega) (by omega)
  · rw [e8]; exact h
def usd (S : St) (k : Int) : Prop := 0 ≤ k ∧ k < 12 ∧ cfU (stC S) k.toNat = true
theorem s_ordOf {K : Rs → Mm → Prop} {A : Nat → Nat} {M : Mm} {S : St} {k : Int} (h : RC A M S) (hb : -2147483648 ≤ k ∧ k ≤ 2147483647) (h0 : ¬ usd S k → K (.inr "java/lang/IndexOutOfBoundsException") M) (h1 : ∀ j : Nat, k = j → j < 12 → cfU (stC S) j = true → K (.inl (some (va_rf (some (A (40 + 10 * j)))))) M) : V_X6_orderOf K M (A 0) (i32 k) := by
  have hs := h.sta
  unfold V_X6_orderOf V_X6_orderOf_22
  rw [q_0, q_12, i32_lt (by omega) (by omega) (by omega) (by omega), i32_le (by omega) (by omega) (by omega) (by omega)]
  refine ⟨fun q => h0 (fun c => by have := c.1; omega), fun q => ⟨fun q2 => h0 (fun c => by have := c.2.1; omega), fun q2 => ⟨hs.2.1.1, A 3, hs.2.1.2.1.2.2.1, hs.2.1.2.2.2.2.1.1, ?_⟩⟩⟩
  obtain ⟨j, ej⟩ : ∃ j : Nat, k = j := ⟨k.toNat, by omega⟩
  subst ej
  have hj : j < 12 := by omega
  obtain ⟨s1, s2, s3, s4, s5, s6, s7, s8, s9, s10⟩ := hs.2.2.2.1 j hj
  have vi : vp_in (i32 (j : Nat)) (mN M (A 3)) := by rw [hs.2.1.2.2.2.2.1.2]; exact i32_in (by omega) (by omega) (by omega)
  have ep : mP M (A 3) ((i32 (j : Nat)).toNatClampNeg) = some (A (40 + 10 * j)) := by rw [i32_clamp (by omega) (by omega), Int.toNat_natCast]; exact s10
  refine ⟨vi, A (40 + 10 * j), ep, s1, ?_⟩
  rw [(h.1.2.2.2.2 j hj).1, ← q_0, bI_ne0 (cfU (stC S) j), bI_0 (cfU (stC S) j)]
  exact ⟨fun q => ⟨A 3, hs.2.1.2.1.2.2.1, hs.2.1.2.2.2.2.1.1, vi, A (40 + 10 * j), ep, h1 j rfl hj q⟩, fun q => h0 (fun c => by have := c.2.2; rw [Int.toNat_natCast, q] at this; exact absurd this (by decide))⟩
theorem s_znOf {K : Rs → Mm → Prop} {A : Nat → Nat} {M : Mm} {z : Int} (hs : Sta A M) (hb : -2147483648 ≤ z ∧ z ≤ 2147483647) (h0 : ¬ (0 ≤ z ∧ z ≤ 3) → K (.inr "java/lang/IndexOutOfBoundsException") M) (h1 : ∀ j : Nat, z = j → j < 4 → K (.inl (some (va_rf (some (A (20 + 3 * j)))))) M) : V_X6_zoneOf K M (A 0) (i32 z) := by
  unfold V_X6_zoneOf V_X6_zoneOf_9
  rw [q_0, show (4 : Int32) = i32 4 by decide, i32_lt (by omega) (by omega) (by omega) (by omega), i32_lt (by omega) (by omega) (by omega) (by omega)]
  refine ⟨fun q => h0 (by omega), fun q => ⟨fun q2 => ⟨hs.2.1.1, A 2, hs.2.1.2.1.2.1, hs.2.1.2.2.2.1.1, ?_⟩, fun q2 => h0 (by omega)⟩⟩
  obtain ⟨j, ej⟩ : ∃ j : Nat, z = j := ⟨z.toNat, by omega⟩
  subst ej
  have hj : j < 4 := by omega
  refine ⟨by rw [hs.2.1.2.2.2.1.2]; exact i32_in (by omega) (by omega) (by omega), A (20 + 3 * j), ?_, h1 j rfl hj⟩
  rw [i32_clamp (by omega) (by omega), Int.toNat_natCast]
  exact (hs.2.2.1 j hj).2.2.2.2.2.2.2
theorem s_ckM {K : Rs → Mm → Prop} {M : Mm} {t : Int} (hb : -2147483648 ≤ t ∧ t ≤ 2147483647) (h0 : ¬ (0 ≤ t ∧ t ≤ 157785119) → K (.inr "java/lang/IllegalArgumentException") M) (h1 : 0 ≤ t ∧ t ≤ 157785119 → K (.inl none) M) : V_X6_checkMinute K M (i32 t) := by
  unfold V_X6_checkMinute V_X6_checkMinute_10
  rw [q_0, show (157785119 : Int32) = i32 157785119 by decide, i32_lt (by omega) (by omega) (by omega) (by omega), i32_le (by omega) (by omega) (by omega) (by omega)]
  exact ⟨fun q => h0 (by omega), fun q => ⟨fun q2 => h1 (by omega), fun q2 => h0 (by omega)⟩⟩
theorem s_ckD {K : Rs → Mm → Prop} {M : Mm} {t : Int} (hb : -2147483648 ≤ t ∧ t ≤ 2147483647) (h0 : ¬ (0 ≤ t ∧ t ≤ 20000) → K (.inr "java/lang/IllegalArgumentException") M) (h1 : 0 ≤ t ∧ t ≤ 20000 → K (.inl none) M) : V_X6_checkDays K M (i32 t) := by
  unfold V_X6_checkDays V_X6_checkDays_11
  rw [q_0, show (20000 : Int32) = i32 20000 by decide, i32_lt (by omega) (by omega) (by omega) (by omega), i32_le (by omega) (by omega) (by omega) (by omega)]
  exact ⟨fun q => h0 (by omega), fun q => ⟨fun q2 => h1 (by omega), fun q2 => h0 (by omega)⟩⟩
theorem s_ckO {K : Rs → Mm → Prop} {M : Mm} {t : Int} (hb : -2147483648 ≤ t ∧ t ≤ 2147483647) (h0 : ¬ (-1439 ≤ t ∧ t ≤ 1439) → K (.inr "java/lang/IllegalArgumentException") M) (h1 : -1439 ≤ t ∧ t ≤ 1439 → K (.inl none) M) : V_X6_checkOffset K M (i32 t) := by
  unfold V_X6_checkOffset V_X6_checkOffset_14
  rw [show (-1439 : Int32) = i32 (-1439) by decide, show (1439 : Int32) = i32 1439 by decide, i32_lt (by omega) (by omega) (by omega) (by omega), i32_le (by omega) (by omega) (by omega) (by omega)]
  exact ⟨fun q => h0 (by omega), fun q => ⟨fun q2 => h1 (by omega), fun q2 => h0 (by omega)⟩⟩
theorem s_ckW {K : Rs → Mm → Prop} {M : Mm} {t u : Int} (hb : -2147483648 ≤ t ∧ t ≤ 2147483647) (hu : 0 ≤ u ∧ u ≤ 1000) (h0 : ¬ (0 ≤ t ∧ t ≤ u) → K (.inr "java/lang/IllegalArgumentException") M) (h1 : 0 ≤ t ∧ t ≤ u → K (.inl none) M) : V_X6_checkWhat K M (i32 t) (i32 u) := by
  unfold V_X6_checkWhat V_X6_checkWhat_9
  rw [q_0, i32_lt (by omega) (by omega) (by omega) (by omega), i32_le (by omega) (by omega) (by omega) (by omega)]
  exact ⟨fun q => h0 (by omega), fun q => ⟨fun q2 => h1 (by omega), fun q2 => h0 (by omega)⟩⟩
/-- an order that isn't there -/
theorem s7_none {K : Rs → Mm → Prop} {A : Nat → Nat} {M : Mm} {S : St} {k : Int} (h : RM A M S) (hb : -2147483648 ≤ k ∧ k ≤ 2147483647) (h0 : ¬ usd S k → K (.inl (some (.int 1))) M) (h1 : ∀ j : Nat, k = j → j < 12 → cfU (stC S) j = true → K (.inl (some (.int 0))) M) : V_X7_none K M (A 11) (i32 k) := by
  have md := h.sta.2.2.2.2.1
  have p26 := md.p 26 11 12 (by decide)
  unfold V_X7_none V_X7_none_21 V_X7_none_26
  refine s7_in (l := 0) (u := 11) hb.1 hb.2 (by decide) (by decide) (kI_i ?_)
  rw [bI_ne0 (decide (0 ≤ k ∧ k ≤ 11)), bI_0 (decide (0 ≤ k ∧ k ≤ 11)), decide_eq_true_iff, decide_eq_false_iff_not]
  refine ⟨fun q => ⟨.inr rfl, h0 (fun c => by have := c.1; have := c.2.1; omega)⟩, fun q => ⟨md.1, A 226, p26.1, p26.2.1, ?_⟩⟩
  obtain ⟨j, ej⟩ : ∃ j : Nat, k = j := ⟨k.toNat, by omega⟩
  subst ej
  have hj : j < 12 := by omega
  refine ⟨by show vp_in _ (mN M (A (200 + 26))); rw [p26.2.2.1]; exact i32_in (by omega) (by omega) (by omega), ?_⟩
  rw [i32_clamp (by omega) (by omega), Int.toNat_natCast, (h.1.2.2.2.2 j hj).1, bI_ne0 (cfU (stC S) j), bI_0 (cfU (stC S) j)]
  exact ⟨fun q => ⟨.inl rfl, h1 j rfl hj q⟩, fun q => ⟨.inr rfl, h0 (fun c => by have := c.2.2; rw [Int.toNat_natCast, q] at this; exact absurd this (by decide))⟩⟩
/-- the code of a call -/
theorem RM.w0 {A : Nat → Nat} {M : Mm} {S : St} (h : RM A M S) (v : Int32) : RM A (sI M (A 11) 0 v) S ∧ FM A M (sI M (A 11) 0 v) ∧ mI (sI M (A 11) 0 v) (A 11) 0 = v := by
  have hs := h.sta
  have r : ∀ i, i ≠ 11 → mI (sI M (A 11) 0 v) (A i) = mI M (A i) := fun i c => by rw [sI_w, mI_wn _ _ (hs.ne c)]
  have p : ∀ p, p ≠ 0 → mI (sI M (A 11) 0 v) (A 11) p = mI M (A 11) p := fun p c => by rw [sI_w, mI_w, va_up_ne _ _ c]
  refine ⟨?_, by rw [sI_w]; exact FM.wm hs (.inl rfl) _, by rw [sI_w, mI_w, va_up_self]⟩
  obtain ⟨h1, h2, h3, h4, h5, h6, h7, h8⟩ := h
  exact ⟨h1.x (by decide) (by decide) (by decide), fun k hk hu => by rw [r 228 (by decide), r 229 (by decide)]; exact h2 k hk hu, fun z hz => (h3 z hz).cg (fun i hi => r i (by omega)), by rw [p 54 (by decide)]; exact h4, by rw [p 53 (by decide)]; exact h5, by rw [p 11 (by decide)]; exact h6, fun i hi => by rw [r 210 (by decide)]; exact h7 i hi, by rw [p 15 (by decide)]; exact h8⟩
theorem s7_wrong {K : Rs → Mm → Prop} {A : Nat → Nat} {M : Mm} {S : St} {v : Int32} (h : RM A M S) (hk : ∀ M', FM A M M' → RM A M' S → mI M' (A 11) 0 = v → K (.inl (some (.int 0))) M') : V_X7_wrong K M (A 11) v := by
  unfold V_X7_wrong
  refine ⟨h.sta.2.2.2.2.1.1, fun M2 e2 => ?_⟩
  obtain ⟨a, b, c⟩ := h.w0 v
  rw [e2]
  exact hk _ b a c
/-- the model's scratch -/
theorem RM.sm {A : Nat → Nat} {M M' : Mm} {S : St} (h : RM A M S) (g : Sm (A 11) M M') : RM A M' S ∧ FM A M M' ∧ mI M' (A 11) 0 = mI M (A 11) 0 := by
  have hs := h.sta
  obtain ⟨h1, h2, h3, h4, h5, h6, h7, h8⟩ := h
  obtain ⟨w, f⟩ := h1.sm g
  have r : ∀ i, i ≠ 11 → mI M' (A i) = mI M (A i) := fun i c => g.2.2.2.2.2.1 _ (hs.ne c)
  have p : ∀ p, scr p = false → mI M' (A 11) p = mI M (A 11) p := g.2.2.2.2.2.2
  exact ⟨⟨w, f.wy h2, fun z hz => (h3 z hz).cg (fun i hi => r i (by omega)), by rw [p 54 (by decide)]; exact h4, by rw [p 53 (by decide)]; exact h5, by rw [p 11 (by decide)]; exact h6, fun i hi => by rw [r 210 (by decide)]; exact h7 i hi, by rw [p 15 (by decide)]; exact h8⟩, f.fm, p 0 (by decide)⟩
/-- the class's scratch: a rule's -/
theorem RC.sc {A : Nat → Nat} {M M' : Mm} {S : St} {k : Nat} (h : RC A M S) (hk : k < 12) (g : Sc (A (41 + 10 * k)) (A (42 + 10 * k)) M M') (hkn : Kn (cfR (stC S) k) (mI M' (A (41 + 10 * k)))) : RC A M' S ∧ FC A M M' := by
  have hs := h.sta
  obtain ⟨h1, h2, h3, h4, h5, h6, h7, h8, h9⟩ := h
  obtain ⟨w, f⟩ := h1.sc hk g hkn
  have r : ∀ i, i ≠ 41 + 10 * k → i ≠ 42 + 10 * k → mI M' (A i) = mI M (A i) := fun i c1 c2 => g.2.2.2.2.2.1 _ (hs.ne c1) (hs.ne c2)
  have ob' : ∀ a q, ob M a q → ob M' a q := fun a q h => by unfold ob at *; rw [g.1, g.2.1]; exact h
  refine ⟨⟨w, f.wy h2, fun z hz => ?_, by rw [r 0 (by omega) (by omega)]; exact h4, by rw [r 0 (by omega) (by omega)]; exact h5, by rw [r 4 (by omega) (by omega)]; exact h6, fun i hi => by rw [r 5 (by omega) (by omega)]; exact h7 i hi, by rw [r 0 (by omega) (by omega)]; exact h8, fun j hj hu => by rw [r _ (by omega) (by omega)]; exact h9 j hj hu⟩, f.fc⟩
  obtain ⟨z1, z2, z3, z4, z5, z6, z7, z8, z9, z10⟩ := h3 z hz
  exact ⟨ob' _ _ z1, ob' _ _ z2, ob' _ _ z3, by rw [g.2.2.2.2.1]; exact z4, by rw [g.2.2.2.2.1]; exact z5, by rw [g.2.2.1]; exact z6, by rw [g.2.2.1]; exact z7, by rw [r _ (by omega) (by omega)]; exact z8, by rw [r _ (by omega) (by omega)]; exact z9, by rw [r _ (by omega) (by omega)]; exact z10⟩
/-- the class's answer is out -/
theorem RG.out {A : Nat → Nat} {M M' : Mm} {S S' : St} (h : RM A M S) (f : FC A M M') (h' : RC A M' S') (v : Int64) : RM A (sJ M' (A 12) 0 v) S ∧ RC A (sJ M' (A 12) 0 v) S' ∧ mJ (sJ M' (A 12) 0 v) (A 12) 0 = v := by
  have r := h'.fr (FQ.out h'.sta v)
  exact ⟨h.fr (f.trans (FC.out h'.sta v)) r.sta, r, by rw [sJ_w, mJ_w, va_up_self]⟩
def Vi (G : Gx) (l4 : Int32) : Prop := vp_in (l4 + (1 : Int32)) (gS G 201) ∧ vp_in (l4 + (2 : Int32)) (gS G 201) ∧ vp_in (l4 + (3 : Int32)) (gS G 201) ∧ vp_in (l4 + (4 : Int32)) (gS G 201) ∧ vp_in (l4 + (5 : Int32)) (gS G 201) ∧ vp_in (l4 + (6 : Int32)) (gS G 201)
