/-! both at once -/
/-- orders, ways, graces, desk, clock, asleep since, awake, tape, its length, fault told -/
abbrev St : Type := Cf × (Nat → Int) × (Nat → Int) × Dk × Int × Int × Bool × (Nat → Int) × Nat × Int32
def stC (S : St) : Cf := S.1
def stY (S : St) : Nat → Int := S.2.1
def stG (S : St) : Nat → Int := S.2.2.1
def stD (S : St) : Dk := S.2.2.2.1
def stN (S : St) : Int := S.2.2.2.2.1
def stS (S : St) : Int := S.2.2.2.2.2.1
def stA (S : St) : Bool := S.2.2.2.2.2.2.1
def stTp (S : St) : Nat → Int := S.2.2.2.2.2.2.2.1
def stL (S : St) : Nat := S.2.2.2.2.2.2.2.2.1
def stF (S : St) : Int32 := S.2.2.2.2.2.2.2.2.2
def RC (A : Nat → Nat) (M : Mm) (S : St) : Prop := CW A M (stC S) (stD S) (stN S) ∧ WyC A M (stC S) (stY S) (stG S) ∧ (∀ z, z < 4 → ZoM M (A (20 + 3 * z)) (A (21 + 3 * z)) (A (22 + 3 * z)) (cfO (stC S) z)) ∧ mI M (A 0) 7 = i32 (stS S) ∧ mI M (A 0) 8 = bI (stA S) ∧ mI M (A 4) 1 = i32 (stL S : Nat) ∧ (∀ i, i < stL S → mI M (A 5) i = i32 (stTp S i)) ∧ mI M (A 0) 5 = stF S ∧ (∀ k, k < 12 → cfU (stC S) k = true → mI M (A (40 + 10 * k)) 6 = i32 (cfZ (stC S) k : Nat))
def RM (A : Nat → Nat) (M : Mm) (S : St) : Prop := MW A M (stC S) (stD S) (stN S) ∧ WyM A M (stC S) (stY S) (stG S) ∧ (∀ z, z < 4 → MoZ M (fun p => A (200 + p)) z (cfO (stC S) z)) ∧ mI M (A 11) 54 = i32 (stS S) ∧ mI M (A 11) 53 = bI (!stA S) ∧ mI M (A 11) 11 = i32 (stL S : Nat) ∧ (∀ i, i < stL S → mI M (A 210) i &&& 255 = i32 (stTp S i)) ∧ mI M (A 11) 15 = stF S
def SP (S : St) (B : Int) : Prop := tkOk (cfT (stC S)) ∧ wgOk (stC S) (stY S) (stG S) ∧ c1 (stC S) ∧ Iv (stN S) (cfU (stC S)) (cfT (stC S)) (stD S) ∧ (stA S = true → awD (stN S) (stD S)) ∧ (0 ≤ stN S ∧ stN S ≤ 157785119) ∧ (0 ≤ stS S ∧ stS S ≤ 157785119 ∧ (stA S = false → stS S ≤ stN S)) ∧ (∀ z, z < 4 → wfZ (cfO (stC S) z)) ∧ isS (stTp S) (stL S) ∧ dC (stD S) ≤ B
theorem SP.le {S : St} {B B' : Int} (h : SP S B) (hB : B ≤ B') : SP S B' := by
  obtain ⟨h1, h2, h3, h4, h5, h6, h7, h8, h9, h10⟩ := h
  exact ⟨h1, h2, h3, h4, h5, h6, h7, h8, h9, by omega⟩
/-- what the class's calls leave as it is -/
def FC (A : Nat → Nat) (M M' : Mm) : Prop := mL M' = mL M ∧ mK M' = mK M ∧ mN M' = mN M ∧ (∀ i, i = 11 ∨ 200 ≤ i → mI M' (A i) = mI M (A i) ∧ mJ M' (A i) = mJ M (A i))
/-- what the model's calls leave as it is -/
def FQ (A : Nat → Nat) (M M' : Mm) : Prop := mL M' = mL M ∧ mK M' = mK M ∧ mN M' = mN M ∧ mP M' = mP M ∧ (∀ i, i ≠ 11 → i < 200 → mI M' (A i) = mI M (A i)) ∧ (∀ i, 40 ≤ i → i < 200 → mJ M' (A i) = mJ M (A i))
def FM (A : Nat → Nat) (M M' : Mm) : Prop := FQ A M M' ∧ mJ M' (A 12) = mJ M (A 12)
theorem FC.refl (A : Nat → Nat) (M : Mm) : FC A M M := ⟨rfl, rfl, rfl, fun _ _ => ⟨rfl, rfl⟩⟩
theorem FC.trans {A : Nat → Nat} {M M1 M2 : Mm} (h : FC A M M1) (h' : FC A M1 M2) : FC A M M2 := ⟨h'.1.trans h.1, h'.2.1.trans h.2.1, h'.2.2.1.trans h.2.2.1, fun i hi => ⟨(h'.2.2.2 i hi).1.trans (h.2.2.2 i hi).1, (h'.2.2.2 i hi).2.trans (h.2.2.2 i hi).2⟩⟩
theorem FQ.refl (A : Nat → Nat) (M : Mm) : FQ A M M := ⟨rfl, rfl, rfl, rfl, fun _ _ _ => rfl, fun _ _ _ => rfl⟩
theorem FQ.trans {A : Nat → Nat} {M M1 M2 : Mm} (h : FQ A M M1) (h' : FQ A M1 M2) : FQ A M M2 := ⟨h'.1.trans h.1, h'.2.1.trans h.2.1, h'.2.2.1.trans h.2.2.1, h'.2.2.2.1.trans h.2.2.2.1, fun i c1 c2 => (h'.2.2.2.2.1 i c1 c2).trans (h.2.2.2.2.1 i c1 c2), fun i c1 c2 => (h'.2.2.2.2.2 i c1 c2).trans (h.2.2.2.2.2 i c1 c2)⟩
theorem FM.refl (A : Nat → Nat) (M : Mm) : FM A M M := ⟨FQ.refl A M, rfl⟩
theorem FM.trans {A : Nat → Nat} {M M1 M2 : Mm} (h : FM A M M1) (h' : FM A M1 M2) : FM A M M2 := ⟨h.1.trans h'.1, h'.2.trans h.2⟩
theorem Fw.fc {A : Nat → Nat} {M M' : Mm} (h : Fw A M M') : FC A M M' := ⟨h.1, h.2.1, h.2.2.1, fun i hi => ⟨h.2.2.2.2.2.1 i (by unfold wx dkx; rw [Bool.or_eq_false_iff, decide_eq_false_iff_not, decide_eq_false_iff_not]; omega), by rw [h.2.2.2.1]⟩⟩
theorem Gm.fm {A : Nat → Nat} {M M' : Mm} (h : Gm A M M') : FM A M M' := ⟨⟨h.1, h.2.1, h.2.2.1, h.2.2.2.2.1, fun i c1 c2 => h.2.2.2.2.2.1 i c1 (by unfold dmx; rw [decide_eq_false_iff_not]; omega), fun i _ _ => by rw [h.2.2.2.1]⟩, by rw [h.2.2.2.1]⟩
/-- writes of the model in its object and arrays -/
theorem FM.wm {A : Nat → Nat} {M : Mm} (hs : Sta A M) {i : Nat} (hi : i = 11 ∨ 200 ≤ i) (r : Nat → Int32) : FM A M (wI M (A i) r) := ⟨⟨rfl, rfl, rfl, rfl, fun j c1 c2 => mI_wn _ _ (hs.ne (by omega)), fun _ _ _ => rfl⟩, rfl⟩
theorem FC.wx {A : Nat → Nat} {M : Mm} (hs : Sta A M) {i : Nat} (hi : i ≠ 11 ∧ i < 200) (r : Nat → Int32) : FC A M (wI M (A i) r) := ⟨rfl, rfl, rfl, fun j c1 => ⟨mI_wn _ _ (hs.ne (by omega)), rfl⟩⟩
theorem FC.out {A : Nat → Nat} {M : Mm} (hs : Sta A M) (v : Int64) : FC A M (sJ M (A 12) 0 v) := ⟨rfl, rfl, rfl, fun j c1 => ⟨rfl, by rw [sJ_w, mJ_wn _ _ (hs.ne (by omega))]⟩⟩
theorem FQ.out {A : Nat → Nat} {M : Mm} (hs : Sta A M) (v : Int64) : FQ A M (sJ M (A 12) 0 v) := ⟨rfl, rfl, rfl, rfl, fun _ _ _ => rfl, fun j c1 _ => by rw [sJ_w, mJ_wn _ _ (hs.ne (by omega))]⟩
theorem FQ.oc {A : Nat → Nat} {M M' : Mm} {c : Cf} (h : FQ A M M') (ho : OC A M c) : OC A M' c := fun k hk => by
  obtain ⟨o1, o2⟩ := ho k hk
  obtain ⟨e1, e2, e3, e5, e6, e7⟩ := h
  have r : ∀ i, i ≠ 11 → i < 200 → mI M' (A i) = mI M (A i) := e6
  refine ⟨by rw [r _ (by omega) (by omega)]; exact o1, fun hu => ?_⟩
  obtain ⟨hz, d1, d2, d3, ⟨d4, d4v⟩, d5, ⟨z1, z2, z3, z4, z5, z6, z7, z8, z9, z10⟩, d7, d8, d9, d10⟩ := o2 hu
  have ob' : ∀ a q, ob M a q → ob M' a q := fun a q h => by unfold ob at *; rw [e1, e2]; exact h
  refine ⟨hz, ob' _ _ d1, by rw [e5]; exact d2, by rw [e5]; exact d3, ⟨d4.congr e1 e2 e3 e5, ?_⟩, by rw [r _ (by omega) (by omega)]; exact d5, ⟨ob' _ _ z1, ob' _ _ z2, ob' _ _ z3, by rw [e5]; exact z4, by rw [e5]; exact z5, by rw [e3]; exact z6, by rw [e3]; exact z7, by rw [r _ (by omega) (by omega)]; exact z8, by rw [r _ (by omega) (by omega)]; exact z9, by rw [r _ (by omega) (by omega)]; exact z10⟩, d7, d8, d9, d10⟩
  rw [e7 _ (by omega) (by omega), e7 _ (by omega) (by omega), e7 _ (by omega) (by omega), r _ (by omega) (by omega)]
  exact d4v
theorem RC.fr {A : Nat → Nat} {M M' : Mm} {S : St} (h : RC A M S) (f : FQ A M M') : RC A M' S := by
  obtain ⟨⟨s1, s2, s3, s4, s5⟩, h2, h3, h4, h5, h6, h7, h8, h9⟩ := h
  have hoc := f.oc s5
  obtain ⟨e1, e2, e3, e5, e6, e7⟩ := f
  have r : ∀ i, i ≠ 11 → i < 200 → mI M' (A i) = mI M (A i) := e6
  have ob' : ∀ a q, ob M a q → ob M' a q := fun a q h => by unfold ob at *; rw [e1, e2]; exact h
  refine ⟨⟨s1.congr e1 e2 e3 e5, ⟨?_, fun k hk => ?_⟩, fun k hk => ?_, by rw [r 0 (by decide) (by decide)]; exact s4, hoc⟩, fun k hk hu => ?_, fun z hz => ?_, by rw [r 0 (by decide) (by decide)]; exact h4, by rw [r 0 (by decide) (by decide)]; exact h5, by rw [r 4 (by decide) (by decide)]; exact h6, fun i hi => by rw [r 5 (by decide) (by decide)]; exact h7 i hi, by rw [r 0 (by decide) (by decide)]; exact h8, fun k hk hu => by rw [r _ (by omega) (by omega)]; exact h9 k hk hu⟩
  · rw [r 6 (by decide) (by decide), r 7 (by decide) (by decide), r 8 (by decide) (by decide), r 9 (by decide) (by decide), r 10 (by decide) (by decide)]; exact s2.1
  · rw [r _ (by omega) (by omega), r _ (by omega) (by omega), r _ (by omega) (by omega)]; exact s2.2 k hk
  · rw [r _ (by omega) (by omega)]; exact s3 k hk
  · rw [r _ (by omega) (by omega)]; exact h2 k hk hu
  · obtain ⟨z1, z2, z3, z4, z5, z6, z7, z8, z9, z10⟩ := h3 z hz
    exact ⟨ob' _ _ z1, ob' _ _ z2, ob' _ _ z3, by rw [e5]; exact z4, by rw [e5]; exact z5, by rw [e3]; exact z6, by rw [e3]; exact z7, by rw [r _ (by omega) (by omega)]; exact z8, by rw [r _ (by omega) (by omega)]; exact z9, by rw [r _ (by omega) (by omega)]; exact z10⟩
theorem MoZ.cg {A : Nat → Nat} {M M' : Mm} {i : Nat} {z : Zo} (r : ∀ i, 200 ≤ i → mI M' (A i) = mI M (A i)) (h : MoZ M (fun p => A (200 + p)) i z) : MoZ M' (fun p => A (200 + p)) i z := by
  unfold MoZ at *
  show (mI M' (A 202) _ = _ ∧ mI M' (A 201) _ = _ ∧ ∀ j, 1 ≤ j → j ≤ zN z → mI M' (A 203) _ = _ ∧ mI M' (A 204) _ = _)
  rw [r 202 (by decide), r 201 (by decide), r 203 (by decide), r 204 (by decide)]
  exact h
theorem MoR.cg {A : Nat → Nat} {M M' : Mm} {k : Nat} {q : Ru} (r : ∀ i, 200 ≤ i → mI M' (A i) = mI M (A i)) (rj : ∀ i, 200 ≤ i → mJ M' (A i) = mJ M (A i)) (h : MoR M (fun p => A (200 + p)) k q) : MoR M' (fun p => A (200 + p)) k q := by
  unfold MoR at *
  show ((∀ f, f < 5 → mJ M' (A 232) (5 * k + f) = rN q f) ∧ (∃ t : Bool, mI M' (A 234) k = bI (!t) ∧ ∀ y : Int, 1899 ≤ y → y ≤ 2200 → rY q y = (!t || (decide (1900 ≤ y ∧ y ≤ 2199) && decide (¬ mI M' (A 233) (300 * k + (y - 1900).toNat) = 0)))) ∧ mI M' (A 240) k = _ ∧ mI M' (A 241) k = _ ∧ mJ M' (A 235) k = _ ∧ mI M' (A 236) k = _ ∧ mJ M' (A 237) k = _ ∧ mJ M' (A 238) k = _ ∧ ∀ j n, 1 ≤ j → j ≤ 5 → n < 7 → bj (mJ M' (A 239) k) (6 * n + j) = rK q j n)
  rw [r 234 (by decide), r 233 (by decide), r 240 (by decide), r 241 (by decide), r 236 (by decide), rj 232 (by decide), rj 235 (by decide), rj 237 (by decide), rj 238 (by decide), rj 239 (by decide)]
  exact h
theorem RM.fr {A : Nat → Nat} {M M' : Mm} {S : St} (h : RM A M S) (f : FC A M M') (hs : Sta A M') : RM A M' S := by
  obtain ⟨⟨s1, ⟨R, s2⟩, s3, s4, s5⟩, h2, h3, h4, h5, h6, h7, h8⟩ := h
  obtain ⟨e1, e2, e3, e6⟩ := f
  have r11 : mI M' (A 11) = mI M (A 11) := (e6 11 (.inl rfl)).1
  have r : ∀ i, 200 ≤ i → mI M' (A i) = mI M (A i) := fun i hi => (e6 i (.inr hi)).1
  have rj : ∀ i, 200 ≤ i → mJ M' (A i) = mJ M (A i) := fun i hi => (e6 i (.inr hi)).2
  refine ⟨⟨hs, ⟨R, ?_⟩, fun k hk => by rw [r 230 (by decide), r 231 (by decide)]; exact s3 k hk, by rw [r11]; exact s4, fun k hk => ?_⟩, fun k hk hu => by rw [r 228 (by decide), r 229 (by decide)]; exact h2 k hk hu, fun z hz => (h3 z hz).cg r, by rw [r11]; exact h4, by rw [r11]; exact h5, by rw [r11]; exact h6, fun i hi => by rw [r 210 (by decide)]; exact h7 i hi, by rw [r11]; exact h8⟩
  · obtain ⟨a1, a2, a3, a4⟩ := s2
    refine ⟨?_, ?_, a3, fun k hk => ?_⟩
    · rw [r11, r 256 (by decide), r 257 (by decide), r 258 (by decide), r 259 (by decide)]; exact a1
    · rw [r11, r 246 (by decide), r 247 (by decide), r 248 (by decide)]; exact a2
    · rw [r 244 (by decide), r 242 (by decide), r 243 (by decide)]; exact a4 k hk
  · obtain ⟨o1, o2⟩ := s5 k hk
    refine ⟨by rw [r 226 (by decide)]; exact o1, fun hu => ?_⟩
    obtain ⟨g1, g2, g3, g4, g5, g6, g7, g8⟩ := o2 hu
    exact ⟨hs.2.2.2.2.1, g2, g3.cg r rj, g4, by show mI M' (A 227) k = _; rw [r 227 (by decide)]; exact g5, g6.cg r, g7, g8⟩
