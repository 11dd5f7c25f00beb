/-! order: the class -/
def FO (A : Nat → Nat) (k : Nat) (M M' : Mm) : Prop := mL M' = mL M ∧ mK M' = mK M ∧ mN M' = mN M ∧ (∀ i p, (p = 5 → i ≠ 4 ∧ i ≠ 40 + 10 * k) → mP M' (A i) p = mP M (A i) p) ∧ (∀ i, i ≠ 0 → i ≠ 4 → i ≠ 40 + 10 * k → i ≠ 41 + 10 * k → mI M' (A i) = mI M (A i)) ∧ (∀ i, i ≠ 41 + 10 * k → i ≠ 43 + 10 * k → i ≠ 44 + 10 * k → mJ M' (A i) = mJ M (A i)) ∧ (∀ p, p ≠ 5 → mI M' (A 0) p = mI M (A 0) p)
theorem FO.trans {A : Nat → Nat} {k : Nat} {M M1 M2 : Mm} (h : FO A k M M1) (h' : FO A k M1 M2) : FO A k M M2 := ⟨h'.1.trans h.1, h'.2.1.trans h.2.1, h'.2.2.1.trans h.2.2.1, fun i p c => (h'.2.2.2.1 i p c).trans (h.2.2.2.1 i p c), fun i c1 c2 c3 c4 => (h'.2.2.2.2.1 i c1 c2 c3 c4).trans (h.2.2.2.2.1 i c1 c2 c3 c4), fun i c1 c2 c3 => (h'.2.2.2.2.2.1 i c1 c2 c3).trans (h.2.2.2.2.2.1 i c1 c2 c3), fun p c => (h'.2.2.2.2.2.2 p c).trans (h.2.2.2.2.2.2 p c)⟩
theorem FO.sta {A : Nat → Nat} {k : Nat} {M M' : Mm} (h : FO A k M M') (hs : Sta A M) : Sta A M' := by
  obtain ⟨e1, e2, e3, e5, _⟩ := h
  obtain ⟨a1, ⟨x1, x2, x3, x4, x5, x6, x7, x8⟩, a3, a4, a5, a6⟩ := hs
  have ob' : ∀ a q, ob M a q → ob M' a q := fun a q h => by unfold ob at *; rw [e1, e2]; exact h
  have p5 : ∀ i p, p ≠ 5 → mP M' (A i) p = mP M (A i) p := fun i p c => e5 i p (fun q => absurd q c)
  refine ⟨a1, ⟨ob' _ _ x1, ⟨(p5 _ _ (by decide)).trans x2.1, (p5 _ _ (by decide)).trans x2.2.1, (p5 _ _ (by decide)).trans x2.2.2.1, (p5 _ _ (by decide)).trans x2.2.2.2.1, (p5 _ _ (by decide)).trans x2.2.2.2.2⟩, ob' _ _ x3, ⟨ob' _ _ x4.1, by rw [e3]; exact x4.2⟩, ⟨ob' _ _ x5.1, by rw [e3]; exact x5.2⟩, ⟨ob' _ _ x6.1, (p5 _ _ (by decide)).trans x6.2.1, ob' _ _ x6.2.2.1, by rw [e3]; exact x6.2.2.2⟩, ob' _ _ x7, fun j hj => ⟨(p5 _ _ (by omega)).trans (x8 j hj).1, ob' _ _ (x8 j hj).2.1, by rw [e3]; exact (x8 j hj).2.2⟩⟩, fun z hz => ?_, fun j hj => ?_, ⟨ob' _ _ a5.1, fun q hq => ?_⟩, ob' _ _ a6.1, by rw [e3]; exact a6.2⟩
  · obtain ⟨z1, z2, z3, z4, z5, z6, z7, z8⟩ := a3 z hz
    exact ⟨ob' _ _ z1, ob' _ _ z2, ob' _ _ z3, (p5 _ _ (by decide)).trans z4, (p5 _ _ (by decide)).trans z5, by rw [e3]; exact z6, by rw [e3]; exact z7, (p5 _ _ (by omega)).trans z8⟩
  · obtain ⟨s1, s2, s3, s4, s5, s6, s7, s8, ⟨t1, t2, t3, t4, t5, t6, t7, t8, t9, t10⟩, s10⟩ := a4 j hj
    exact ⟨ob' _ _ s1, (p5 _ _ (by decide)).trans s2, (p5 _ _ (by decide)).trans s3, (p5 _ _ (by decide)).trans s4, ob' _ _ s5, ob' _ _ s6, by rw [e3]; exact s7, by rw [e3]; exact s8, ⟨t1, ob' _ _ t2, ob' _ _ t3, ob' _ _ t4, ob' _ _ t5, (p5 _ _ (by decide)).trans t6, (p5 _ _ (by decide)).trans t7, (p5 _ _ (by decide)).trans t8, by rw [e3]; exact t9, by rw [e3]; exact t10⟩, (e5 3 j (fun _ => by omega)).trans s10⟩
  · obtain ⟨q1, q2, q3, q4⟩ := a5.2 q hq
    exact ⟨(e5 11 q.1 (fun _ => by omega)).trans q1, ob' _ _ q2, by rw [e3]; exact q3, q4⟩
theorem FO.fc {A : Nat → Nat} {k : Nat} {M M' : Mm} (hk : k < 12) (h : FO A k M M') : FC A M M' := ⟨h.1, h.2.1, h.2.2.1, fun i hi => ⟨h.2.2.2.2.1 i (by omega) (by omega) (by omega) (by omega), h.2.2.2.2.2.1 i (by omega) (by omega) (by omega)⟩⟩
theorem FO.zo {A : Nat → Nat} {k : Nat} {M M' : Mm} (h : FO A k M M') {z : Nat} (hz : z < 4) {o : Zo} (d : ZoM M (A (20 + 3 * z)) (A (21 + 3 * z)) (A (22 + 3 * z)) o) : ZoM M' (A (20 + 3 * z)) (A (21 + 3 * z)) (A (22 + 3 * z)) o := by
  obtain ⟨e1, e2, e3, e5, r, rj, r0⟩ := h
  have ob' : ∀ a q, ob M a q → ob M' a q := fun a q h => by unfold ob at *; rw [e1, e2]; exact h
  obtain ⟨z1, z2, z3, z4, z5, z6, z7, z8, z9, z10⟩ := d
  exact ⟨ob' _ _ z1, ob' _ _ z2, ob' _ _ z3, (e5 _ _ (by omega)).trans z4, (e5 _ _ (by omega)).trans z5, by rw [e3]; exact z6, by rw [e3]; exact z7, by rw [r _ (by omega) (by omega) (by omega) (by omega)]; exact z8, by rw [r _ (by omega) (by omega) (by omega) (by omega)]; exact z9, by rw [r _ (by omega) (by omega) (by omega) (by omega)]; exact z10⟩
theorem FO.od {A : Nat → Nat} {k j z : Nat} {M M' : Mm} {q : Ru} {o : Zo} {b : Int → Bool} (h : FO A k M M') (hj : j ≠ k) (hz : z < 4) (d : Od M (A (40 + 10 * j)) (A (41 + 10 * j)) (A (42 + 10 * j)) (A (43 + 10 * j)) (A (44 + 10 * j)) (A (20 + 3 * z)) (A (21 + 3 * z)) (A (22 + 3 * z)) q o b) : Od M' (A (40 + 10 * j)) (A (41 + 10 * j)) (A (42 + 10 * j)) (A (43 + 10 * j)) (A (44 + 10 * j)) (A (20 + 3 * z)) (A (21 + 3 * z)) (A (22 + 3 * z)) q o b := by
  have hzo := h.zo hz d.2.2.2.2.2.1
  obtain ⟨e1, e2, e3, e5, r, rj, r0⟩ := h
  have ob' : ∀ a q, ob M a q → ob M' a q := fun a q h => by unfold ob at *; rw [e1, e2]; exact h
  obtain ⟨d1, d2, d3, ⟨⟨t1, t2, t3, t4, t5, t6, t7, t8, t9, t10⟩, d4v⟩, d5, d6, d7, d8, d9, d10⟩ := d
  have r1 : mI M' (A (41 + 10 * j)) = mI M (A (41 + 10 * j)) := r _ (by omega) (by omega) (by omega) (by omega)
  refine ⟨ob' _ _ d1, (e5 _ _ (by omega)).trans d2, (e5 _ _ (by omega)).trans d3, ⟨⟨t1, ob' _ _ t2, ob' _ _ t3, ob' _ _ t4, ob' _ _ t5, (e5 _ _ (by omega)).trans t6, (e5 _ _ (by omega)).trans t7, (e5 _ _ (by omega)).trans t8, by rw [e3]; exact t9, by rw [e3]; exact t10⟩, ?_⟩, by rw [r1]; exact d5, hzo, d7, d8, d9, d10⟩
  rw [r1, rj _ (by omega) (by omega) (by omega), rj _ (by omega) (by omega) (by omega), rj _ (by omega) (by omega) (by omega)]
  exact d4v
/-- all but order k, the tape and the fault told is as it was -/
def Bk (k : Nat) (S S' : St) : Prop := (∀ i, i ≠ k → cfU (stC S') i = cfU (stC S) i ∧ cfZ (stC S') i = cfZ (stC S) i ∧ cfR (stC S') i = cfR (stC S) i ∧ cfB (stC S') i = cfB (stC S) i ∧ cfT (stC S') i = cfT (stC S) i ∧ cfV (stC S') i = cfV (stC S) i ∧ stY S' i = stY S i ∧ stG S' i = stG S i ∧ dB (stD S') i = dB (stD S) i ∧ dD (stD S') i = dD (stD S) i) ∧ cfO (stC S') = cfO (stC S) ∧ dR (stD S') = dR (stD S) ∧ dW (stD S') = dW (stD S) ∧ dC (stD S') = dC (stD S) ∧ dL (stD S') = dL (stD S) ∧ stN S' = stN S ∧ stS S' = stS S ∧ stA S' = stA S ∧ stL S' = 0
theorem RC.fo {A : Nat → Nat} {k : Nat} {M M' : Mm} {S S' : St} (h : RC A M S) (f : FO A k M M') (b : Bk k S S')
    (h1 : OrR (mI M' (A (40 + 10 * k))) (mI M' (A (45 + 10 * k))) (mI M' (A (46 + 10 * k))) (cfT (stC S') k) (dR (stD S') k) (dW (stD S') k) (dB (stD S') k) (dD (stD S') k))
    (h2 : mI M' (A (40 + 10 * k)) 0 = i32 (k : Nat) ∧ mI M' (A (40 + 10 * k)) 9 = i32 (cfV (stC S') k) ∧ mI M' (A (40 + 10 * k)) 10 = i32 (cfT (stC S') k) ∧ (0 ≤ cfV (stC S') k ∧ cfV (stC S') k ≤ 2) ∧ (0 ≤ cfT (stC S') k ∧ cfT (stC S') k ≤ 10000))
    (h3 : mI M' (A (40 + 10 * k)) 4 = bI (cfU (stC S') k) ∧ (cfU (stC S') k = true → (cfZ (stC S') k < 4 ∧ Od M' (A (40 + 10 * k)) (A (41 + 10 * k)) (A (42 + 10 * k)) (A (43 + 10 * k)) (A (44 + 10 * k)) (A (20 + 3 * cfZ (stC S') k)) (A (21 + 3 * cfZ (stC S') k)) (A (22 + 3 * cfZ (stC S') k)) (cfR (stC S') k) (cfO (stC S') (cfZ (stC S') k)) (cfB (stC S') k)) ∧ (mI M' (A (40 + 10 * k)) 7 = i32 (stY S' k) ∧ mI M' (A (40 + 10 * k)) 8 = i32 (stG S' k)) ∧ mI M' (A (40 + 10 * k)) 6 = i32 (cfZ (stC S') k : Nat)))
    (h4 : mI M' (A 4) 1 = i32 0) (h5 : mI M' (A 0) 5 = stF S') : RC A M' S' := by
  have hs := f.sta h.sta
  obtain ⟨b1, b2, b3, b4, b5, b6, b7, b8, b9, b10⟩ := b
  obtain ⟨⟨_, w2, w3, w4, w5⟩, g2, g3, g4, g5, g6, g7, g8, g9⟩ := h
  have f0 := f
  obtain ⟨e1, e2, e3, e5, r, rj, r0⟩ := f
  refine ⟨⟨hs, ⟨?_, fun i hi => ?_⟩, fun i hi => ?_, ?_, fun i hi => ?_⟩, fun i hi hu => ?_, fun z hz => ?_, ?_, ?_, ?_, fun i hi => ?_, h5, fun i hi hu => ?_⟩
  · rw [r 6 (by omega) (by omega) (by omega) (by omega), r 7 (by omega) (by omega) (by omega) (by omega), r 8 (by omega) (by omega) (by omega) (by omega), r 9 (by omega) (by omega) (by omega) (by omega), r 10 (by omega) (by omega) (by omega) (by omega), b5, b6]; exact w2.1
  · by_cases c : i = k
    · subst c; exact h1
    · obtain ⟨c1, c2, c3, c4, c5, c6, c7, c8, c9, c10⟩ := b1 i c
      rw [r (40 + 10 * i) (by omega) (by omega) (by omega) (by omega), r (45 + 10 * i) (by omega) (by omega) (by omega) (by omega), r (46 + 10 * i) (by omega) (by omega) (by omega) (by omega), c5, b3, b4, c9, c10]; exact w2.2 i hi
  · by_cases c : i = k
    · subst c; exact h2
    · obtain ⟨c1, c2, c3, c4, c5, c6, c7, c8, c9, c10⟩ := b1 i c
      rw [r (40 + 10 * i) (by omega) (by omega) (by omega) (by omega), c5, c6]; exact w3 i hi
  · rw [r0 6 (by decide), b7]; exact w4
  · by_cases c : i = k
    · subst c; exact ⟨h3.1, fun u => (h3.2 u).1⟩
    · obtain ⟨c1, c2, c3, c4, c5, c6, c7, c8, c9, c10⟩ := b1 i c
      rw [r (40 + 10 * i) (by omega) (by omega) (by omega) (by omega), c1, c2, c3, c4, b2]
      obtain ⟨o1, o2⟩ := w5 i hi
      exact ⟨o1, fun u => ⟨(o2 u).1, f0.od c (o2 u).1 (o2 u).2⟩⟩
  · by_cases c : i = k
    · subst c; exact (h3.2 hu).2.1
    · obtain ⟨c1, c2, c3, c4, c5, c6, c7, c8, c9, c10⟩ := b1 i c
      rw [c1] at hu
      rw [r (40 + 10 * i) (by omega) (by omega) (by omega) (by omega), c7, c8]; exact g2 i hi hu
  · rw [b2]; exact f0.zo hz (g3 z hz)
  · rw [r0 7 (by decide), b8]; exact g4
  · rw [r0 8 (by decide), b9]; exact g5
  · rw [b10]; exact h4
  · rw [b10] at hi; exact absurd hi (Nat.not_lt_zero _)
  · by_cases c : i = k
    · subst c; exact (h3.2 hu).2.2
    · obtain ⟨c1, c2, c3, c4, c5, c6, c7, c8, c9, c10⟩ := b1 i c
      rw [c1] at hu
      rw [r (40 + 10 * i) (by omega) (by omega) (by omega) (by omega), c2]; exact g9 i hi hu
def dkN (D : Dk) (k : Nat) : Dk := (dR D, dW D, va_up (dB D) k 0, va_up (dD D) k 0, dC D, dL D)
def orS (S : St) (k z : Nat) (w g v t : Int) (r : Ru) (b : Int → Bool) : St := ((va_up (cfU (stC S)) k true, va_up (cfZ (stC S)) k z, va_up (cfR (stC S)) k r, cfO (stC S), va_up (cfB (stC S)) k b, va_up (cfT (stC S)) k t, va_up (cfV (stC S)) k v), va_up (stY S) k w, va_up (stG S) k g, dkN (stD S) k, stN S, stS S, stA S, fun _ => -1, 0, 0)
def orF (S : St) (co : Nat) : St := (stC S, stY S, stG S, stD S, stN S, stS S, stA S, fun _ => -1, 0, i32 (co : Nat))
theorem orS_bk (S : St) (k z : Nat) (w g v t : Int) (r : Ru) (b : Int → Bool) : Bk k S (orS S k z w g v t r b) := ⟨fun i c => ⟨va_up_ne _ _ c, va_up_ne _ _ c, va_up_ne _ _ c, va_up_ne _ _ c, va_up_ne _ _ c, va_up_ne _ _ c, va_up_ne _ _ c, va_up_ne _ _ c, va_up_ne _ _ c, va_up_ne _ _ c⟩, rfl, rfl, rfl, rfl, rfl, rfl, rfl, rfl, rfl⟩
theorem orF_bk (S : St) (k co : Nat) : Bk k S (orF S co) := ⟨fun _ _ => ⟨rfl, rfl, rfl, rfl, rfl, rfl, rfl, rfl, rfl, rfl⟩, rfl, rfl, rfl, rfl, rfl, rfl, rfl, rfl, rfl⟩
theorem orS_k (S : St) (k z : Nat) (w g v t : Int) (r : Ru) (b : Int → Bool) : cfU (stC (orS S k z w g v t r b)) k = true ∧ cfZ (stC (orS S k z w g v t r b)) k = z ∧ cfR (stC (orS S k z w g v t r b)) k = r ∧ cfB (stC (orS S k z w g v t r b)) k = b ∧ cfT (stC (orS S k z w g v t r b)) k = t ∧ cfV (stC (orS S k z w g v t r b)) k = v ∧ stY (orS S k z w g v t r b) k = w ∧ stG (orS S k z w g v t r b) k = g ∧ dB (stD (orS S k z w g v t r b)) k = 0 ∧ dD (stD (orS S k z w g v t r b)) k = 0 := ⟨va_up_self _ _ _, va_up_self _ _ _, va_up_self _ _ _, va_up_self _ _ _, va_up_self _ _ _, va_up_self _ _ _, va_up_self _ _ _, va_up_self _ _ _, va_up_self _ _ _, va_up_self _ _ _⟩
/-- the least order that isn't there -/
def isF (S : St) (k : Nat) : Prop := k < 12 ∧ cfU (stC S) k = false ∧ ∀ j, j < k → cfU (stC S) j = true
def okO (w g v t : Int) : Prop := (0 ≤ w ∧ w ≤ 2) ∧ (0 ≤ g ∧ g ≤ 100000) ∧ (0 ≤ v ∧ v ≤ 2) ∧ (1 ≤ t ∧ t ≤ 10000)
theorem isF.eq {S : St} {j k : Nat} (h : isF S j) (h' : isF S k) : j = k := by
  rcases Nat.lt_trichotomy j k with c | c | c
  · have := h'.2.2 j c; rw [h.2.1] at this; exact absurd this (by decide)
  · exact c
  · have := h.2.2 k c; rw [h'.2.1] at this; exact absurd this (by decide)
theorem orS_sp {S : St} {B : Int} {k z : Nat} {w g v t : Int} {r : Ru} {b : Int → Bool} (hP : SP S B) (hF : isF S k) (ok : okO w g v t) : SP (orS S k z w g v t r b) B := by
  obtain ⟨h1, h2, h3, h4, h5, h6, h7, h8, h9, h10⟩ := hP
  have bk := orS_bk S k z w g v t r b
  have ko := orS_k S k z w g v t r b
  have hk0 := h4.2.2.2.1 k hF.1 hF.2.1
  refine ⟨fun i hi => ?_, fun i hi hu => ?_, fun i hi hu => ?_, ⟨h4.1, h4.2.1, h4.2.2.1, fun i hi hu => ?_, fun i hi q hq => ?_, h4.2.2.2.2.2⟩, h5, h6, h7, h8, ⟨Nat.zero_le _, fun _ _ => rfl, fun i hi => absurd hi (Nat.not_lt_zero _)⟩, h10⟩
  · by_cases c : i = k
    · subst c; rw [ko.2.2.2.2.1]; have := ok.2.2.2; omega
    · rw [(bk.1 i c).2.2.2.2.1]; exact h1 i hi
  · by_cases c : i = k
    · subst c; rw [ko.2.2.2.2.2.2.1, ko.2.2.2.2.2.2.2.1]; exact ⟨ok.1, ok.2.1⟩
    · rw [(bk.1 i c).1] at hu
      rw [(bk.1 i c).2.2.2.2.2.2.1, (bk.1 i c).2.2.2.2.2.2.2.1]; exact h2 i hi hu
  · by_cases c : i = k
    · subst c; rw [ko.2.2.2.2.1]; exact ok.2.2.2.1
    · rw [(bk.1 i c).1] at hu
      rw [(bk.1 i c).2.2.2.2.1]; exact h3 i hi hu
  · by_cases c : i = k
    · subst c; exact hk0
    · rw [(bk.1 i c).1] at hu; exact h4.2.2.2.1 i hi hu
  · have hq' : q ∈ dR (stD S) i := hq
    by_cases c : i = k
    · subst c; rw [hk0.1] at hq'; cases hq'
    · rw [(bk.1 i c).2.2.2.2.1]; exact h4.2.2.2.2.1 i hi q hq'
theorem orF_sp {S : St} {B : Int} {co : Nat} (hP : SP S B) : SP (orF S co) B := by
  obtain ⟨h1, h2, h3, h4, h5, h6, h7, h8, h9, h10⟩ := hP
  exact ⟨h1, h2, h3, h4, h5, h6, h7, h8, ⟨Nat.zero_le _, fun _ _ => rfl, fun i hi => absurd hi (Nat.not_lt_zero _)⟩, h10⟩
theorem s_lfn {K : Rs → Mm → Prop} {A : Nat → Nat} {M : Mm} {S : St} (h : RC A M S) (h0 : (∀ j, j < 12 → cfU (stC S) j = true) → K (.inl (some (.int (-1)))) M) (h1 : ∀ k, isF S k → K (.inl (some (.int (i32 (k : Nat))))) M) : V_X6_leastFreeNumber K M (A 0) := by
  have hs := h.sta
  have go : ∀ (n k : Nat), k + n = 12 → (∀ j, j < k → cfU (stC S) j = true) → V_X6_leastFreeNumber_2 K (n + 1) M (A 0) (i32 (k : Nat)) := by
    intro n
    induction n with
    | zero =>
      intro k e hj
      unfold V_X6_leastFreeNumber_2
      rw [q_12, i32_le (by omega) (by omega) (by omega) (by omega)]
      exact ⟨fun _ => h0 (fun j q => hj j (by omega)), fun q => absurd (by omega) q⟩
    | succ n ih =>
      intro k e hj
      have hk : k < 12 := by omega
      obtain ⟨s1, s2, s3, s4, s5, s6, s7, s8, s9, s10⟩ := hs.2.2.2.1 k hk
      unfold V_X6_leastFreeNumber_2
      rw [q_12, i32_le (by omega) (by omega) (by omega) (by omega)]
      refine ⟨fun q => absurd q (by omega), fun _ => ⟨hs.2.1.1, A 3, hs.2.1.2.1.2.2.1, hs.2.1.2.2.2.2.1.1, by rw [hs.2.1.2.2.2.2.1.2]; exact i32_in (by omega) (by omega) (by omega), A (40 + 10 * k), by rw [i32_clamp (by omega) (by omega), Int.toNat_natCast]; exact s10, s1, ?_⟩⟩
      rw [(h.1.2.2.2.2 k hk).1, bI_ne0 (cfU (stC S) k), bI_0 (cfU (stC S) k)]
      refine ⟨fun u x ex => ?_, fun u => h1 k ⟨hk, u, hj⟩⟩
      rw [ex, q_1, i32_add]
      refine ih (k + 1) (by omega) (fun j q => ?_)
      by_cases c : j = k
      · subst c; exact u
      · exact hj j (by omega)
  unfold V_X6_leastFreeNumber
  exact ⟨13, go 12 0 (by omega) (fun j q => absurd q (Nat.not_lt_zero _))⟩
theorem fo_read {A : Nat → Nat} {M M' M1 M2 : Mm} {k n : Nat} {s : Nat → Int} {r : Int32} (hs : Sta A M) (hk : k < 12) (f : Fp (sP M (A 4) 5 (some (A (41 + 10 * k))), s, n, A 4, A 5, A (41 + 10 * k), A (42 + 10 * k), A (43 + 10 * k), A (44 + 10 * k)) M') (e1 : M1 = sI M' (A 0) 5 r) (e2 : M2 = sI M1 (A 4) 1 0) : FO A k M M2 ∧ mI M2 (A 0) 5 = r ∧ mI M2 (A 4) 1 = 0 ∧ mI M2 (A (41 + 10 * k)) = mI M' (A (41 + 10 * k)) ∧ mJ M2 = mJ M' ∧ mI M2 (A 4) 4 = mI M' (A 4) 4 ∧ mI M2 (A (40 + 10 * k)) = mI M (A (40 + 10 * k)) := by
  have n : ∀ {i j : Nat}, i ≠ j → A i ≠ A j := fun h => hs.ne h
  obtain ⟨f1, f2, f3, f4, f5, f6, f7⟩ := f
  have f1 : mL M' = mL M := f1
  have f2 : mK M' = mK M := f2
  have f3 : mN M' = mN M := f3
  have f4 : mP M' = mP (sP M (A 4) 5 (some (A (41 + 10 * k)))) := f4
  have f5 : ∀ b, b ≠ A 4 → b ≠ A (41 + 10 * k) → mI M' b = mI M b := f5
  have f6 : ∀ b, b ≠ A (41 + 10 * k) → b ≠ A (43 + 10 * k) → b ≠ A (44 + 10 * k) → mJ M' b = mJ M b := f6
  rw [sI_w] at e1 e2
  have r1 : ∀ i, i ≠ 0 → i ≠ 4 → mI M2 (A i) = mI M' (A i) := fun i c1 c2 => by rw [e2, mI_wn _ _ (n c2), e1, mI_wn _ _ (n c1)]
  have r0 : mI M2 (A 0) = va_up (mI M' (A 0)) 5 r := by rw [e2, mI_wn _ _ (n (by decide)), e1, mI_w]
  have r4 : mI M2 (A 4) = va_up (mI M' (A 4)) 1 0 := by rw [e2, mI_w, e1, mI_wn _ _ (n (by decide))]
  have eP : mP M2 = mP M' := by rw [e2, e1]; rfl
  have eJ : mJ M2 = mJ M' := by rw [e2, e1]; rfl
  refine ⟨⟨by rw [e2, e1]; exact f1, by rw [e2, e1]; exact f2, by rw [e2, e1]; exact f3, fun i p c => ?_, fun i c1 c2 c3 c4 => (r1 i c1 c2).trans (f5 _ (n c2) (n c4)), fun i c1 c2 c3 => by rw [eJ]; exact f6 _ (n c1) (n c2) (n c3), fun p c => by rw [r0, va_up_ne _ _ c, f5 _ (n (by omega)) (n (by omega))]⟩, by rw [r0, va_up_self], by rw [r4, va_up_self], r1 _ (by omega) (by omega), eJ, by rw [r4, va_up_ne _ _ (by decide)], (r1 _ (by omega) (by omega)).trans (f5 _ (n (by omega)) (n (by omega)))⟩
  rw [eP, f4, sP_w]
  by_cases q : i = 4
  · subst q
    rw [mP_w, va_up_ne _ _ (fun c5 => (c c5).1 rfl)]
  · rw [mP_wn _ _ (n q)]
theorem s_bs {F : Mm → Prop} {A : Nat → Nat} {M : Mm} {k zn : Nat} {z w g v t : Int} (hs : Sta A M) (hk : k < 12)
    (h : ∀ N, FO A k M N → mJ N = mJ M → (∀ i, i ≠ 40 + 10 * k → mI N (A i) = mI M (A i)) → mP N (A (40 + 10 * k)) 5 = some (A (20 + 3 * zn)) → mI N (A (40 + 10 * k)) 0 = mI M (A (40 + 10 * k)) 0 → mI N (A (40 + 10 * k)) 4 = 1 → mI N (A (40 + 10 * k)) 6 = i32 z → mI N (A (40 + 10 * k)) 7 = i32 w → mI N (A (40 + 10 * k)) 8 = i32 g → mI N (A (40 + 10 * k)) 9 = i32 v → mI N (A (40 + 10 * k)) 10 = i32 t → mI N (A (40 + 10 * k)) 11 = 0 → mI N (A (40 + 10 * k)) 12 = 0 → mI N (A (40 + 10 * k)) 14 = 0 → mI N (A (40 + 10 * k)) 15 = 0 → F N) :
    V_X2_begin (kV (fun M24 => (ob M24 (A (40 + 10 * k)) 2 ∧ V_X2_settle (kV (fun M26 => F M26) (fun _ _ => False)) M24 (A (40 + 10 * k)) (i32 w) (i32 g) (i32 v) (i32 t))) (fun _ _ => False)) M (A (40 + 10 * k)) (i32 z) (A (20 + 3 * zn)) := by
  have n : ∀ {i j : Nat}, i ≠ j → A i ≠ A j := fun h => hs.ne h
  have so2 := (hs.2.2.2.1 k hk).1
  unfold V_X2_begin V_X2_clearRuns V_X2_settle
  generalize ho : 40 + 10 * k = o at *
  have obs : ∀ (M : Mm) (a p : Nat) (v : Int32) (b c : Nat), ob M b c → ob (sI M a p v) b c := fun _ _ _ _ _ _ h => h
  have obp : ∀ (M : Mm) (a p : Nat) (v : Option Nat) (b c : Nat), ob M b c → ob (sP M a p v) b c := fun _ _ _ _ _ _ h => h
  have ms : ∀ (M : Mm) (a p : Nat) (v : Int32), mI (sI M a p v) a = va_up (mI M a) p v := fun M a p v => mI_w _ _ _
  have mn : ∀ (M : Mm) {a b : Nat} (p : Nat) (v : Int32), b ≠ a → mI (sI M a p v) b = mI M b := fun M a b p v c => mI_wn _ _ c
  have mp : ∀ (M : Mm) (a p : Nat) (v : Option Nat), mI (sP M a p v) = mI M := fun _ _ _ _ => rfl
  have sJ' : ∀ (M : Mm) (a p : Nat) (v : Int32), mJ (sI M a p v) = mJ M ∧ mP (sI M a p v) = mP M ∧ mL (sI M a p v) = mL M ∧ mK (sI M a p v) = mK M ∧ mN (sI M a p v) = mN M := fun _ _ _ _ => ⟨rfl, rfl, rfl, rfl, rfl⟩
  have pJ' : ∀ (M : Mm) (a p : Nat) (v : Option Nat), mJ (sP M a p v) = mJ M ∧ mL (sP M a p v) = mL M ∧ mK (sP M a p v) = mK M ∧ mN (sP M a p v) = mN M := fun _ _ _ _ => ⟨rfl, rfl, rfl, rfl⟩
  refine ⟨so2, fun N1 g1 N2 g2 N3 g3 N4 g4 N5 g5 => ?_⟩
  have o5 : ob N5 (A o) 2 := by
    rw [g5]; refine obs _ _ _ _ _ _ ?_
    rw [g4]; refine obs _ _ _ _ _ _ ?_
    rw [g3]; refine obp _ _ _ _ _ _ ?_
    rw [g2]; refine obs _ _ _ _ _ _ ?_
    rw [g1]; exact obs _ _ _ _ _ _ so2
  refine ⟨o5, fun N6 g6 N7 g7 => kV_i (kV_i ?_)⟩
  have o7 : ob N7 (A o) 2 := by
    rw [g7]; refine obs _ _ _ _ _ _ ?_
    rw [g6]; exact obs _ _ _ _ _ _ o5
  refine ⟨o7, o7, fun N8 g8 N9 g9 N10 g10 N11 g11 => kV_i ?_⟩
  have row : mI N11 (A o) = va_up (va_up (va_up (va_up (va_up (va_up (va_up (va_up (va_up (va_up (mI M (A o)) 4 1) 6 (i32 z)) 14 0) 15 0) 11 0) 12 0) 7 (i32 w)) 8 (i32 g)) 9 (i32 v)) 10 (i32 t) := by
    rw [g11, ms, g10, ms, g9, ms, g8, ms, g7, ms, g6, ms, g5, ms, g4, ms, g3, mp, g2, ms, g1, ms]
  have oth : ∀ i, i ≠ o → mI N11 (A i) = mI M (A i) := fun i c => by
    rw [g11, mn _ _ _ (n c), g10, mn _ _ _ (n c), g9, mn _ _ _ (n c), g8, mn _ _ _ (n c), g7, mn _ _ _ (n c), g6, mn _ _ _ (n c), g5, mn _ _ _ (n c), g4, mn _ _ _ (n c), g3, mp, g2, mn _ _ _ (n c), g1, mn _ _ _ (n c)]
  have eP : mP N11 = mP N3 := by rw [g11, (sJ' _ _ _ _).2.1, g10, (sJ' _ _ _ _).2.1, g9, (sJ' _ _ _ _).2.1, g8, (sJ' _ _ _ _).2.1, g7, (sJ' _ _ _ _).2.1, g6, (sJ' _ _ _ _).2.1, g5, (sJ' _ _ _ _).2.1, g4, (sJ' _ _ _ _).2.1]
  have eP2 : mP N2 = mP M := by rw [g2, (sJ' _ _ _ _).2.1, g1, (sJ' _ _ _ _).2.1]
  have eJ : mJ N11 = mJ M := by rw [g11, (sJ' _ _ _ _).1, g10, (sJ' _ _ _ _).1, g9, (sJ' _ _ _ _).1, g8, (sJ' _ _ _ _).1, g7, (sJ' _ _ _ _).1, g6, (sJ' _ _ _ _).1, g5, (sJ' _ _ _ _).1, g4, (sJ' _ _ _ _).1, g3, (pJ' _ _ _ _).1, g2, (sJ' _ _ _ _).1, g1, (sJ' _ _ _ _).1]
  have eL : mL N11 = mL M := by rw [g11, (sJ' _ _ _ _).2.2.1, g10, (sJ' _ _ _ _).2.2.1, g9, (sJ' _ _ _ _).2.2.1, g8, (sJ' _ _ _ _).2.2.1, g7, (sJ' _ _ _ _).2.2.1, g6, (sJ' _ _ _ _).2.2.1, g5, (sJ' _ _ _ _).2.2.1, g4, (sJ' _ _ _ _).2.2.1, g3, (pJ' _ _ _ _).2.1, g2, (sJ' _ _ _ _).2.2.1, g1, (sJ' _ _ _ _).2.2.1]
  have eK : mK N11 = mK M := by rw [g11, (sJ' _ _ _ _).2.2.2.1, g10, (sJ' _ _ _ _).2.2.2.1, g9, (sJ' _ _ _ _).2.2.2.1, g8, (sJ' _ _ _ _).2.2.2.1, g7, (sJ' _ _ _ _).2.2.2.1, g6, (sJ' _ _ _ _).2.2.2.1, g5, (sJ' _ _ _ _).2.2.2.1, g4, (sJ' _ _ _ _).2.2.2.1, g3, (pJ' _ _ _ _).2.2.1, g2, (sJ' _ _ _ _).2.2.2.1, g1, (sJ' _ _ _ _).2.2.2.1]
  have eN : mN N11 = mN M := by rw [g11, (sJ' _ _ _ _).2.2.2.2, g10, (sJ' _ _ _ _).2.2.2.2, g9, (sJ' _ _ _ _).2.2.2.2, g8, (sJ' _ _ _ _).2.2.2.2, g7, (sJ' _ _ _ _).2.2.2.2, g6, (sJ' _ _ _ _).2.2.2.2, g5, (sJ' _ _ _ _).2.2.2.2, g4, (sJ' _ _ _ _).2.2.2.2, g3, (pJ' _ _ _ _).2.2.2, g2, (sJ' _ _ _ _).2.2.2.2, g1, (sJ' _ _ _ _).2.2.2.2]
  have fo : FO A k M N11 := by
    refine ⟨eL, eK, eN, fun i p c => ?_, fun i c1 c2 c3 c4 => oth i (by rw [← ho]; exact c3), fun i _ _ _ => by rw [eJ], fun p _ => by rw [oth 0 (by omega)]⟩
    rw [eP, g3, sP_w, ← eP2]
    by_cases q : i = o
    · subst q; rw [mP_w, va_up_ne _ _ (fun c5 => (c c5).2 ho.symm)]
    · rw [mP_wn _ _ (n q)]
  refine h N11 fo eJ oth (by rw [eP, g3, sP_w, mP_w, va_up_self]) ?_ ?_ ?_ ?_ ?_ ?_ ?_ ?_ ?_ ?_ ?_ <;> rw [row] <;> simp [va_up]
theorem c_ordS {A : Nat → Nat} {M M' M2 N : Mm} {S : St} {B z w g v t : Int} {k zn a1 : Nat} {c : Ct} {b : Int → Bool} (h : RC A M S) (hP : SP S B) (ez : z = zn) (hz : zn < 4) (ok : okO w g v t) (hF : isF S k) (hp : pText (stTp S) (stL S) = .inr (a1, c)) (hb : isB (ruOf c) b) (ru : RuV (mI M' (A (41 + 10 * k))) (mJ M' (A (41 + 10 * k))) (mJ M' (A (43 + 10 * k))) (mJ M' (A (44 + 10 * k))) (ruOf c) ∧ Kn (ruOf c) (mI M' (A (41 + 10 * k))))
    (f2 : FO A k M M2) (a0 : mI M2 (A 0) 5 = i32 0) (a4 : mI M2 (A 4) 1 = 0) (au : mI M2 (A (41 + 10 * k)) = mI M' (A (41 + 10 * k))) (aJ : mJ M2 = mJ M') (ao : mI M2 (A (40 + 10 * k)) = mI M (A (40 + 10 * k)))
    (f3 : FO A k M2 N) (eJ : mJ N = mJ M2) (oth : ∀ i, i ≠ 40 + 10 * k → mI N (A i) = mI M2 (A i)) (p5 : mP N (A (40 + 10 * k)) 5 = some (A (20 + 3 * zn))) (X0 : mI N (A (40 + 10 * k)) 0 = mI M2 (A (40 + 10 * k)) 0) (X4 : mI N (A (40 + 10 * k)) 4 = 1) (X6 : mI N (A (40 + 10 * k)) 6 = i32 z) (X7 : mI N (A (40 + 10 * k)) 7 = i32 w) (X8 : mI N (A (40 + 10 * k)) 8 = i32 g) (X9 : mI N (A (40 + 10 * k)) 9 = i32 v) (X10 : mI N (A (40 + 10 * k)) 10 = i32 t) (X11 : mI N (A (40 + 10 * k)) 11 = 0) (X12 : mI N (A (40 + 10 * k)) 12 = 0) (X14 : mI N (A (40 + 10 * k)) 14 = 0) (X15 : mI N (A (40 + 10 * k)) 15 = 0) : RC A N (orS S k zn w g v t (ruOf c) b) := by
  have hs := h.sta
  have n : ∀ {i j : Nat}, i ≠ j → A i ≠ A j := fun h => hs.ne h
  have hk := hF.1
  have hk0 := hP.2.2.2.1.2.2.2.1 k hk hF.2.1
  have ov0 := h.1.2.2.1 k hk
  have foA := f2.trans f3
  have stN := foA.sta hs
  have ko := orS_k S k zn w g v t (ruOf c) b
  refine h.fo foA (orS_bk S k zn w g v t (ruOf c) b) ?_ ?_ ⟨?_, fun _ => ⟨⟨?_, ?_⟩, ⟨?_, ?_⟩, ?_⟩⟩ ?_ ?_
  · rw [ko.2.2.2.2.1, ko.2.2.2.2.2.2.2.2.1, ko.2.2.2.2.2.2.2.2.2]
    show OrR _ _ _ t (dR (stD S) k) (dW (stD S) k) 0 0
    rw [hk0.1, hk0.2]
    exact ⟨X11, by decide, fun i hi => absurd hi (Nat.not_lt_zero _), X12, fun v hv => (by cases hv), X14, X15⟩
  · rw [ko.2.2.2.2.1, ko.2.2.2.2.2.1]
    have := ok.2.2.2
    exact ⟨X0.trans (by rw [ao]; exact ov0.1), X9, X10, ok.2.2.1, by omega⟩
  · rw [ko.1]; exact X4
  · rw [ko.2.1]; exact hz
  · rw [ko.2.1, ko.2.2.1, ko.2.2.2.1]
    show Od N _ _ _ _ _ _ _ _ _ (cfO (stC S) zn) _
    refine ⟨(stN.2.2.2.1 k hk).1, (stN.2.2.2.1 k hk).2.1, p5, ⟨(stN.2.2.2.1 k hk).2.2.2.2.2.2.2.2.1, ?_⟩, ?_, foA.zo hz (h.2.2.1 zn hz), hP.2.2.2.2.2.2.2.1 zn hz, ruOf_wf hP.2.2.2.2.2.2.2.2.1 hp, hb, n (by omega), n (by omega), n (by omega), n (by omega), n (by omega), n (by omega)⟩
    · rw [oth _ (by omega), au, eJ, aJ]; exact ru.1
    · rw [oth _ (by omega), au]; exact ru.2
  · rw [ko.2.2.2.2.2.2.1]; exact X7
  · rw [ko.2.2.2.2.2.2.2.1]; exact X8
  · rw [ko.2.1, X6, ez]
  · rw [oth 4 (by omega)]; exact a4
  · rw [oth 0 (by omega)]; exact a0
theorem c_ordF {A : Nat → Nat} {M M2 : Mm} {S : St} {k co : Nat} (h : RC A M S) (hF : isF S k) (f2 : FO A k M M2) (a0 : mI M2 (A 0) 5 = i32 (co : Nat)) (a4 : mI M2 (A 4) 1 = 0) (ao : mI M2 (A (40 + 10 * k)) = mI M (A (40 + 10 * k))) : RC A M2 (orF S co) := by
  have hk := hF.1
  have or0 := h.1.2.1.2 k hk
  have ov0 := h.1.2.2.1 k hk
  have oc0 := (h.1.2.2.2.2 k hk).1
  refine h.fo f2 (orF_bk S k co) ?_ ?_ ⟨?_, fun u => ?_⟩ a4 a0
  · rw [ao, f2.2.2.2.2.1 (45 + 10 * k) (by omega) (by omega) (by omega) (by omega), f2.2.2.2.2.1 (46 + 10 * k) (by omega) (by omega) (by omega) (by omega)]; exact or0
  · rw [ao]; exact ov0
  · rw [ao]; exact oc0
  · have u' : cfU (stC S) k = true := u
    rw [hF.2.1] at u'; exact absurd u' (by decide)
theorem c_ordE {A : Nat → Nat} {M : Mm} {S : St} {B : Int} {k : Nat} (h : RC A M S) (hP : SP S B) (hk : k < 12) : En (sP M (A 4) 5 (some (A (41 + 10 * k))), stTp S, stL S, A 4, A 5, A (41 + 10 * k), A (42 + 10 * k), A (43 + 10 * k), A (44 + 10 * k)) (sP M (A 4) 5 (some (A (41 + 10 * k)))) := by
  have hs := h.sta
  have n : ∀ {i j : Nat}, i ≠ j → A i ≠ A j := fun h => hs.ne h
  obtain ⟨s1, s2, s3, s4, s5, s6, s7, s8, s9, s10⟩ := hs.2.2.2.1 k hk
  obtain ⟨x1, x2, x3, x4⟩ := hs.2.1.2.2.2.2.2.1
  refine ⟨⟨x1, ?_, ?_, x3, x4, h.2.2.2.2.2.1⟩, h.2.2.2.2.2.2.1, hP.2.2.2.2.2.2.2.2.1, ?_, n (by omega), n (by decide), n (by omega), n (by omega), n (by omega), n (by omega)⟩
  · show mP (sP M (A 4) 5 (some (A (41 + 10 * k)))) (A 4) 0 = some (A 5)
    rw [sP_w, mP_w, va_up_ne _ _ (by decide)]; exact x2
  · show mP (sP M (A 4) 5 (some (A (41 + 10 * k)))) (A 4) 5 = some (A (41 + 10 * k))
    rw [sP_w, mP_w, va_up_self]
  · obtain ⟨t1, t2, t3, t4, t5, t6, t7, t8, t9, t10⟩ := s9
    have eP : mP (sP M (A 4) 5 (some (A (41 + 10 * k)))) (A (41 + 10 * k)) = mP M (A (41 + 10 * k)) := by rw [sP_w, mP_wn _ _ (n (by omega))]
    exact ⟨t1, t2, t3, t4, t5, (congrFun eP 0).trans t6, (congrFun eP 1).trans t7, (congrFun eP 2).trans t8, t9, t10⟩
theorem c_ordR {K : Rs → Mm → Prop} {A : Nat → Nat} {M : Mm} {S : St} {B z w g v t : Int} {k zn : Nat} (h : RC A M S) (hP : SP S B) (ez : z = zn) (hz : zn < 4) (ok : okO w g v t) (hF : isF S k)
    (h4 : ∀ (co pl : Nat) M', pText (stTp S) (stL S) = .inl (co, pl) → FC A M M' → RC A M' (orF S co) → K (.inl (some (.int ((-2 : Int32) - i32 (pl : Nat))))) M')
    (h5 : ∀ (a1 : Nat) (c : Ct) M', pText (stTp S) (stL S) = .inr (a1, c) → FC A M M' → (∀ b, isB (ruOf c) b → RC A M' (orS S k zn w g v t (ruOf c) b)) → K (.inl (some (.int (i32 (k : Nat))))) M') :
    V_X4_read (kI (fun r17 M16 => (ob M16 (A 0) 6 ∧ ∀ M19, M19 = sI M16 (A 0) 5 r17 → ∃ b20, mP M19 (A 0) 3 = some b20 ∧ (ob M19 b20 4 ∧ ∀ M22, M22 = sI M19 b20 1 (i32 0) → (((mI M22 (A 0) 5) = i32 0 → (ob M22 (A (40 + 10 * k)) 2 ∧ V_X2_begin (kV (fun M24 => (ob M24 (A (40 + 10 * k)) 2 ∧ V_X2_settle (kV (fun M26 => K (.inl (some (.int (i32 (k : Nat))))) M26) (fun _ _ => False)) M24 (A (40 + 10 * k)) (i32 w) (i32 g) (i32 v) (i32 t))) (fun _ _ => False)) M22 (A (40 + 10 * k)) (i32 z) (A (20 + 3 * zn)))) ∧ (¬ (mI M22 (A 0) 5) = i32 0 → ∃ b27, mP M22 (A 0) 3 = some b27 ∧ (ob M22 b27 4 ∧ K (.inl (some (.int ((-2 : Int32) - (mI M22 b27 4))))) M22)))))) (fun _ _ => False)) M (A 4) (A (41 + 10 * k)) := by
  have hs := h.sta
  have hk := hF.1
  refine s_read (e := (sP M (A 4) 5 (some (A (41 + 10 * k))), stTp S, stL S, A 4, A 5, A (41 + 10 * k), A (42 + 10 * k), A (43 + 10 * k), A (44 + 10 * k))) (M := M) rfl (c_ordE h hP hk) (fun a1 c hp M' po => kI_i ?_) (fun co pl hp M' pf => kI_i ?_) hs.2.1.2.2.2.2.2.1.1
  · obtain ⟨p1, p2, p3, p4, p5, p6⟩ := po
    have sta' : Sta A M' := ((fo_read (r := i32 0) hs hk p2 rfl rfl).1.sta hs).congr rfl rfl rfl rfl
    refine ⟨sta'.2.1.1, fun M1 e1 => ⟨A 4, by rw [e1]; exact sta'.2.1.2.1.2.2.2.1, by rw [e1]; exact sta'.2.1.2.2.2.2.2.1.1, fun M2 e2 => ?_⟩⟩
    obtain ⟨f2, a0, a4, au, aJ, a44, ao⟩ := fo_read hs hk p2 e1 e2
    have st2 := f2.sta hs
    refine ⟨fun _ => ⟨(st2.2.2.2.1 k hk).1, ?_⟩, fun q => absurd a0 q⟩
    refine s_bs (zn := zn) (F := fun M26 => K (.inl (some (.int (i32 (k : Nat))))) M26) st2 hk (fun N fo eJ oth p5 X0 X4 X6 X7 X8 X9 X10 X11 X12 X14 X15 => ?_)
    exact h5 a1 c N hp ((f2.trans fo).fc hk) (fun b hb => c_ordS h hP ez hz ok hF hp hb p6.ru f2 a0 a4 au aJ ao fo eJ oth p5 X0 X4 X6 X7 X8 X9 X10 X11 X12 X14 X15)
  · obtain ⟨p1, p2, p3, p4, p5, p6⟩ := pf
    have sta' : Sta A M' := ((fo_read (r := i32 (co : Nat)) hs hk p2 rfl rfl).1.sta hs).congr rfl rfl rfl rfl
    refine ⟨sta'.2.1.1, fun M1 e1 => ⟨A 4, by rw [e1]; exact sta'.2.1.2.1.2.2.2.1, by rw [e1]; exact sta'.2.1.2.2.2.2.2.1.1, fun M2 e2 => ?_⟩⟩
    obtain ⟨f2, a0, a4, au, aJ, a44, ao⟩ := fo_read hs hk p2 e1 e2
    have st2 := f2.sta hs
    have p5' : mI M' (A 4) 4 = i32 (pl : Nat) := p5
    refine ⟨fun q => ?_, fun _ => ⟨A 4, st2.2.1.2.1.2.2.2.1, st2.2.1.2.2.2.2.2.1.1, ?_⟩⟩
    · rw [a0, i32_eq (by omega) (by omega) (by omega) (by omega)] at q; omega
    · rw [a44, p5']
      exact h4 co pl M2 hp (f2.fc hk) (c_ordF h hF f2 a0 a4 ao)
theorem c_order {K : Rs → Mm → Prop} {A : Nat → Nat} {M : Mm} {S : St} {B z w g v t : Int} (h : RC A M S) (hP : SP S B) (bz : -2147483648 ≤ z ∧ z ≤ 2147483647) (bw : -2147483648 ≤ w ∧ w ≤ 2147483647) (bg : -2147483648 ≤ g ∧ g ≤ 2147483647) (bv : -2147483648 ≤ v ∧ v ≤ 2147483647) (bt : -2147483648 ≤ t ∧ t ≤ 2147483647)
    (h1 : ¬ (0 ≤ z ∧ z ≤ 3) → K (.inr "java/lang/IndexOutOfBoundsException") M) (h2 : (0 ≤ z ∧ z ≤ 3) → ¬ okO w g v t → K (.inr "java/lang/IllegalArgumentException") M) (h3 : (0 ≤ z ∧ z ≤ 3) → okO w g v t → (∀ j, j < 12 → cfU (stC S) j = true) → K (.inr "java/lang/IllegalStateException") M)
    (h4 : ∀ (k zn co pl : Nat) M', z = zn → zn < 4 → okO w g v t → isF S k → pText (stTp S) (stL S) = .inl (co, pl) → FC A M M' → RC A M' (orF S co) → K (.inl (some (.int ((-2 : Int32) - i32 (pl : Nat))))) M')
    (h5 : ∀ (k zn a1 : Nat) (c : Ct) M', z = zn → zn < 4 → okO w g v t → isF S k → pText (stTp S) (stL S) = .inr (a1, c) → FC A M M' → (∀ b, isB (ruOf c) b → RC A M' (orS S k zn w g v t (ruOf c) b)) → K (.inl (some (.int (i32 (k : Nat))))) M') : V_X6_order K M (A 0) (i32 z) (i32 w) (i32 g) (i32 v) (i32 t) := by
  have hs := h.sta
  unfold V_X6_order V_X6_order_51 V_X6_order_79
  refine ⟨hs.2.1.1, s_znOf hs bz (fun q => kR_x (h1 q)) (fun zn ez hz => kR_s ?_)⟩
  have oz : 0 ≤ z ∧ z ≤ 3 := by omega
  have nok : ¬ ((0 ≤ w ∧ w ≤ 2) ∧ (0 ≤ g ∧ g ≤ 100000) ∧ (0 ≤ v ∧ v ≤ 2) ∧ (1 ≤ t ∧ t ≤ 10000)) → K (.inr "java/lang/IllegalArgumentException") M := h2 oz
  have h3 := h3 oz
  have h4' : okO w g v t → ∀ (k co pl : Nat) M', isF S k → pText (stTp S) (stL S) = .inl (co, pl) → FC A M M' → RC A M' (orF S co) → K (.inl (some (.int ((-2 : Int32) - i32 (pl : Nat))))) M' := fun ok k co pl M' => h4 k zn co pl M' ez hz ok
  have h5' : okO w g v t → ∀ (k a1 : Nat) (c : Ct) M', isF S k → pText (stTp S) (stL S) = .inr (a1, c) → FC A M M' → (∀ b, isB (ruOf c) b → RC A M' (orS S k zn w g v t (ruOf c) b)) → K (.inl (some (.int (i32 (k : Nat))))) M' := fun ok k a1 c M' => h5 k zn a1 c M' ez hz ok
  clear h1 h2 h4 h5
  rw [q_0, q_2, show (100000 : Int32) = i32 100000 by decide, q_1, show (10000 : Int32) = i32 10000 by decide, q_12]
  rw [i32_lt (a := w) (b := 0) bw.1 bw.2 (by decide) (by decide), i32_lt (a := 2) (b := w) (by decide) (by decide) bw.1 bw.2, i32_lt (a := g) (b := 0) bg.1 bg.2 (by decide) (by decide), i32_lt (a := 100000) (b := g) (by decide) (by decide) bg.1 bg.2, i32_lt (a := v) (b := 0) bv.1 bv.2 (by decide) (by decide), i32_lt (a := 2) (b := v) (by decide) (by decide) bv.1 bv.2, i32_lt (a := t) (b := 1) bt.1 bt.2 (by decide) (by decide), i32_le (a := t) (b := 10000) bt.1 bt.2 (by decide) (by decide)]
  clear bz bw bg bv bt
  refine ⟨fun q => nok (by omega), fun q1 => ⟨fun q => nok (by omega), fun q2 => ⟨fun q => nok (by omega), fun q3 => ⟨fun q => nok (by omega), fun q4 => ⟨fun q => nok (by omega), fun q5 => ⟨fun q => nok (by omega), fun q6 => ⟨fun q => nok (by omega), fun q7 => ⟨fun q8 => ⟨hs.2.1.1, ?_⟩, fun q => nok (by omega)⟩⟩⟩⟩⟩⟩⟩⟩
  have ok : okO w g v t := ⟨by omega, by omega, by omega, by omega⟩
  have h4' := h4' ok
  have h5' := h5' ok
  have h3 := h3 ok
  clear q1 q2 q3 q4 q5 q6 q7 q8 nok
  refine s_lfn h (fun q => kI_i ⟨fun _ => h3 q, fun q2 => absurd (by decide) q2⟩) (fun k hF => kI_i ?_)
  have hk := hF.1
  obtain ⟨s1, s2, s3, s4, s5, s6, s7, s8, s9, s10⟩ := hs.2.2.2.1 k hk
  have k1 : ¬ i32 (k : Nat) < i32 0 := by rw [i32_lt (by omega) (by omega) (by omega) (by omega)]; omega
  have k2 : i32 (k : Nat) < i32 12 := by rw [i32_lt (by omega) (by omega) (by omega) (by omega)]; omega
  refine ⟨fun q => absurd q k1, fun _ => ⟨fun _ => ⟨hs.2.1.1, A 3, hs.2.1.2.1.2.2.1, hs.2.1.2.2.2.2.1.1, by rw [hs.2.1.2.2.2.2.1.2]; exact i32_in (by omega) (by omega) (by omega), A (40 + 10 * k), by rw [i32_clamp (by omega) (by omega), Int.toNat_natCast]; exact s10, A 4, hs.2.1.2.1.2.2.2.1, s1, A (41 + 10 * k), s2, hs.2.1.2.2.2.2.2.1.1, ?_⟩, fun q => absurd k2 q⟩⟩
  exact c_ordR h hP ez hz ok hF (fun co pl M' => h4' k co pl M' hF) (fun a1 c M' => h5' k a1 c M' hF)
