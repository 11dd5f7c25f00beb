/-! sleep, pass, wake -/
theorem nx8 {G : Gx} {K : Rs → Mm → Prop} {B23 : Mm → Nat → Nat → Nat → Int32 → Prop} {A : Nat → Nat} {M : Mm} {S : St} {B : Int} {l4 : Int32} (nxt : ∀ M' S', RC A M' S' → RM A M' S' → SP S' (B + 1300000) → B23 M' (A 0) (A 11) (A 12) (l4 + 7)) (h1 : RC A M S) (h2 : RM A M S) (h3 : SP S (B + 1300000)) : V_L_law_1601 G K B23 M (A 0) (A 11) (A 12) l4 := by
  unfold V_L_law_1601
  intro x1 ex
  rw [ex]
  exact nxt M S h1 h2 h3
def stSA (S : St) (s : Int) (a : Bool) : St := (S.1, S.2.1, S.2.2.1, S.2.2.2.1, S.2.2.2.2.1, s, a, S.2.2.2.2.2.2.2)
theorem RC.s8 {A : Nat → Nat} {M : Mm} {S : St} (h : RC A M S) (a : Bool) : RC A (sI M (A 0) 8 (bI a)) (stSA S (stS S) a) ∧ FC A M (sI M (A 0) 8 (bI a)) := by
  have hs := h.sta
  obtain ⟨h1, h2, h3, h4, h5, h6, h7, h8, h9⟩ := h
  have r : ∀ i, i ≠ 0 → mI (sI M (A 0) 8 (bI a)) (A i) = mI M (A i) := fun i c => by rw [sI_w, mI_wn _ _ (hs.ne c)]
  have p : ∀ q, q ≠ 8 → mI (sI M (A 0) 8 (bI a)) (A 0) q = mI M (A 0) q := fun q c => by rw [sI_w, mI_w, va_up_ne _ _ c]
  refine ⟨⟨h1.x0 (by decide), fun k hk hu => by rw [r _ (by omega)]; exact h2 k hk hu, fun z hz => ?_, by rw [p 7 (by decide)]; exact h4, by rw [sI_w, mI_w, va_up_self]; rfl, by rw [r 4 (by decide)]; exact h6, fun i hi => by rw [r 5 (by decide)]; exact h7 i hi, by rw [p 5 (by decide)]; exact h8, fun k hk hu => by rw [r _ (by omega)]; exact h9 k hk hu⟩, by rw [sI_w]; exact FC.wx hs (by decide) _⟩
  obtain ⟨z1, z2, z3, z4, z5, z6, z7, z8, z9, z10⟩ := h3 z hz
  exact ⟨z1, z2, z3, z4, z5, z6, z7, by rw [r _ (by omega)]; exact z8, by rw [r _ (by omega)]; exact z9, by rw [r _ (by omega)]; exact z10⟩
theorem RC.s7 {A : Nat → Nat} {M : Mm} {S : St} (h : RC A M S) (s : Int) : RC A (sI M (A 0) 7 (i32 s)) (stSA S s (stA S)) ∧ FC A M (sI M (A 0) 7 (i32 s)) := by
  have hs := h.sta
  obtain ⟨h1, h2, h3, h4, h5, h6, h7, h8, h9⟩ := h
  have r : ∀ i, i ≠ 0 → mI (sI M (A 0) 7 (i32 s)) (A i) = mI M (A i) := fun i c => by rw [sI_w, mI_wn _ _ (hs.ne c)]
  have p : ∀ q, q ≠ 7 → mI (sI M (A 0) 7 (i32 s)) (A 0) q = mI M (A 0) q := fun q c => by rw [sI_w, mI_w, va_up_ne _ _ c]
  refine ⟨⟨h1.x0 (by decide), fun k hk hu => by rw [r _ (by omega)]; exact h2 k hk hu, fun z hz => ?_, by rw [sI_w, mI_w, va_up_self]; rfl, by rw [p 8 (by decide)]; exact h5, by rw [r 4 (by decide)]; exact h6, fun i hi => by rw [r 5 (by decide)]; exact h7 i hi, by rw [p 5 (by decide)]; exact h8, fun k hk hu => by rw [r _ (by omega)]; exact h9 k hk hu⟩, by rw [sI_w]; exact FC.wx hs (by decide) _⟩
  obtain ⟨z1, z2, z3, z4, z5, z6, z7, z8, z9, z10⟩ := h3 z hz
  exact ⟨z1, z2, z3, z4, z5, z6, z7, by rw [r _ (by omega)]; exact z8, by rw [r _ (by omega)]; exact z9, by rw [r _ (by omega)]; exact z10⟩
theorem RM.s53 {A : Nat → Nat} {M : Mm} {S : St} (h : RM A M S) (a : Bool) : RM A (sI M (A 11) 53 (bI (!a))) (stSA S (stS S) a) ∧ FM A M (sI M (A 11) 53 (bI (!a))) ∧ mI (sI M (A 11) 53 (bI (!a))) (A 11) 0 = mI M (A 11) 0 := by
  have hs := h.sta
  obtain ⟨h1, h2, h3, h4, h5, h6, h7, h8⟩ := h
  have r : ∀ i, i ≠ 11 → mI (sI M (A 11) 53 (bI (!a))) (A i) = mI M (A i) := fun i c => by rw [sI_w, mI_wn _ _ (hs.ne c)]
  have p : ∀ q, q ≠ 53 → mI (sI M (A 11) 53 (bI (!a))) (A 11) q = mI M (A 11) q := fun q c => by rw [sI_w, mI_w, va_up_ne _ _ c]
  exact ⟨⟨h1.x (by decide) (by decide) (by decide), fun k hk hu => by rw [r 228 (by decide), r 229 (by decide)]; exact h2 k hk hu, fun z hz => (h3 z hz).cg (fun i hi => r i (by omega)), by rw [p 54 (by decide)]; exact h4, by rw [sI_w, mI_w, va_up_self]; rfl, by rw [p 11 (by decide)]; exact h6, fun i hi => by rw [r 210 (by decide)]; exact h7 i hi, by rw [p 15 (by decide)]; exact h8⟩, by rw [sI_w]; exact FM.wm hs (.inl rfl) _, p 0 (by decide)⟩
theorem RM.s54 {A : Nat → Nat} {M : Mm} {S : St} (h : RM A M S) (s : Int) : RM A (sI M (A 11) 54 (i32 s)) (stSA S s (stA S)) ∧ FM A M (sI M (A 11) 54 (i32 s)) ∧ mI (sI M (A 11) 54 (i32 s)) (A 11) 0 = mI M (A 11) 0 := by
  have hs := h.sta
  obtain ⟨h1, h2, h3, h4, h5, h6, h7, h8⟩ := h
  have r : ∀ i, i ≠ 11 → mI (sI M (A 11) 54 (i32 s)) (A i) = mI M (A i) := fun i c => by rw [sI_w, mI_wn _ _ (hs.ne c)]
  have p : ∀ q, q ≠ 54 → mI (sI M (A 11) 54 (i32 s)) (A 11) q = mI M (A 11) q := fun q c => by rw [sI_w, mI_w, va_up_ne _ _ c]
  exact ⟨⟨h1.x (by decide) (by decide) (by decide), fun k hk hu => by rw [r 228 (by decide), r 229 (by decide)]; exact h2 k hk hu, fun z hz => (h3 z hz).cg (fun i hi => r i (by omega)), by rw [sI_w, mI_w, va_up_self]; rfl, by rw [p 53 (by decide)]; exact h5, by rw [p 11 (by decide)]; exact h6, fun i hi => by rw [r 210 (by decide)]; exact h7 i hi, by rw [p 15 (by decide)]; exact h8⟩, by rw [sI_w]; exact FM.wm hs (.inl rfl) _, p 0 (by decide)⟩
theorem l_sleep {G : Gx} {K : Rs → Mm → Prop} {B23 : Mm → Nat → Nat → Nat → Int32 → Prop} {A : Nat → Nat} {M : Mm} {S : St} {B : Int} {l4 : Int32} (hR : RG A M S B) (nxt : ∀ M' S', RC A M' S' → RM A M' S' → SP S' (B + 1300000) → B23 M' (A 0) (A 11) (A 12) (l4 + 7)) : V_L_law_1396 G K B23 M (A 0) (A 11) (A 12) l4 := by
  obtain ⟨hC, hM, hP, _⟩ := hR
  unfold V_L_law_1396 V_L_sleep V_X6_sleep V_X7_sleep V_X7_sleep_13 V_X7_sleep_36
  refine ⟨hC.sta.2.1.1, hC.sta.2.1.1, fun q M2 e2 M3 e3 => kV_i (kI_i ?_), fun q => kV_x ⟨rfl, kI_i ?_⟩⟩
  · have ha : stA S = true := by rw [hC.2.2.2.2.1, bI_ne0 (stA S)] at q; exact q
    obtain ⟨r2, f2⟩ := hC.s8 false
    have e2' : M2 = sI M (A 0) 8 (bI false) := e2
    rw [← e2'] at r2 f2
    obtain ⟨r3, f3⟩ := r2.s7 (stN S)
    have e6 : mI M2 (A 0) 6 = i32 (stN S) := r2.1.2.2.2.1
    rw [e6] at e3
    rw [← e3] at r3 f3
    have hM3 := hM.fr (f2.trans f3) r3.sta
    refine ⟨r3.sta.2.2.2.2.1.1, r3.sta.2.2.2.2.1.1, fun _ => ⟨r3.sta.2.2.2.2.1.1, fun M5 e5 => ?_⟩, fun q2 => ?_⟩
    · obtain ⟨r5, f5, c5⟩ := hM3.w0 0
      rw [← e5] at r5 f5 c5
      refine ⟨r5.sta.2.2.2.2.1.1, fun q2 => absurd c5 q2, fun _ M6 e6 M7 e7 => kV_i ?_⟩
      obtain ⟨r6, f6, c6⟩ := r5.s53 false
      have e6' : M6 = sI M5 (A 11) 53 (bI (!false)) := e6
      rw [← e6'] at r6 f6 c6
      obtain ⟨r7, f7, c7⟩ := r6.s54 (stN S)
      have e52 : mI M6 (A 11) 52 = i32 (stN S) := r6.1.2.2.2.1
      rw [e52] at e7
      rw [← e7] at r7 f7 c7
      refine tailV r7.sta (c7.trans (c6.trans c5)) (nx8 nxt (r3.fr ((f5.trans f6).trans f7).1) r7 ?_)
      obtain ⟨h1, h2, h3, h4, h5, h6, h7, h8, h9, h10⟩ := hP
      exact ⟨h1, h2, h3, h4, fun c => absurd (show false = true from c) (by decide), h6, ⟨h6.1, h6.2, fun _ => Int.le_refl _⟩, h8, h9, by show dC (stD S) ≤ _; omega⟩
    · rw [hM3.2.2.2.2.1, ha] at q2
      exact absurd rfl q2
  · have ha : stA S = false := by rw [hC.2.2.2.2.1, bI_0 (stA S)] at q; exact q
    have md := hC.sta.2.2.2.2.1.1
    refine ⟨md, md, fun q2 => ?_, fun _ => ⟨md, fun M5 e5 => ?_⟩⟩
    · rw [hM.2.2.2.2.1, ha] at q2
      exact absurd q2 (by decide)
    · obtain ⟨r5, f5, c5⟩ := hM.w0 1
      rw [← e5] at r5 f5 c5
      refine ⟨r5.sta.2.2.2.2.1.1, fun _ => kV_i (tailV r5.sta c5 (nx7 nxt (hC.fr f5.1) r5 hP)), fun q2 => ?_⟩
      rw [c5] at q2; exact absurd q2 (by decide)
theorem pss_iv {c : Cf} (ht : tkOk (cfT c)) (h1 : c1 c) : ∀ (n : Nat) (now : Int) (D : Dk), 0 ≤ now ∧ now + n ≤ 157785119 → Iv now (cfU c) (cfT c) D → awD now D → Iv (now + n) (cfU c) (cfT c) (pss c n now D) ∧ awD (now + n) (pss c n now D) ∧ dC (pss c n now D) ≤ dC D + 228 * n
  | 0, now, D, _, hI, hA => by
    rw [show now + ((0 : Nat) : Int) = now by omega]
    exact ⟨hI, hA, by show dC D ≤ dC D + 228 * 0; omega⟩
  | n + 1, now, D, hb, hI, hA => by
    have hI' := hI.mono (t := now + 1) (by omega)
    have hM := mstep_iv ht (t := now + 1) (by omega) hI'
    have := pss_iv ht h1 n (now + 1) (mstep c (now + 1) D) (by omega) hM.1 (mstep_aw ht h1 hI')
    rw [show now + ((n + 1 : Nat) : Int) = now + 1 + n by omega]
    refine ⟨this.1, this.2.1, ?_⟩
    have e := this.2.2
    show dC (pss c n (now + 1) (mstep c (now + 1) D)) ≤ _
    omega
def lim (S : St) : Int := if stA S = true then 3000 else 3000000
def psS (S : St) (N : Int) : St := stDN S (if stA S = true then pss (stC S) N.toNat (stN S) (stD S) else stD S) (stN S + N)
theorem psS_sp {S : St} {B N : Int} (hP : SP S B) (ok : (0 ≤ N ∧ N ≤ lim S) ∧ N ≤ 157785119 - stN S) : SP (psS S N) (B + 1300000) := by
  obtain ⟨h1, h2, h3, h4, h5, h6, h7, h8, h9, h10⟩ := hP
  unfold lim at ok
  unfold psS
  by_cases ha : stA S = true
  · rw [if_pos ha] at ok ⊢
    have := pss_iv h1 h3 N.toNat (stN S) (stD S) (by omega) h4 (h5 ha)
    rw [show stN S + (N.toNat : Int) = stN S + N by omega] at this
    exact ⟨h1, h2, h3, this.1, fun _ => this.2.1, by show 0 ≤ stN S + N ∧ stN S + N ≤ 157785119; omega, ⟨h7.1, h7.2.1, fun c => by have c' : stA S = false := c; rw [ha] at c'; exact absurd c' (by decide)⟩, h8, h9, by have := this.2.2; show dC (pss (stC S) N.toNat (stN S) (stD S)) ≤ _; omega⟩
  · rw [if_neg ha] at ok ⊢
    have hf : stA S = false := by rcases e : stA S with _ | _; rfl; exact absurd e ha
    have h73 := h7.2.2 hf
    exact ⟨h1, h2, h3, h4.mono (by show stN S ≤ stN S + N; omega), fun c => absurd c ha, by show 0 ≤ stN S + N ∧ stN S + N ≤ 157785119; omega, ⟨h7.1, h7.2.1, fun c => by show stS S ≤ stN S + N; omega⟩, h8, h9, by show dC (stD S) ≤ _; omega⟩
theorem c_pass {K : Rs → Mm → Prop} {A : Nat → Nat} {M : Mm} {S : St} {B N : Int} (h : RC A M S) (hP : SP S B) (hB : B ≤ 900000000) (bt : -2147483648 ≤ N ∧ N ≤ 2147483647) (h1 : ¬ ((0 ≤ N ∧ N ≤ lim S) ∧ N ≤ 157785119 - stN S) → K (.inr "java/lang/IllegalArgumentException") M) (h3 : ∀ M', (0 ≤ N ∧ N ≤ lim S) ∧ N ≤ 157785119 - stN S → FC A M M' → RC A M' (psS S N) → K (.inl (some (.int (i32 (stN S + N))))) M') : V_X6_pass K M (A 0) (i32 N) := by
  have hs := h.sta
  have hn := hP.2.2.2.2.2.1
  have fin : ∀ M1 D', Fw A M M1 → CW A M1 (stC S) D' (stN S + N) → psS S N = stDN S D' (stN S + N) → (0 ≤ N ∧ N ≤ lim S) ∧ N ≤ 157785119 - stN S → V_X6_pass_67 K M1 (A 0) (i32 (stN S + N)) := by
    intro M1 D' f w e ok
    unfold V_X6_pass_67
    refine ⟨w.1.2.1.1, fun M2 e2 => ?_⟩
    obtain ⟨w2, f2⟩ := w.clk (t := stN S + N)
    rw [← e2] at w2 f2
    rw [w2.2.2.2.1]
    refine h3 M2 ok (f.trans f2).fc ?_
    rw [e]
    exact h.fw (f.trans f2) w2
  have go : V_X6_pass_16 K M (A 0) (i32 N) (i32 (lim S)) := by
    have hl : 0 ≤ lim S ∧ lim S ≤ 3000000 := by unfold lim; split <;> omega
    unfold V_X6_pass_16 V_X6_pass_37
    rw [h.1.2.2.2.1, q_0, show (157785119 : Int32) = i32 157785119 by decide, i32_sub, i32_add, i32_lt (a := N) (b := 0) (by omega) (by omega) (by omega) (by omega), i32_lt (a := lim S) (b := N) (by omega) (by omega) (by omega) (by omega), i32_le (by omega) (by omega) (by omega) (by omega)]
    refine ⟨fun q => h1 (by omega), fun q => ⟨fun q2 => h1 (by omega), fun q2 => ⟨hs.2.1.1, fun q3 x2 e2 => ?_, fun q3 => h1 (by omega)⟩⟩⟩
    have ok : (0 ≤ N ∧ N ≤ lim S) ∧ N ≤ 157785119 - stN S := by omega
    rw [e2, h.2.2.2.2.1, ← q_0, bI_ne0 (stA S), bI_0 (stA S)]
    refine ⟨fun qa => ?_, fun qa => ?_⟩
    · unfold V_X6_pass_67
      refine ⟨hs.2.1.1, fun M2 e2 => ?_⟩
      obtain ⟨w2, f2⟩ := h.1.clk (t := stN S + N)
      rw [← e2] at w2 f2
      rw [w2.2.2.2.1]
      refine h3 M2 ok f2.fc ?_
      unfold psS
      rw [if_neg (by rw [qa]; decide)]
      exact h.fw f2 w2
    · unfold lim at ok
      rw [if_pos qa] at ok
      have ok' : (0 ≤ N ∧ N ≤ lim S) ∧ N ≤ 157785119 - stN S := by unfold lim; rw [if_pos qa]; exact ok
      refine s_until hP.1 (by omega) (by omega) (by omega) h.1 hP.2.2.2.1 (by have := hP.2.2.2.2.2.2.2.2.2; have : dC (stD S) ≤ B := this; omega) (fun M' f' w' => kV_i ?_)
      rw [show (stN S + N - stN S).toNat = N.toNat by omega] at w'
      exact fin M' _ f' w' (by unfold psS; rw [if_pos qa]) ok'
  unfold V_X6_pass
  rw [h.2.2.2.2.1, bI_ne0 (stA S), bI_0 (stA S)]
  refine ⟨hs.2.1.1, fun q => ?_, fun q => ?_⟩
  · unfold lim at go; rw [if_neg (by rw [q]; decide)] at go; exact go
  · unfold lim at go; rw [if_pos q] at go; exact go
