/-! the model's walk -/
def Al (z : Zo) (how f l t : Int) : Prop := if how = 1 then (t = l ∨ t = zL z (zK z t (zN z)) ∨ (t + zA z t) % 1440 = 1439) else (t = f ∨ t = zB z (zK z t (zN z)) ∨ (t + zA z t) % 1440 = 0)
def wX (how f l : Int) (j : Nat) : Int := if how = 1 then l - j else f + j
theorem zB_lt {z : Zo} (hz : wfZ z) {k : Nat} (hk : k < zN z) : zB z k ≤ zB z (k + 1) := by
  by_cases c : k = 0
  · subst c; rw [hz.2.1]; exact (hz.2.2.1 1 (by omega)).1
  · exact Int.le_of_lt (hz.2.2.2.1 k (by omega) hk)
/-- where the walk goes on, a day or a stretch begins, or ends -/
theorem Al_up {z : Zo} (hz : wfZ z) {how f l t n en : Int} {s : Nat} (h1 : ¬ how = 1) (ht : 0 ≤ t ∧ t ≤ 157785119) (hl : l ≤ 157785119) (es : s = zK z t (zN z)) (en0 : n = (t + zA z t) / 1440) (een : en = min (min (1440 * n - zA z t + 1440 - 1) (zL z s)) l) (hle : en + 1 ≤ l) : Al z how f l (en + 1) := by
  have hin := zK_in hz ht
  rw [← es] at hin
  have hs : s ≤ zN z := by rw [es]; exact zK_le _ _ _
  have hA : zA z t = zF z s := by unfold zA; rw [← es]
  have hLb := zL_b hz hs
  unfold Al
  rw [if_neg h1]
  by_cases c : en = zL z s
  · have hsn : s < zN z := by
      by_cases c2 : s < zN z
      · exact c2
      · have : zL z s = 157785119 := by unfold zL; rw [if_neg c2]
        omega
    have eL : zL z s = zB z (s + 1) - 1 := by unfold zL; rw [if_pos hsn]
    have hk : zK z (en + 1) (zN z) = s + 1 := by
      refine zK_of hz (by omega) (by omega) ?_
      unfold zL
      split
      · have := hz.2.2.2.1 (s + 1) (by omega) (by omega)
        omega
      · omega
    rw [hk]
    exact .inr (.inl (by omega))
  · have hA' := zA_of hz (t := en + 1) hs (by omega) (by omega)
    rw [hA', ← hA]
    exact .inr (.inr (by omega))
theorem Al_dn {z : Zo} (hz : wfZ z) {how f l t n bg : Int} {s : Nat} (h1 : how = 1) (ht : 0 ≤ t ∧ t ≤ 157785119) (hf : 0 ≤ f) (es : s = zK z t (zN z)) (en0 : n = (t + zA z t) / 1440) (ebg : bg = max (max (1440 * n - zA z t) (zB z s)) f) (hle : f ≤ bg - 1) : Al z how f l (bg - 1) := by
  have hin := zK_in hz ht
  rw [← es] at hin
  have hs : s ≤ zN z := by rw [es]; exact zK_le _ _ _
  have hA : zA z t = zF z s := by unfold zA; rw [← es]
  unfold Al
  rw [if_pos h1]
  by_cases c : bg = zB z s
  · have hs1 : 1 ≤ s := by
      by_cases c2 : s = 0
      · rw [c2, hz.2.1] at c; omega
      · omega
    have hlt := zB_lt hz (k := s - 1) (by omega)
    rw [show s - 1 + 1 = s by omega] at hlt
    have eL : zL z (s - 1) = bg - 1 := by unfold zL; rw [if_pos (by omega), show s - 1 + 1 = s by omega, c]
    have hb : zB z (s - 1) ≤ bg - 1 := by
      by_cases c2 : s - 1 = 0
      · rw [c2, hz.2.1]; omega
      · have := hz.2.2.2.1 (s - 1) (by omega) (by omega)
        rw [show s - 1 + 1 = s by omega] at this
        omega
    have hk : zK z (bg - 1) (zN z) = s - 1 := zK_of hz (by omega) hb (by omega)
    rw [hk]
    exact .inr (.inl (by omega))
  · have hA' := zA_of hz (t := bg - 1) hs (by omega) (by omega)
    rw [hA', ← hA]
    exact .inr (.inr (by omega))
theorem s7_w36 {K : Rs → Mm → Prop} {M0 : Mm} {m k i : Nat} {ar : Nat → Nat} {r : Ru} {z : Zo} {b : Int → Bool} {how f l : Int} (ho : Om M0 m ar k r i z b) (hw : 0 ≤ how ∧ how ≤ 2) (hf : 0 ≤ f ∧ f ≤ l + 1) (hl : -1 ≤ l ∧ l ≤ 157785119)
    (hK : ∀ M' fd ft, Sm m M0 M' → mI M' m 49 = i32 fd → mI M' m 50 = i32 ft → U (mt b r z) (wX how f l) (decide (how = 2)) (l + 1 - f).toNat fd ft → K (.inl none) M') :
    ∀ (w : Nat) (M : Mm) (q : Nat) (fd ft : Int), (q : Int) ≤ l + 1 - f → l + 1 - f ≤ q + w → Sm m M0 M → mI M m 49 = i32 fd → mI M m 50 = i32 ft → U (mt b r z) (wX how f l) (decide (how = 2)) q fd ft → ((q : Int) < l + 1 - f → Al z how f l (wX how f l q)) → V_X7_walk_36 K (w + 1) M m (i32 (k : Nat)) (i32 f) (i32 l) (i32 how) (i32 (i : Nat)) (i32 (wX how f l q)) := by
  intro w
  induction w with
  | zero =>
    intro M q fd ft q1 q2 hsm h49 h50 hU hAl
    have eq : q = (l + 1 - f).toNat := by omega
    subst eq
    have fin := hK M fd ft hsm h49 h50 hU
    have hb : -1 ≤ wX how f l (l + 1 - f).toNat ∧ wX how f l (l + 1 - f).toNat ≤ 157785120 := by unfold wX; split <;> omega
    have out : wX how f l (l + 1 - f).toNat < f ∨ l < wX how f l (l + 1 - f).toNat := by unfold wX; split <;> omega
    unfold V_X7_walk_36 V_X7_walk_267
    rw [i32_lt (by omega) (by omega) (by omega) (by omega), i32_lt (by omega) (by omega) (by omega) (by omega)]
    exact ⟨fun _ => fin, fun c1 => ⟨fun _ => fin, fun c2 => absurd out (by omega)⟩⟩
  | succ w ih =>
    intro M q fd ft q1 q2 hsm h49 h50 hU hAl
    obtain ⟨t, et⟩ : ∃ t, t = wX how f l q := ⟨_, rfl⟩
    rw [← et] at hAl ⊢
    have htb : -1 ≤ t ∧ t ≤ 157785120 := by rw [et]; unfold wX; split <;> omega
    unfold V_X7_walk_36 V_X7_walk_267
    rw [i32_lt (by omega) (by omega) (by omega) (by omega), i32_lt (by omega) (by omega) (by omega) (by omega)]
    have atEnd : (t < f ∨ l < t) → K (.inl none) M := by
      intro c
      have eq : q = (l + 1 - f).toNat := by rw [et] at c; unfold wX at c; split at c <;> omega
      rw [eq] at hU
      exact hK M fd ft hsm h49 h50 hU
    refine ⟨fun c => atEnd (.inl c), fun c1 => ⟨fun c => atEnd (.inr c), fun c2 => ?_⟩⟩
    have hq : (q : Int) < l + 1 - f := by rw [et] at c1 c2; unfold wX at c1 c2; split at c1 <;> omega
    have hal := hAl hq
    have ho1 := hsm.om ho
    obtain ⟨hs, hk, hr, hi, h27, hz, hzw, hb⟩ := ho1
    have hfd := hU.1
    have go : V_X7_walk_61 K (fun M l0 l1 l2 l3 l4 l5 l6 => V_X7_walk_36 K (w + 1) M l0 l1 l2 l3 l4 l5 l6) M m (i32 (k : Nat)) (i32 f) (i32 l) (i32 how) (i32 (i : Nat)) (i32 t) := by
      obtain ⟨s, es⟩ : ∃ s, s = zK z t (zN z) := ⟨_, rfl⟩
      have hsn : s ≤ zN z := by rw [es]; exact zK_le _ _ _
      have hin := zK_in hzw (t := t) (by omega)
      rw [← es] at hin
      have hA : zA z t = zF z s := by unfold zA; rw [← es]
      have hAb := zA_b hzw t
      have hLb := zL_b hzw hsn
      have hBb := hzw.2.2.1 s hsn
      obtain ⟨n, en0⟩ : ∃ n, n = (t + zA z t) / 1440 := ⟨_, rfl⟩
      obtain ⟨bg, ebg⟩ : ∃ bg, bg = max (max (1440 * n - zA z t) (zB z s)) f := ⟨_, rfl⟩
      obtain ⟨en, een⟩ : ∃ en, en = min (min (1440 * n - zA z t + 1440 - 1) (zL z s)) l := ⟨_, rfl⟩
      have hbe : f ≤ bg ∧ bg ≤ t ∧ t ≤ en ∧ en ≤ l ∧ 1440 * n - zA z t ≤ bg ∧ en ≤ 1440 * n - zA z t + 1439 ∧ zB z s ≤ bg ∧ en ≤ zL z s := by omega
      have side : if how = 1 then en = t else bg = t := by
        unfold Al at hal
        rw [← es] at hal
        split
        · rename_i c
          rw [if_pos c] at hal
          omega
        · rename_i c
          rw [if_neg c] at hal
          omega
      have hmt : ∀ t', bg ≤ t' → t' ≤ en → mt b r z t' = (b n && tm r (t' + (zA z t - 1440 * n)).toNat) := by
        intro t' a1 a2
        rw [mt_of hzw hsn (by omega) (by omega), ← hA, mb_day (D := n) (by omega), show t' + zA z t - 1440 * n = t' + (zA z t - 1440 * n) by omega]
      have hx : ∀ j : Nat, (j : Int) ≤ en - bg → wX how f l (q + j) = (if how = 1 then en - j else bg + j) := by
        intro j hj
        unfold wX at et ⊢
        split
        · rename_i c
          rw [if_pos c] at et side
          omega
        · rename_i c
          rw [if_neg c] at et side
          omega
      have next : ∀ M' fd ft, Sm m M0 M' → mI M' m 49 = i32 fd → mI M' m 50 = i32 ft → U (mt b r z) (wX how f l) (decide (how = 2)) (q + (en - bg + 1).toNat) fd ft → V_X7_walk_245 K (fun M l0 l1 l2 l3 l4 l5 l6 => V_X7_walk_36 K (w + 1) M l0 l1 l2 l3 l4 l5 l6) M' m (i32 (k : Nat)) (i32 f) (i32 l) (i32 how) (i32 (i : Nat)) (i32 bg) (i32 en) := by
        intro M' fd ft g1 g2 g3 g4
        unfold V_X7_walk_245 V_X7_walk_262
        rw [q_1, i32_eq (by omega) (by omega) (by omega) (by omega), i32_add, i32_sub]
        have hstep := ih M' (q + (en - bg + 1).toNat) fd ft
        refine ⟨fun c => ?_, fun c => ?_⟩
        · rw [if_neg c] at side
          have e9 : wX how f l (q + (en - bg + 1).toNat) = en + 1 := by unfold wX at et ⊢; rw [if_neg c] at et ⊢; omega
          rw [e9] at hstep
          have : (q : Int) = t - f := by unfold wX at et; rw [if_neg c] at et; omega
          exact hstep (by omega) (by omega) g1 g2 g3 g4 (fun c9 => Al_up hzw c (by omega) hl.2 es en0 een (by omega))
        · rw [if_pos c] at side
          have e9 : wX how f l (q + (en - bg + 1).toNat) = bg - 1 := by unfold wX at et ⊢; rw [if_pos c] at et ⊢; omega
          rw [e9] at hstep
          have : (q : Int) = l - t := by unfold wX at et; rw [if_pos c] at et; omega
          exact hstep (by omega) (by omega) g1 g2 g3 g4 (fun c9 => Al_dn hzw c (by omega) hf.1 es en0 ebg (by omega))
      have w197 : V_X7_walk_197 K (fun M l0 l1 l2 l3 l4 l5 l6 => V_X7_walk_36 K (w + 1) M l0 l1 l2 l3 l4 l5 l6) M m (i32 (k : Nat)) (i32 f) (i32 l) (i32 how) (i32 (i : Nat)) (i32 (zA z t)) (i32 n) (i32 bg) (i32 en) := by
        unfold V_X7_walk_197
        obtain ⟨y, mo, d, hd⟩ := isD_ex (n := n) (by omega)
        refine ⟨hs.1, s7_date hd hs.1 (fun rr hrr => kV_i ⟨hs.1, ?_⟩)⟩
        have hsm2 := hrr.sm
        have r49 : mI (wI M m rr) m 49 = i32 fd := by rw [mI_w, hrr.2.2.2.2.2 49 (by omega)]; exact h49
        have r50 : mI (wI M m rr) m 50 = i32 ft := by rw [mI_w, hrr.2.2.2.2.2 50 (by omega)]; exact h50
        rw [mI_w, hrr.1, hrr.2.1, hrr.2.2.1]
        refine s7_whl (hsm2.md hs) hk (hsm2.mr hs hr) hd.1 hd.2.1 hd.2.2.1 (fun bb hbb => kI_i ?_)
        have ebb : bb = b n := by rw [Bool.eq_iff_iff, hbb, hb n (by omega) (by omega), rt_of hd]
        rw [bI_ne0, bI_0]
        refine ⟨fun c => next _ fd ft (hsm.trans hsm2) r49 r50 (hU.skip _ (fun j hj => ?_)), fun c => ⟨hs.1, ?_⟩⟩
        · rw [hx j (by omega), hmt _ (by split <;> omega) (by split <;> omega), ← ebb, c]; rfl
        · rw [q_1440, i32_mul, i32_sub]
          refine s7_look (hsm2.md hs) hk (hsm2.mr hs hr) hw (by omega) (by omega) hx (fun t' a1 a2 => ?_) r49 r50 hU (fun M' fd ft g1 g2 g3 g4 => kV_i (next M' fd ft ((hsm.trans hsm2).trans g1) g2 g3 g4))
          rw [hmt t' a1 a2, ← ebb, c, Bool.true_and]
      unfold V_X7_walk_61
      refine ⟨hs.1, s7_st hs hi hz hzw (by omega) (kI_i ⟨hs.1, ?_⟩)⟩
      rw [← es]
      refine s7_off hs hi hz hzw hsn (kI_i ?_)
      rw [← hA, i32_add, q_1440]
      refine s7_floor (by omega) (by omega) (by decide) (by decide) (kI_i (fun x9 e9 x10 e10 => ⟨hs.1, ?_⟩))
      rw [← en0, i32_mul, i32_sub] at e9
      subst e9
      rw [i32_add, q_1, i32_sub] at e10
      subst e10
      rw [← en0]
      have w141 : ∀ b0, b0 = max (1440 * n - zA z t) (zB z s) → V_X7_walk_141 K (fun M l0 l1 l2 l3 l4 l5 l6 => V_X7_walk_36 K (w + 1) M l0 l1 l2 l3 l4 l5 l6) M m (i32 (k : Nat)) (i32 f) (i32 l) (i32 how) (i32 (i : Nat)) (i32 (s : Nat)) (i32 (zA z t)) (i32 n) (i32 (1440 * n - zA z t + 1440 - 1)) (i32 b0) := by
        intro b0 eb0
        have w169 : ∀ e0, e0 = min (1440 * n - zA z t + 1440 - 1) (zL z s) → V_X7_walk_169 K (fun M l0 l1 l2 l3 l4 l5 l6 => V_X7_walk_36 K (w + 1) M l0 l1 l2 l3 l4 l5 l6) M m (i32 (k : Nat)) (i32 f) (i32 l) (i32 how) (i32 (i : Nat)) (i32 (zA z t)) (i32 n) (i32 b0) (i32 e0) := by
          intro e0 ee0
          unfold V_X7_walk_169 V_X7_walk_183
          rw [i32_le (by omega) (by omega) (by omega) (by omega), i32_le (by omega) (by omega) (by omega) (by omega)]
          refine ⟨fun c3 => ⟨fun c4 => ?_, fun c4 => ?_⟩, fun c3 => ⟨fun c4 => ?_, fun c4 => ?_⟩⟩
          · rw [show b0 = bg by omega, show e0 = en by omega]; exact w197
          · rw [show b0 = bg by omega]; rw [show en = l by omega] at w197; exact w197
          · rw [show e0 = en by omega]; rw [show bg = f by omega] at w197; exact w197
          · rw [show bg = f by omega, show en = l by omega] at w197; exact w197
        unfold V_X7_walk_141
        refine ⟨hs.1, s7_end hs hi hz hzw hsn (kI_i ?_)⟩
        rw [i32_le (by omega) (by omega) (by omega) (by omega)]
        refine ⟨fun c3 => w169 _ (by omega), fun c3 => ⟨hs.1, s7_end hs hi hz hzw hsn (kI_i (w169 _ (by omega)))⟩⟩
      refine s7_beg hs hi hz hzw hsn (kI_i ?_)
      rw [i32_le (by omega) (by omega) (by omega) (by omega)]
      refine ⟨fun c3 => w141 _ (by omega), fun c3 => ⟨hs.1, s7_beg hs hi hz hzw hsn (kI_i (w141 _ (by omega)))⟩⟩
    rw [q_2, i32_eq (by omega) (by omega) (by omega) (by omega), h49, q_0, i32_eq (by omega) (by omega) (by omega) (by omega)]
    exact ⟨fun _ => go, fun c => ⟨hs.1, fun c3 => hK M fd ft hsm h49 h50 (hU.done (by simp [c]) c3 (by omega)), fun _ => go⟩⟩
theorem s7_walk {K : Rs → Mm → Prop} {M : Mm} {m k i : Nat} {ar : Nat → Nat} {r : Ru} {z : Zo} {b : Int → Bool} {how f l : Int} (ho : Om M m ar k r i z b) (hw : 0 ≤ how ∧ how ≤ 2) (hf : 0 ≤ f ∧ f ≤ l + 1) (hl : -1 ≤ l ∧ l ≤ 157785119)
    (hK : ∀ M' fd ft, Sm m M M' → mI M' m 49 = i32 fd → mI M' m 50 = i32 ft → U (mt b r z) (wX how f l) (decide (how = 2)) (l + 1 - f).toNat fd ft → K (.inl none) M') : V_X7_walk K M m (i32 (k : Nat)) (i32 f) (i32 l) (i32 how) := by
  obtain ⟨hs, hk, hr, hi, h27, hz, hzw, hb⟩ := ho
  unfold V_X7_walk
  refine ⟨hs.1, fun M2 e2 M3 e3 M4 e4 => ?_⟩
  have p27 := hs.p 27 9 12 (by decide)
  subst e2; subst e3; subst e4
  simp only [sI_w, wI_wI, mI_w]
  have hsm : Sm m M (wI M m (va_up (va_up (va_up (mI M m) 49 0) 50 (-1)) 51 (-1))) := Sm.row M _ (fun q hq => by
    unfold scr at hq
    rw [decide_eq_false_iff_not] at hq
    rw [va_up_ne _ _ (by omega), va_up_ne _ _ (by omega), va_up_ne _ _ (by omega)])
  have ho1 := hsm.om (⟨hs, hk, hr, hi, h27, hz, hzw, hb⟩ : Om M m ar k r i z b)
  refine ⟨ar 27, p27.1, p27.2.1, by show vp_in _ (mN M (ar 27)); rw [p27.2.2.1]; exact i32_in (by omega) (by omega) (by omega), fun x8 e8 => ?_⟩
  rw [i32_clamp (by omega) (by omega), Int.toNat_natCast, ho1.2.2.2.2.1] at e8
  subst e8
  have hU0 : U (mt b r z) (wX how f l) (decide (how = 2)) 0 0 (-1) := by
    refine ⟨by omega, ?_⟩
    split
    · rfl
    · exact .inl ⟨rfl, rfl, fun j hj => absurd hj (Nat.not_lt_zero _)⟩
  have := s7_w36 ho1 hw hf hl (fun M' fd ft g1 g2 g3 g4 => hK M' fd ft (hsm.trans g1) g2 g3 g4) (l + 1 - f).toNat _ 0 0 (-1) (by omega) (by omega) (Sm.refl m _) (by rw [mI_w, va_up_ne _ _ (by decide), va_up_ne _ _ (by decide), va_up_self]; decide) (by rw [mI_w, va_up_ne _ _ (by decide), va_up_self]; decide) hU0 (fun c => by
    unfold Al wX
    split
    · exact .inl (by omega)
    · exact .inl (by omega))
  unfold V_X7_walk_34
  rw [q_1, i32_eq (by omega) (by omega) (by omega) (by omega)]
  refine ⟨fun c => ⟨(l + 1 - f).toNat + 1, ?_⟩, fun c => ⟨(l + 1 - f).toNat + 1, ?_⟩⟩
  · have e9 : wX how f l 0 = f := by unfold wX; rw [if_neg c]; omega
    rw [e9] at this
    exact this
  · have e9 : wX how f l 0 = l := by unfold wX; rw [if_pos c]; omega
    rw [e9] at this
    exact this
/-- what the walk has found -/
theorem U.ls {p : Int → Bool} {f l fd ft : Int} (hf : f ≤ l + 1) (h0 : -1 < f) (h : U p (wX 0 f l) false (l + 1 - f).toNat fd ft) : Ls p f l (-1) ft ∧ ((fd = 0 ∧ ft = -1) ∨ (fd = 1 ∧ f ≤ ft)) := by
  have h2 := h.2
  simp only [Bool.false_eq_true, if_false] at h2
  have e : ∀ j : Nat, wX 0 f l j = f + j := fun j => by unfold wX; rw [if_neg (by decide)]
  rcases h2 with ⟨a1, a2, a3⟩ | ⟨a1, j, a2, a3, a4, a5⟩
  · refine ⟨.inl ⟨a2, fun n n1 n2 => ?_⟩, .inl ⟨a1, a2⟩⟩
    have := a3 (n - f).toNat (by omega)
    rwa [e, show f + ((n - f).toNat : Int) = n by omega] at this
  · rw [e] at a3 a4
    subst a3
    refine ⟨.inr ⟨by omega, by omega, a4, fun n n1 n2 => ?_⟩, .inr ⟨a1, by omega⟩⟩
    have := a5 (n - f).toNat (by omega)
    rwa [e, show f + ((n - f).toNat : Int) = n by omega] at this
theorem U.gs {p : Int → Bool} {f l fd ft : Int} (hf : f ≤ l + 1) (h0 : -1 < f) (h : U p (wX 1 f l) false (l + 1 - f).toNat fd ft) : Gs p f l (-1) ft ∧ ((fd = 0 ∧ ft = -1) ∨ (fd = 1 ∧ f ≤ ft)) := by
  have h2 := h.2
  simp only [Bool.false_eq_true, if_false] at h2
  have e : ∀ j : Nat, wX 1 f l j = l - j := fun j => by unfold wX; rw [if_pos rfl]
  rcases h2 with ⟨a1, a2, a3⟩ | ⟨a1, j, a2, a3, a4, a5⟩
  · refine ⟨.inl ⟨a2, fun n n1 n2 => ?_⟩, .inl ⟨a1, a2⟩⟩
    have := a3 (l - n).toNat (by omega)
    rwa [e, show l - ((l - n).toNat : Int) = n by omega] at this
  · rw [e] at a3 a4
    subst a3
    refine ⟨.inr ⟨by omega, by omega, a4, fun n n1 n2 => ?_⟩, .inr ⟨a1, by omega⟩⟩
    have := a5 (l - n).toNat (by omega)
    rwa [e, show l - ((l - n).toNat : Int) = n by omega] at this
theorem U.ci {p : Int → Bool} {f l fd ft : Int} (h : U p (wX 2 f l) true (l + 1 - f).toNat fd ft) : fd = (cI p f l : Nat) := by
  have h2 := h.2
  simp only [if_true] at h2
  have e : ∀ j : Nat, wX 2 f l j = f + j := fun j => by unfold wX; rw [if_neg (by decide)]
  simp only [e] at h2
  exact h2
/-- two that are the least are the same -/
theorem Ls.eq {p : Int → Bool} {f l z v v' : Int} (h : Ls p f l z v) (h' : Ls p f l z v') : v = v' := by
  rcases h with ⟨h1, h2⟩ | ⟨h1, h2, h3, h4⟩
  · rcases h' with ⟨g1, g2⟩ | ⟨g1, g2, g3, g4⟩
    · omega
    · have := h2 v' g1 g2; rw [g3] at this; exact absurd this (by decide)
  · rcases h' with ⟨g1, g2⟩ | ⟨g1, g2, g3, g4⟩
    · have := g2 v h1 h2; rw [h3] at this; exact absurd this (by decide)
    · by_cases c : v < v'
      · have := g4 v h1 c; rw [h3] at this; exact absurd this (by decide)
      · by_cases c' : v' < v
        · have := h4 v' g1 c'; rw [g3] at this; exact absurd this (by decide)
        · omega
theorem Gs.eq {p : Int → Bool} {f l z v v' : Int} (h : Gs p f l z v) (h' : Gs p f l z v') : v = v' := by
  rcases h with ⟨h1, h2⟩ | ⟨h1, h2, h3, h4⟩
  · rcases h' with ⟨g1, g2⟩ | ⟨g1, g2, g3, g4⟩
    · omega
    · have := h2 v' g1 g2; rw [g3] at this; exact absurd this (by decide)
  · rcases h' with ⟨g1, g2⟩ | ⟨g1, g2, g3, g4⟩
    · have := g2 v h1 h2; rw [h3] at this; exact absurd this (by decide)
    · by_cases c : v < v'
      · have := h4 v' c g2; rw [g3] at this; exact absurd this (by decide)
      · by_cases c' : v' < v
        · have := g4 v c' h2; rw [h3] at this; exact absurd this (by decide)
        · omega
