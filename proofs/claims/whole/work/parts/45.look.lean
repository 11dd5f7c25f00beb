/-! the model: walking over a stretch of minutes -/
theorem s7_l140 {K : Rs → Mm → Prop} {B15 : Mm → Nat → Int32 → Int32 → Int32 → Int32 → Int32 → Int32 → Prop} {M0 : Mm} {m k : Nat} {ar : Nat → Nat} {r : Ru} {p : Int → Bool} {x : Nat → Int} {how sh b e h lo hi : Int} {i0 c0 : Nat} {l8 : Int32}
    (hs : MdS M0 m ar) (hk : k < 12) (hr : MoR M0 ar k r) (hw : 0 ≤ how ∧ how ≤ 2) (hh : 0 ≤ h ∧ h < 24) (hlo : 0 ≤ lo ∧ lo ≤ hi ∧ hi < 60) (hbit : bj (rN r 1) h.toNat = true) (hi0 : i0 + c0 ≤ 1000000000)
    (hx : ∀ j : Nat, (j : Int) ≤ hi - lo → x (i0 + c0 + j) = 60 * h + (if how = 1 then hi - j else lo + j) - sh) (hp : ∀ v, lo ≤ v → v ≤ hi → p (60 * h + v - sh) = (bj (rN r 1) h.toNat && bj (rN r 0) v.toNat))
    (hB : ∀ M' fd ft, Sm m M0 M' → mI M' m 49 = i32 fd → mI M' m 50 = i32 ft → U p x (decide (how = 2)) (i0 + c0 + (hi - lo + 1).toNat) fd ft → V_X7_look_256 K B15 M' m (i32 (k : Nat)) (i32 sh) (i32 how) (i32 b) (i32 e) l8) :
    ∀ (w j : Nat) (M : Mm) (fd ft : Int), (j : Int) + w = hi - lo + 1 → Sm m M0 M → mI M m 49 = i32 fd → mI M m 50 = i32 ft → U p x (decide (how = 2)) (i0 + c0 + j) fd ft → V_X7_look_140 K B15 (w + 1) M m (i32 (k : Nat)) (i32 sh) (i32 how) (i32 b) (i32 e) l8 (i32 h) (i32 lo) (i32 hi) (i32 (j : Nat)) := by
  intro w
  induction w with
  | zero =>
    intro j M fd ft e1 hsm h49 h50 hU
    unfold V_X7_look_140
    rw [i32_sub, i32_lt (by omega) (by omega) (by omega) (by omega)]
    refine ⟨fun _ => hB M fd ft hsm h49 h50 ?_, fun q => absurd (by omega) q⟩
    rw [show (hi - lo + 1).toNat = j by omega]; exact hU
  | succ w ih =>
    intro j M fd ft e1 hsm h49 h50 hU
    have hs1 := hsm.md hs
    have hr1 := hsm.mr hs hr
    have p32 := hs1.p 32 10 60 (by decide)
    have n0 := hr1.1 0 (by decide)
    have hfd := hU.1
    have go : (decide (how = 2) = false → fd = 0) → V_X7_look_163 K (fun M l0 l1 l4 l5 l6 l7 l8 l9 l10 l11 l12 => V_X7_look_140 K B15 (w + 1) M l0 l1 l4 l5 l6 l7 l8 l9 l10 l11 l12) M m (i32 (k : Nat)) (i32 sh) (i32 how) (i32 b) (i32 e) l8 (i32 h) (i32 lo) (i32 hi) (i32 (j : Nat)) := by
      intro h0
      have at_ : ∀ v, v = (if how = 1 then hi - (j : Int) else lo + j) → V_X7_look_182 K (fun M l0 l1 l4 l5 l6 l7 l8 l9 l10 l11 l12 => V_X7_look_140 K B15 (w + 1) M l0 l1 l4 l5 l6 l7 l8 l9 l10 l11 l12) M m (i32 (k : Nat)) (i32 sh) (i32 how) (i32 b) (i32 e) l8 (i32 h) (i32 lo) (i32 hi) (i32 (j : Nat)) (i32 v) := by
        intro v ev
        have hv : lo ≤ v ∧ v ≤ hi := by rw [ev]; split <;> omega
        have hxj := hx j (by omega)
        rw [← ev] at hxj
        have hpv := hp v hv.1 hv.2
        rw [hbit, Bool.true_and] at hpv
        unfold V_X7_look_182 V_X7_look_247 V_X7_look_250
        rw [q_5, i32_mul]
        refine ⟨hs1.1, ar 32, p32.1, p32.2.1, by rw [p32.2.2.1]; exact i32_in (by omega) (by omega) (by omega), ?_⟩
        rw [i32_clamp (by omega) (by omega), show (5 * ((k : Nat) : Int)).toNat = 5 * k + 0 by omega, n0, bit1 (by omega)]
        refine ⟨fun q x1 ex => ?_, fun q M5 e5 M6 e6 => ?_⟩
        · subst ex
          rw [q_1, i32_add, show ((j : Nat) : Int) + 1 = ((j + 1 : Nat) : Int) by omega]
          refine ih (j + 1) M fd ft (by omega) hsm h49 h50 ?_
          have := hU.skip 1 (fun j' hj' => by
            rw [show i0 + c0 + j + j' = i0 + c0 + j by omega, hxj, hpv]
            simpa using q)
          exact this
        · subst e5; subst e6
          rw [q_60, i32_mul, i32_add, i32_sub, h49, q_1, i32_add]
          simp only [sI_w, wI_wI, mI_w]
          have v49 : va_up (va_up (mI M m) 49 (i32 (fd + 1))) 51 (i32 (60 * h + v - sh)) 49 = i32 (fd + 1) := by rw [va_up_ne _ _ (by decide), va_up_self]
          have v51 : va_up (va_up (mI M m) 49 (i32 (fd + 1))) 51 (i32 (60 * h + v - sh)) 51 = i32 (60 * h + v - sh) := by rw [va_up_self]
          have v50 : va_up (va_up (mI M m) 49 (i32 (fd + 1))) 51 (i32 (60 * h + v - sh)) 50 = i32 ft := by rw [va_up_ne _ _ (by decide), va_up_ne _ _ (by decide)]; exact h50
          rw [v49, v51, v50, i32_eq (by omega) (by omega) (by omega) (by omega)]
          have hit := hU.hit h0 (by rw [hxj, hpv]; exact q)
          rw [hxj] at hit
          have fin : ∀ ft', ft' = (if fd + 1 = 1 then 60 * h + v - sh else ft) → ∀ x1 : Int32, x1 = i32 (j : Nat) + i32 1 → V_X7_look_140 K B15 (w + 1) (wI M m (va_up (va_up (va_up (mI M m) 49 (i32 (fd + 1))) 51 (i32 (60 * h + v - sh))) 50 (i32 ft'))) m (i32 (k : Nat)) (i32 sh) (i32 how) (i32 b) (i32 e) l8 (i32 h) (i32 lo) (i32 hi) x1 := by
            intro ft' eft x1 ex
            subst ex
            rw [i32_add, show ((j : Nat) : Int) + 1 = ((j + 1 : Nat) : Int) by omega]
            refine ih (j + 1) _ (fd + 1) ft' (by omega) (hsm.trans (Sm.row M _ (fun q hq => ?_))) ?_ ?_ ?_
            · unfold scr at hq
              rw [decide_eq_false_iff_not] at hq
              rw [va_up_ne _ _ (by omega), va_up_ne _ _ (by omega), va_up_ne _ _ (by omega)]
            · rw [mI_w, va_up_ne _ _ (by decide)]; exact v49
            · rw [mI_w, va_up_self]
            · rw [eft]; exact hit
          refine ⟨fun q2 => ⟨hs1.1, fun M2 e2 x1 ex => ?_⟩, fun q2 => ⟨hs1.1, fun M2 e2 x1 ex => ?_⟩⟩
          · subst e2
            exact fin ft (by rw [if_neg q2]) x1 ex
          · subst e2
            exact fin _ (by rw [if_pos q2]) x1 ex
      unfold V_X7_look_163
      rw [q_1, i32_eq (by omega) (by omega) (by omega) (by omega), i32_add, i32_sub]
      refine ⟨fun q => at_ _ (by rw [if_neg q]), fun q => at_ _ (by rw [if_pos q])⟩
    unfold V_X7_look_140
    rw [i32_sub, i32_lt (by omega) (by omega) (by omega) (by omega), q_2, i32_eq (by omega) (by omega) (by omega) (by omega), h49, q_0, i32_eq (by omega) (by omega) (by omega) (by omega)]
    refine ⟨fun q => absurd q (by omega), fun _ => ⟨fun q => go (fun c => absurd c (by simp [q])), fun q => ⟨hs1.1, fun q2 => hB M fd ft hsm h49 h50 (hU.done (by simp [q]) q2 (by omega)), fun q2 => go (fun _ => q2)⟩⟩⟩
def cU (b e : Int) (how : Int) (i : Int) : Int := if i = 0 then 0 else if how = 1 then e - max (60 * (e / 60 - i) + 59) (b - 1) else min (60 * (b / 60 + i)) (e + 1) - b
theorem cU_f {b e how i : Int} (hb : 0 ≤ b ∧ b ≤ e ∧ e ≤ 1439) (hi : 0 ≤ i ∧ i ≤ e / 60 - b / 60) {h lo hi : Int} (eh : h = if how = 1 then e / 60 - i else b / 60 + i) (el : lo = if h = b / 60 then b % 60 else 0) (ehi : hi = if h = e / 60 then e % 60 else 59) :
    (0 ≤ h ∧ h < 24) ∧ (0 ≤ lo ∧ lo ≤ hi ∧ hi < 60) ∧ (0 ≤ cU b e how i ∧ cU b e how i ≤ e - b) ∧ cU b e how (i + 1) = cU b e how i + (hi - lo + 1) ∧ (if how = 1 then e - cU b e how i = 60 * h + hi else b + cU b e how i = 60 * h + lo) ∧ b ≤ 60 * h + lo ∧ 60 * h + hi ≤ e := by
  unfold cU
  rw [if_neg (show ¬ i + 1 = 0 by omega)]
  by_cases c1 : how = 1
  · simp only [if_pos c1] at *
    by_cases c2 : i = 0
    · simp only [if_pos c2]
      have e1 : h = e / 60 := by omega
      rw [if_pos e1] at ehi
      by_cases c3 : h = b / 60
      · rw [if_pos c3] at el; omega
      · rw [if_neg c3] at el; omega
    · simp only [if_neg c2]
      have e1 : ¬ h = e / 60 := by omega
      rw [if_neg e1] at ehi
      by_cases c3 : h = b / 60
      · rw [if_pos c3] at el; omega
      · rw [if_neg c3] at el; omega
  · simp only [if_neg c1] at *
    by_cases c2 : i = 0
    · simp only [if_pos c2]
      have e1 : h = b / 60 := by omega
      rw [if_pos e1] at el
      by_cases c3 : h = e / 60
      · rw [if_pos c3] at ehi; omega
      · rw [if_neg c3] at ehi; omega
    · simp only [if_neg c2]
      have e1 : ¬ h = b / 60 := by omega
      rw [if_neg e1] at el
      by_cases c3 : h = e / 60
      · rw [if_pos c3] at ehi; omega
      · rw [if_neg c3] at ehi; omega
theorem cU_end {b e how : Int} (hb : 0 ≤ b ∧ b ≤ e ∧ e ≤ 1439) : cU b e how (e / 60 - b / 60 + 1) = e - b + 1 := by
  unfold cU
  rw [if_neg (by omega)]
  split <;> omega
theorem s7_l15 {K : Rs → Mm → Prop} {M0 : Mm} {m k : Nat} {ar : Nat → Nat} {r : Ru} {p : Int → Bool} {x : Nat → Int} {how sh b e : Int} {i0 : Nat}
    (hs : MdS M0 m ar) (hk : k < 12) (hr : MoR M0 ar k r) (hw : 0 ≤ how ∧ how ≤ 2) (hb : 0 ≤ b ∧ b ≤ e ∧ e ≤ 1439) (hi0 : i0 ≤ 900000000)
    (hx : ∀ j : Nat, (j : Int) ≤ e - b → x (i0 + j) = (if how = 1 then e - j else b + j) - sh) (hp : ∀ u, b ≤ u → u ≤ e → p (u - sh) = tm r u.toNat)
    (hK : ∀ M' fd ft, Sm m M0 M' → mI M' m 49 = i32 fd → mI M' m 50 = i32 ft → U p x (decide (how = 2)) (i0 + (e - b + 1).toNat) fd ft → K (.inl none) M') :
    ∀ (w : Nat) (i : Int) (M : Mm) (fd ft : Int), 0 ≤ i → i + w = e / 60 - b / 60 + 1 → Sm m M0 M → mI M m 49 = i32 fd → mI M m 50 = i32 ft → U p x (decide (how = 2)) (i0 + (cU b e how i).toNat) fd ft → V_X7_look_15 K (w + 1) M m (i32 (k : Nat)) (i32 sh) (i32 how) (i32 b) (i32 e) (i32 i) := by
  intro w
  induction w with
  | zero =>
    intro i M fd ft h0 e1 hsm h49 h50 hU
    have ei : i = e / 60 - b / 60 + 1 := by omega
    unfold V_X7_look_15 V_X7_look_262
    rw [q_60, i32_divp (by omega) (by omega) (by decide) (by decide), i32_divp (by omega) (by omega) (by decide) (by decide), i32_sub, i32_lt (by omega) (by omega) (by omega) (by omega)]
    refine ⟨fun _ => hK M fd ft hsm h49 h50 ?_, fun q => absurd (by omega) q⟩
    rw [ei, cU_end hb] at hU
    exact hU
  | succ w ih =>
    intro i M fd ft h0 e1 hsm h49 h50 hU
    have hs1 := hsm.md hs
    have hr1 := hsm.mr hs hr
    have p32 := hs1.p 32 10 60 (by decide)
    have n1 := hr1.1 1 (by decide)
    have hfd := hU.1
    obtain ⟨h, eh⟩ : ∃ h, h = if how = 1 then e / 60 - i else b / 60 + i := ⟨_, rfl⟩
    obtain ⟨lo, elo⟩ : ∃ lo, lo = if h = b / 60 then b % 60 else 0 := ⟨_, rfl⟩
    obtain ⟨hi, ehi⟩ : ∃ hi, hi = if h = e / 60 then e % 60 else 59 := ⟨_, rfl⟩
    obtain ⟨f1, f2, f3, f4, f5, f6, f7⟩ := cU_f hb (by omega) eh elo ehi
    have next : ∀ M' fd ft, Sm m M0 M' → mI M' m 49 = i32 fd → mI M' m 50 = i32 ft → U p x (decide (how = 2)) (i0 + (cU b e how i).toNat + (hi - lo + 1).toNat) fd ft → V_X7_look_256 K (fun M l0 l1 l4 l5 l6 l7 l8 => V_X7_look_15 K (w + 1) M l0 l1 l4 l5 l6 l7 l8) M' m (i32 (k : Nat)) (i32 sh) (i32 how) (i32 b) (i32 e) (i32 i) := by
      intro M' fd ft g1 g2 g3 g4
      unfold V_X7_look_256
      intro x1 ex
      subst ex
      rw [q_1, i32_add]
      refine ih (i + 1) M' fd ft (by omega) (by omega) g1 g2 g3 ?_
      rw [f4, show i0 + (cU b e how i + (hi - lo + 1)).toNat = i0 + (cU b e how i).toNat + (hi - lo + 1).toNat by omega]
      exact g4
    have hx' : ∀ j : Nat, (j : Int) ≤ hi - lo → x (i0 + (cU b e how i).toNat + j) = 60 * h + (if how = 1 then hi - j else lo + j) - sh := by
      intro j hj
      by_cases c1 : how = 1
      · rw [if_pos c1] at f5 ⊢
        rw [Nat.add_assoc, hx _ (by omega), if_pos c1]; omega
      · rw [if_neg c1] at f5 ⊢
        rw [Nat.add_assoc, hx _ (by omega), if_neg c1]; omega
    have hp' : ∀ v, lo ≤ v → v ≤ hi → p (60 * h + v - sh) = (bj (rN r 1) h.toNat && bj (rN r 0) v.toNat) := by
      intro v v1 v2
      rw [hp (60 * h + v) (by omega) (by omega), show (60 * h + v).toNat = h.toNat * 60 + v.toNat by omega, tm_hm (by omega)]
    have go : (decide (how = 2) = false → fd = 0) → V_X7_look_44 K (fun M l0 l1 l4 l5 l6 l7 l8 => V_X7_look_15 K (w + 1) M l0 l1 l4 l5 l6 l7 l8) M m (i32 (k : Nat)) (i32 sh) (i32 how) (i32 b) (i32 e) (i32 i) := by
      intro hz
      have at_ : V_X7_look_69 K (fun M l0 l1 l4 l5 l6 l7 l8 => V_X7_look_15 K (w + 1) M l0 l1 l4 l5 l6 l7 l8) M m (i32 (k : Nat)) (i32 sh) (i32 how) (i32 b) (i32 e) (i32 i) (i32 h) := by
        unfold V_X7_look_69 V_X7_look_113 V_X7_look_135
        rw [q_5, q_1, i32_mul, i32_add]
        refine ⟨hs1.1, ar 32, p32.1, p32.2.1, by rw [p32.2.2.1]; exact i32_in (by omega) (by omega) (by omega), ?_⟩
        rw [i32_clamp (by omega) (by omega), show (5 * ((k : Nat) : Int) + 1).toNat = 5 * k + 1 by omega, n1, bit0 (by omega)]
        refine ⟨fun q => ?_, fun q => ?_⟩
        · have hbit : bj (rN r 1) h.toNat = true := by simpa using q
          have run : ∃ y, V_X7_look_140 K (fun M l0 l1 l4 l5 l6 l7 l8 => V_X7_look_15 K (w + 1) M l0 l1 l4 l5 l6 l7 l8) y M m (i32 (k : Nat)) (i32 sh) (i32 how) (i32 b) (i32 e) (i32 i) (i32 h) (i32 lo) (i32 hi) (i32 0) :=
            ⟨(hi - lo + 1).toNat + 1, s7_l140 hs hk hr hw f1 f2 hbit (by omega) hx' hp' next _ 0 M fd ft (by omega) hsm h49 h50 hU⟩
          rw [q_60, i32_divp (by omega) (by omega) (by decide) (by decide), i32_divp (by omega) (by omega) (by decide) (by decide), i32_mul, i32_mul, i32_sub, i32_sub, i32_eq (by omega) (by omega) (by omega) (by omega), i32_eq (by omega) (by omega) (by omega) (by omega), show b - b / 60 * 60 = b % 60 by omega, show e - e / 60 * 60 = e % 60 by omega, q_0, q_59]
          refine ⟨fun w1 => ⟨fun w2 => ?_, fun w2 => ?_⟩, fun w1 => ⟨fun w2 => ?_, fun w2 => ?_⟩⟩
          · rw [if_neg w1] at elo; rw [if_neg w2] at ehi; rw [elo, ehi] at run; exact run
          · rw [if_neg w1] at elo; rw [if_pos w2] at ehi; rw [elo, ehi] at run; exact run
          · rw [if_pos w1] at elo; rw [if_neg w2] at ehi; rw [elo, ehi] at run; exact run
          · rw [if_pos w1] at elo; rw [if_pos w2] at ehi; rw [elo, ehi] at run; exact run
        · refine next M fd ft hsm h49 h50 (hU.skip _ (fun j hj => ?_))
          rw [hx' j (by omega)]
          have : p (60 * h + (if how = 1 then hi - (j : Int) else lo + j) - sh) = (bj (rN r 1) h.toNat && bj (rN r 0) (if how = 1 then hi - (j : Int) else lo + j).toNat) := hp' _ (by split <;> omega) (by split <;> omega)
          rw [this, q]; rfl
      unfold V_X7_look_44
      rw [q_1, i32_eq (by omega) (by omega) (by omega) (by omega), q_60, i32_divp (by omega) (by omega) (by decide) (by decide), i32_divp (by omega) (by omega) (by decide) (by decide), i32_add, i32_sub]
      refine ⟨fun q => ?_, fun q => ?_⟩
      · rw [if_neg q] at eh; rw [← eh]; exact at_
      · rw [if_pos q] at eh; rw [← eh]; exact at_
    unfold V_X7_look_15 V_X7_look_262
    rw [q_60, i32_divp (by omega) (by omega) (by decide) (by decide), i32_divp (by omega) (by omega) (by decide) (by decide), i32_sub, i32_lt (by omega) (by omega) (by omega) (by omega), q_2, i32_eq (by omega) (by omega) (by omega) (by omega), h49, q_0, i32_eq (by omega) (by omega) (by omega) (by omega)]
    refine ⟨fun q => absurd q (by omega), fun _ => ⟨fun q => go (fun c => absurd c (by simp [q])), fun q => ⟨hs1.1, fun q2 => hK M fd ft hsm h49 h50 (hU.done (by simp [q]) q2 ?_), fun q2 => go (fun _ => q2)⟩⟩⟩
    by_cases c1 : how = 1
    · rw [if_pos c1] at f5; omega
    · rw [if_neg c1] at f5; omega
theorem s7_look {K : Rs → Mm → Prop} {M : Mm} {m k : Nat} {ar : Nat → Nat} {r : Ru} {p : Int → Bool} {x : Nat → Int} {how sh bg en fd ft : Int} {i0 : Nat}
    (hs : MdS M m ar) (hk : k < 12) (hr : MoR M ar k r) (hw : 0 ≤ how ∧ how ≤ 2) (hb : 0 ≤ bg + sh ∧ bg ≤ en ∧ en + sh ≤ 1439) (hi0 : i0 ≤ 900000000)
    (hx : ∀ j : Nat, (j : Int) ≤ en - bg → x (i0 + j) = (if how = 1 then en - j else bg + j)) (hp : ∀ t, bg ≤ t → t ≤ en → p t = tm r (t + sh).toNat) (h49 : mI M m 49 = i32 fd) (h50 : mI M m 50 = i32 ft) (hU : U p x (decide (how = 2)) i0 fd ft)
    (hK : ∀ M' fd ft, Sm m M M' → mI M' m 49 = i32 fd → mI M' m 50 = i32 ft → U p x (decide (how = 2)) (i0 + (en - bg + 1).toNat) fd ft → K (.inl none) M') : V_X7_look K M m (i32 (k : Nat)) (i32 bg) (i32 en) (i32 sh) (i32 how) := by
  unfold V_X7_look
  intro x1 e1 x2 e2
  subst e1; subst e2
  rw [i32_add, i32_add, q_0]
  refine ⟨((en + sh) / 60 - (bg + sh) / 60 + 1).toNat + 1, ?_⟩
  refine s7_l15 (p := p) (x := x) hs hk hr hw (by omega) hi0 (fun j hj => ?_) (fun u u1 u2 => ?_) (fun M' fd ft g1 g2 g3 g4 => hK M' fd ft g1 g2 g3 ?_) _ 0 M fd ft (by omega) (by omega) (Sm.refl m M) h49 h50 ?_
  · rw [hx j (by omega)]; split <;> omega
  · rw [hp (u - sh) (by omega) (by omega), show u - sh + sh = u by omega]
  · rw [show (en - bg + 1).toNat = (en + sh - (bg + sh) + 1).toNat by omega]; exact g4
  · have : cU (bg + sh) (en + sh) how 0 = 0 := by unfold cU; rw [if_pos rfl]
    rw [this]; exact hU
