/-! the class's reader: names, values, items -/
theorem tx_nm : (∀ k, k < 12 → ∀ i, i < 3 → (tx 19).getD (3 * k + i) 0 = i32 (nm (0 + k) i)) ∧ (∀ k, k < 7 → ∀ i, i < 3 → (tx 20).getD (3 * k + i) 0 = i32 (nm (12 + k) i)) ∧ (tx 19).length = 36 ∧ (tx 20).length = 21 ∧ 19 ∈ txI ∧ 20 ∈ txI := by decide +kernel
/-- the list of names j holds c names, the first of which is the a-th of all -/
def nmJ (j a c : Nat) : Prop := j ∈ txI ∧ (tx j).length = 3 * c ∧ c ≤ 12 ∧ a + c ≤ 19 ∧ ∀ k, k < c → ∀ i, i < 3 → (tx j).getD (3 * k + i) 0 = i32 (nm (a + k) i)
theorem nmJ_19 : nmJ 19 0 12 := ⟨tx_nm.2.2.2.2.1, tx_nm.2.2.1, by decide, by decide, tx_nm.1⟩
theorem nmJ_20 : nmJ 20 12 7 := ⟨tx_nm.2.2.2.2.2, tx_nm.2.2.2.1, by decide, by decide, tx_nm.2.1⟩
theorem pfx_le {s : Nat → Int} {at_ k : Nat} : ∀ (d i : Nat), pfx s at_ k i = false → pfx s at_ k (i + d) = false
  | 0, i, h => h
  | d + 1, i, h => by
    rw [← Nat.add_assoc]
    unfold pfx
    rw [pfx_le d i h]; rfl
theorem s_nl20 {K : Rs → Mm → Prop} {B3 : Mm → Nat → Nat → Int32 → Int32 → Int32 → Prop} {e : Ev} {M : Mm} {j a cnt k st le : Nat} (he : En e M) (hj : nmJ j a cnt) (hk : k < cnt) (hle : 1 ≤ le ∧ le ≤ 3) (hst : st ≤ 160)
    (hT : pfx (eS e) st (a + k) le = true → K (.inl (some (.int (i32 (k : Nat))))) M) (hN : pfx (eS e) st (a + k) le = false → B3 M (eT e) j (i32 (st : Nat)) (i32 (le : Nat)) (i32 ((3 * k : Nat)) + 3)) :
    ∀ (w i sm : Nat), i + w = le → ((sm = i ∧ pfx (eS e) st (a + k) i = true) ∨ (sm < i ∧ pfx (eS e) st (a + k) i = false)) → V_X4_nameLike_20 K B3 (w + 1) M (eT e) j (i32 (st : Nat)) (i32 (le : Nat)) (i32 ((3 * k : Nat))) (i32 (sm : Nat)) (i32 (i : Nat)) := by
  obtain ⟨⟨a1, a2, a3, a4, a5, a6⟩, b, hs, d, f⟩ := he
  obtain ⟨j1, j2, j3, j4, j5⟩ := hj
  have hn := hs.1
  have out : ∀ sm i : Nat, i ≤ le → (i = le ∨ eN e ≤ st + i) → ((sm = i ∧ pfx (eS e) st (a + k) i = true) ∨ (sm < i ∧ pfx (eS e) st (a + k) i = false)) → V_X4_nameLike_67 K B3 M (eT e) j (i32 (st : Nat)) (i32 (le : Nat)) (i32 ((3 * k : Nat))) (i32 (sm : Nat)) := by
    intro sm i hi hout hinv
    unfold V_X4_nameLike_67
    rw [i32_eq (by omega) (by omega) (by omega) (by omega)]
    have no : i < le → pfx (eS e) st (a + k) le = false := by
      intro hlt
      have hst' : eN e ≤ st + i := by omega
      have : pfx (eS e) st (a + k) (i + 1) = false := by
        unfold pfx
        rw [hs.2.1 _ hst']
        have := nm_b (a + k) (by omega) i (by omega)
        rw [decide_eq_false (by omega), Bool.and_false]
      have := pfx_le (le - (i + 1)) _ this
      rwa [show i + 1 + (le - (i + 1)) = le by omega] at this
    refine ⟨fun q x1 e1 => ?_, fun q => ?_⟩
    · subst e1
      apply hN
      rcases hinv with ⟨h1, h2⟩ | ⟨h1, h2⟩
      · exact no (by omega)
      · have := pfx_le (le - i) _ h2
        rwa [show i + (le - i) = le by omega] at this
    · have e9 : i32 ((3 * k : Nat)) / 3 = i32 (k : Nat) := by
        rw [q_3, i32_divp (by omega) (by omega) (by decide) (by decide)]; congr 1; omega
      rw [e9]
      apply hT
      rcases hinv with ⟨h1, h2⟩ | ⟨h1, h2⟩
      · have : i = le := by omega
        rw [← this]; exact h2
      · omega
  intro w
  induction w with
  | zero =>
    intro i sm e1 hinv
    unfold V_X4_nameLike_20
    rw [i32_le (by omega) (by omega) (by omega) (by omega)]
    exact ⟨fun _ => out sm i (by omega) (.inl (by omega)) hinv, fun q => absurd (by omega) q⟩
  | succ w ih =>
    intro i sm e1 hinv
    have hsm : sm ≤ 3 := by rcases hinv with h | h <;> omega
    unfold V_X4_nameLike_20 V_X4_nameLike_61
    rw [i32_le (by omega) (by omega) (by omega) (by omega), a6, i32_add, i32_le (by omega) (by omega) (by omega) (by omega)]
    refine ⟨fun q => absurd q (by omega), fun _ => ⟨a1, fun q => out sm i (by omega) (.inr (by omega)) hinv, fun q => ⟨eB e, a2, a4, by rw [a5]; exact i32_in (by omega) (by omega) (by omega), j1, ?_⟩⟩⟩
    rw [i32_add]
    unfold V_J0_charAt_5068e
    refine ⟨by rw [j2]; exact i32_in (by omega) (by omega) (by omega), ?_⟩
    have q1 : (i32 (((3 * k : Nat) : Int) + ((i : Nat) : Int))).toNatClampNeg = 3 * k + i := by rw [i32_clamp (by omega) (by omega)]; omega
    rw [q1, j5 k hk i (by omega)]
    refine kI_i ?_
    have hsb := hs.b (st + i)
    have hnb := nm_b (a + k) (by omega) i (by omega)
    rw [i32_clamp (by omega) (by omega), show (((st : Nat) : Int) + ((i : Nat) : Int)).toNat = st + i by omega, b (st + i) (by omega), i32_eq (by omega) (by omega) (by omega) (by omega)]
    refine ⟨fun q2 x1 ex => ?_, fun q2 x8 e8 x1 ex => ?_⟩
    · subst ex
      rw [q_1, i32_add, show ((i : Nat) : Int) + 1 = ((i + 1 : Nat) : Int) by omega]
      refine ih (i + 1) sm (by omega) (.inr ⟨by rcases hinv with h | h <;> omega, ?_⟩)
      unfold pfx
      rw [decide_eq_false q2, Bool.and_false]
    · subst ex; subst e8
      rw [q_1, i32_add, i32_add, show ((i : Nat) : Int) + 1 = ((i + 1 : Nat) : Int) by omega, show ((sm : Nat) : Int) + 1 = ((sm + 1 : Nat) : Int) by omega]
      refine ih (i + 1) (sm + 1) (by omega) ?_
      unfold pfx
      rw [decide_eq_true q2, Bool.and_true]
      rcases hinv with ⟨h1, h2⟩ | ⟨h1, h2⟩
      · exact .inl ⟨by omega, h2⟩
      · exact .inr ⟨by omega, h2⟩
theorem s_nl3 {K : Rs → Mm → Prop} {e : Ev} {M : Mm} {j a cnt st le : Nat} (he : En e M) (hj : nmJ j a cnt) (hle : 1 ≤ le ∧ le ≤ 3) (hst : st ≤ 160)
    (hT : ∀ q, fnd (fun k => pfx (eS e) st k le) a cnt = some q → K (.inl (some (.int (i32 ((q : Nat) - (a : Nat) : Int))))) M) (hN : fnd (fun k => pfx (eS e) st k le) a cnt = none → K (.inl (some (.int (i32 (-1))))) M) :
    ∀ (w k : Nat), k + w = cnt → fnd (fun k => pfx (eS e) st k le) a cnt = fnd (fun k => pfx (eS e) st k le) (a + k) w → V_X4_nameLike_3 K (w + 1) M (eT e) j (i32 (st : Nat)) (i32 (le : Nat)) (i32 ((3 * k : Nat))) := by
  have hj' := hj
  obtain ⟨j1, j2, j3, j4, j5⟩ := hj
  intro w
  induction w with
  | zero =>
    intro k e1 hf
    unfold V_X4_nameLike_3 V_J0_length_8abf5
    refine ⟨j1, kI_i ?_⟩
    rw [j2, show Int32.ofNat (3 * cnt) = i32 ((3 * cnt : Nat)) from Int32.ofInt_eq_ofNat.symm, i32_add, i32_lt (by omega) (by omega) (by omega) (by omega), show (-1 : Int32) = i32 (-1) by decide]
    exact ⟨fun _ => hN (by rw [hf]; rfl), fun q => absurd (by omega) q⟩
  | succ w ih =>
    intro k e1 hf
    unfold V_X4_nameLike_3 V_J0_length_8abf5
    refine ⟨j1, kI_i ?_⟩
    rw [j2, show Int32.ofNat (3 * cnt) = i32 ((3 * cnt : Nat)) from Int32.ofInt_eq_ofNat.symm, i32_add, i32_lt (by omega) (by omega) (by omega) (by omega)]
    refine ⟨fun q => absurd q (by omega), fun _ => ⟨le + 1, ?_⟩⟩
    have := s_nl20 (K := K) (B3 := fun M l0 l1 l2 l3 l4 => V_X4_nameLike_3 K (w + 1) M l0 l1 l2 l3 l4) he hj' (k := k) (by omega) hle hst (fun hp => by
      have h2 : fnd (fun k => pfx (eS e) st k le) (a + k) (w + 1) = some (a + k) := by unfold fnd; rw [if_pos hp]
      have := hT (a + k) (hf.trans h2)
      rwa [show (((a + k : Nat) : Int) - (a : Nat)) = (k : Nat) by omega] at this) (fun hp => by
      rw [q_3, i32_add, show (((3 * k : Nat) : Int) + 3) = ((3 * (k + 1) : Nat) : Int) by omega]
      refine ih (k + 1) (by omega) (hf.trans ?_)
      conv => lhs; unfold fnd
      rw [if_neg (by rw [hp]; decide)]; rfl) le 0 0 (by omega) (.inl ⟨rfl, rfl⟩)
    exact this
theorem s_name10 {K : Rs → Mm → Prop} {e : Ev} {j a cnt at0 : Nat} {c : Ct} (hj : nmJ j a cnt)
    (hO : ∀ a1 k, pName (eS e) a cnt at0 = .inr (a1, k) → ∀ M', PO e M' a1 c → K (.inl (some (.int (i32 ((k : Nat) - (a : Nat) : Int))))) M') (hF : ∀ co pl, pName (eS e) a cnt at0 = .inl (co, pl) → ∀ M' v, PF e M' co pl → K (.inl (some (.int v))) M') :
    ∀ (w n : Nat) (M : Mm) (nv : Int32), n + w = 4 → 1 ≤ n → at0 ≤ 160 → PO e M (at0 + (n - 1)) c → (∀ n', 1 ≤ n' → n' < n → fnd (fun k => pfx (eS e) at0 k n') a cnt ≠ none) → (n = 4 → ∃ q : Nat, fnd (fun k => pfx (eS e) at0 k 3) a cnt = some q ∧ nv = i32 ((q : Nat) - (a : Nat) : Int)) → V_X4_readName_10 K (w + 2) M (eT e) j (i32 (at0 : Nat)) nv (i32 (n : Nat)) := by
  intro w
  induction w with
  | zero =>
    intro n M nv e1 h1 hat h hpre h4
    have e4 : n = 4 := by omega
    obtain ⟨q, q1, q2⟩ := h4 e4
    unfold V_X4_readName_10 V_X4_readName_65
    refine ⟨fun _ => ?_, fun q => absurd (by rw [e4]; decide) q⟩
    rw [q2]
    refine hO (at0 + 3) q ?_ M (by rw [e4] at h; exact h)
    unfold pName
    rw [if_neg (hpre 1 (by omega) (by omega)), if_neg (hpre 2 (by omega) (by omega)), q1]
  | succ w ih =>
    intro n M nv e1 h1 hat h hpre h4
    have hn3 : n ≤ 3 := by omega
    have hn := h.1.2.2.1
    unfold V_X4_readName_10 V_X4_readName_59 V_X4_readName_65
    rw [q_3, i32_lt (by omega) (by omega) (by omega) (by omega)]
    refine ⟨fun q => absurd q (by omega), fun _ => ⟨h.1.1.1, fun q => absurd h.2.2.2.2.1 q, fun _ => ?_⟩⟩
    unfold V_X4_nameLike
    refine ⟨cnt + 1, ?_⟩
    have := s_nl3 (K := (kI (fun r3 M2 => ((¬ r3 = (-1 : Int32) → (ob M2 (eT e) 4 ∧ ∀ M5, M5 = sI M2 (eT e) 2 ((mI M2 (eT e) 2) + (1 : Int32)) → ∀ x1 : Int32, x1 = (i32 (n : Nat) + (1 : Int32)) → V_X4_readName_10 K (w + 2) M5 (eT e) j (i32 (at0 : Nat)) r3 x1)) ∧ (r3 = (-1 : Int32) → (ob M2 (eT e) 4 ∧ V_X4_fail (kV (fun M7 => ∀ x1 : Int32, x1 = (i32 (n : Nat) + (1 : Int32)) → V_X4_readName_10 K (w + 2) M7 (eT e) j (i32 (at0 : Nat)) r3 x1) (fun _ _ => False)) M2 (eT e) (1 : Int32) (mI M2 (eT e) 2))))) (fun _ _ => False))) h.1 hj (le := n) (by omega) hat (fun q hq => kI_i ?_) (fun hq => kI_i ?_) cnt 0 (by omega) rfl
    · exact this
    · have hb := fnd_b _ _ _ hq
      have hnc := hj.2.2.2.1
      rw [show (-1 : Int32) = i32 (-1) by decide, i32_eq (by omega) (by omega) (by omega) (by omega)]
      refine ⟨fun _ => ⟨h.1.1.1, fun M5 e5 x1 ex => ?_⟩, fun q9 => absurd q9 (by omega)⟩
      subst e5; subst ex
      rw [q_1, i32_add, show ((n : Nat) : Int) + 1 = ((n + 1 : Nat) : Int) by omega]
      have hp := hb.2.2
      have hl : at0 + (n - 1) < eN e := by
        obtain ⟨n', rfl⟩ : ∃ n', n = n' + 1 := ⟨n - 1, by omega⟩
        unfold pfx at hp
        rw [Bool.and_eq_true, decide_eq_true_iff] at hp
        have hp2 : eS e (at0 + n') = nm q n' := hp.2
        have := nm_b q (by omega) n' (by omega)
        exact hn.lt (by rw [show at0 + (n' + 1 - 1) = at0 + n' by omega]; omega)
      have had := h.adv hl
      rw [q_1, show at0 + (n - 1) + 1 = at0 + (n + 1 - 1) by omega] at had
      refine ih (n + 1) _ _ (by omega) (by omega) hat had (fun n' h2 h3 => ?_) (fun e4 => ⟨q, by rw [show (3 : Nat) = n by omega]; exact hq, rfl⟩)
      by_cases c1 : n' = n
      · rw [c1, hq]; exact fun c => by cases c
      · exact hpre n' h2 (by omega)
    · rw [show (-1 : Int32) = i32 (-1) by decide]
      refine ⟨fun q => absurd rfl q, fun _ => ⟨h.1.1.1, ?_⟩⟩
      rw [h.2.2.1, show (1 : Int32) = i32 ((1 : Nat)) by decide]
      refine s_fail h (by omega) (fun M' hp => kV_i (fun x1 ex => ?_))
      subst ex
      have hpn : pName (eS e) a cnt at0 = .inl (1, at0 + (n - 1)) := by
        unfold pName
        by_cases c1 : n = 1
        · subst c1; rw [if_pos hq]; rfl
        · rw [if_neg (hpre 1 (by omega) (by omega))]
          by_cases c2 : n = 2
          · subst c2; rw [if_pos hq]
          · have c3 : n = 3 := by omega
            subst c3
            rw [if_neg (hpre 2 (by omega) (by omega)), hq]
      rw [show (i32 ((1 : Nat) : Int)) = i32 1 by rfl, i32_add]
      have fin : K (.inl (some (.int (i32 (-1))))) M' := hF _ _ hpn M' _ hp
      unfold V_X4_readName_10 V_X4_readName_65
      exact ⟨fun _ => fin, fun _ => ⟨hp.1.1.1, fun _ => fin, fun q => absurd q hp.ne⟩⟩
theorem s_name {K : Rs → Mm → Prop} {e : Ev} {M : Mm} {j a cnt at0 : Nat} {c : Ct} (hj : nmJ j a cnt) (h : PO e M at0 c)
    (hO : ∀ a1 k, pName (eS e) a cnt at0 = .inr (a1, k) → ∀ M', PO e M' a1 c → K (.inl (some (.int (i32 ((k : Nat) - (a : Nat) : Int))))) M') (hF : ∀ co pl, pName (eS e) a cnt at0 = .inl (co, pl) → ∀ M' v, PF e M' co pl → K (.inl (some (.int v))) M') : V_X4_readName K M (eT e) j := by
  unfold V_X4_readName
  refine ⟨h.1.1.1, fun x2 e2 => ⟨5, ?_⟩⟩
  subst e2
  rw [h.2.2.1]
  have := h.2.2.2.1
  have := h.1.2.2.1.1
  exact s_name10 hj hO hF 3 1 M 0 (by omega) (by omega) (by omega) h (fun n' h1 h2 => by omega) (fun q => by omega)
theorem tb_i : (∀ f, f < 6 → tbL f = i32 (tL f)) ∧ (∀ f, f < 6 → tbG f = i32 (tG f)) := by decide +kernel
theorem s_val {K : Rs → Mm → Prop} {e : Ev} {M : Mm} {f at0 : Nat} {c : Ct} (hf : f ≤ 5) (h : PO e M at0 c)
    (hO : ∀ a1 v, pVal (eS e) f at0 = .inr (a1, v) → ∀ M', PO e M' a1 c → K (.inl (some (.int (i32 v)))) M') (hF : ∀ co pl, pVal (eS e) f at0 = .inl (co, pl) → ∀ M' v, PF e M' co pl → K (.inl (some (.int v))) M') : V_X4_readValue K M (eT e) (i32 (f : Nat)) := by
  have hn := h.1.2.2.1
  have hsb := hn.b at0
  have go : ∀ b : Bool, (b = true ↔ (48 ≤ eS e at0 ∧ eS e at0 ≤ 57)) → V_X4_readValue_23 K M (eT e) (i32 (f : Nat)) (bI b) := by
    intro b hb
    have num : ¬ (f = 3 ∧ ¬ (48 ≤ eS e at0 ∧ eS e at0 ≤ 57)) → ¬ (f = 4 ∧ ¬ (48 ≤ eS e at0 ∧ eS e at0 ≤ 57)) → V_X4_readValue_58 K M (eT e) (i32 (f : Nat)) := by
      intro c1 c2
      have hv : pVal (eS e) f at0 = pNum (eS e) 4 (tL f) (tG f) at0 := by unfold pVal; rw [if_neg c1, if_neg c2]
      have htl := tLG hf
      unfold V_X4_readValue_58
      have vin : vp_in (i32 (f : Nat)) 6 := i32_in (by omega) (by omega) (by omega)
      refine ⟨vin, vin, h.1.1.1, ?_⟩
      rw [i32_clamp (by omega) (by omega), Int.toNat_natCast, tb_i.1 f (by omega), tb_i.2 f (by omega), show (4 : Int32) = i32 ((4 : Nat)) by decide]
      exact s_num h (by omega) (by omega) (by omega) (fun a1 v e1 M' hp => kI_i (hO a1 v (hv.trans e1) M' hp)) (fun co pl e1 M' v hp => kI_i (hF co pl (hv.trans e1) M' v hp))
    have hb0 : b = false ↔ ¬ (48 ≤ eS e at0 ∧ eS e at0 ≤ 57) := by rw [← hb]; simp
    have c42 : ¬ (f = 3 ∧ ¬ (48 ≤ eS e at0 ∧ eS e at0 ≤ 57)) → V_X4_readValue_42 K M (eT e) (i32 (f : Nat)) (bI b) := by
      intro c1
      unfold V_X4_readValue_42
      rw [q_4, i32_eq (by omega) (by omega) (by omega) (by omega), bI_ne0, bI_0, hb0, hb]
      refine ⟨fun q => num c1 (fun c2 => by omega), fun q => ⟨fun q2 => num c1 (fun c2 => c2.2 q2), fun q2 => ⟨h.1.1.1, ?_⟩⟩⟩
      have hv : pVal (eS e) f at0 = pBn (pName (eS e) 12 7 at0) (fun at1 k => .inr (at1, (k : Int) - 12)) := by unfold pVal; rw [if_neg c1, if_pos ⟨by omega, q2⟩]
      exact s_name nmJ_20 h (fun a1 k e1 M' hp => kI_i (hO a1 _ (hv.trans (by rw [e1]; rfl)) M' hp)) (fun co pl e1 M' v hp => kI_i (hF co pl (hv.trans (by rw [e1]; rfl)) M' v hp))
    unfold V_X4_readValue_23
    rw [q_3, i32_eq (by omega) (by omega) (by omega) (by omega), bI_ne0, bI_0, hb0, hb]
    refine ⟨fun q => c42 (fun c1 => by omega), fun q => ⟨fun q2 => c42 (fun c1 => c1.2 q2), fun q2 => ⟨h.1.1.1, ?_⟩⟩⟩
    have hv : pVal (eS e) f at0 = pBn (pName (eS e) 0 12 at0) (fun at1 k => .inr (at1, (k : Int) + 1)) := by unfold pVal; rw [if_pos ⟨by omega, q2⟩]
    refine s_name nmJ_19 h (fun a1 k e1 M' hp => kI_i ?_) (fun co pl e1 M' v hp => kI_i (hF co pl (hv.trans (by rw [e1]; rfl)) M' _ hp))
    have := hO a1 _ (hv.trans (by rw [e1]; rfl)) M' hp
    rw [q_1, i32_add, show ((k : Nat) : Int) - ((0 : Nat) : Int) + 1 = (k : Int) + 1 by omega]
    exact this
  unfold V_X4_readValue V_X4_readValue_22
  refine ⟨h.1.1.1, h.lk (kI_i ?_)⟩
  rw [q_48, i32_lt (by omega) (by omega) (by omega) (by omega)]
  refine ⟨fun q => go false ⟨fun q => absurd q (by decide), fun q => by omega⟩, fun q => ⟨h.1.1.1, h.lk (kI_i ?_)⟩⟩
  rw [q_57, i32_lt (by omega) (by omega) (by omega) (by omega)]
  exact ⟨fun q2 => go false ⟨fun q => absurd q (by decide), fun q => by omega⟩, fun q2 => go true ⟨fun _ => by omega, fun _ => rfl⟩⟩
