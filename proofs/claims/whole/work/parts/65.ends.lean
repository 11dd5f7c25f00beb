/-! which run ends next, and that it comes to an end -/
theorem nxF_spec (D : Dk) : ∀ (c k : Nat) (r : Option Nat) (le : Int), (∀ q0, r = some q0 → q0 < k ∧ ∃ ma l, dR D q0 = (le, ma) :: l) → (∀ j e ma l, j < k → dR D j = (e, ma) :: l → le ≤ e ∧ ∀ q0, r = some q0 → le = e → q0 ≤ j) →
    (∀ q, nxF D c k r le = some q → ∃ e ma l, dR D q = (e, ma) :: l ∧ ∀ j e' ma' l', j < k + c → dR D j = (e', ma') :: l' → e < e' ∨ (e = e' ∧ q ≤ j)) ∧ (nxF D c k r le = none → ∀ j e' ma' l', j < k + c → dR D j = (e', ma') :: l' → le ≤ e')
  | 0, k, r, le, h1, h2 => by
    refine ⟨fun q hq => ?_, fun hq j e' ma' l' hj hd => ?_⟩
    · have hq' : r = some q := hq
      obtain ⟨a1, ma, l, a2⟩ := h1 q hq'
      refine ⟨le, ma, l, a2, fun j e' ma' l' hj hd => ?_⟩
      obtain ⟨b1, b2⟩ := h2 j e' ma' l' (by omega) hd
      by_cases c : le = e'
      · exact .inr ⟨c, b2 q hq' c⟩
      · exact .inl (by omega)
    · exact (h2 j e' ma' l' (by omega) hd).1
  | c + 1, k, r, le, h1, h2 => by
    unfold nxF
    rcases el : dR D k with _ | ⟨⟨a, b⟩, l⟩
    · simp only
      have := nxF_spec D c (k + 1) r le (fun q0 h => ⟨by have := (h1 q0 h).1; omega, (h1 q0 h).2⟩) (fun j e ma l hj hd => by
        by_cases cj : j = k
        · subst cj; rw [el] at hd; cases hd
        · exact h2 j e ma l (by omega) hd)
      rw [show k + (c + 1) = k + 1 + c by omega]
      exact this
    · simp only
      rw [show k + (c + 1) = k + 1 + c by omega]
      split
      · rename_i hlt
        have := nxF_spec D c (k + 1) (some k) a (fun q0 h => by have := Option.some.inj h; subst this; exact ⟨by omega, b, l, el⟩) (fun j e ma l' hj hd => by
          by_cases cj : j = k
          · subst cj; rw [el] at hd; cases hd; exact ⟨Int.le_refl _, fun q0 h _ => by have := Option.some.inj h; omega⟩
          · have := h2 j e ma l' (by omega) hd
            exact ⟨by omega, fun q0 h he => by omega⟩)
        refine ⟨this.1, fun hq j e' ma' l' hj hd => ?_⟩
        have h9 := this.2 hq k a b l (by omega) el
        rcases nn : nxF D c (k + 1) (some k) a with _ | q
        · exact absurd hq (by
            have : ∀ (c k : Nat) (q0 : Nat) (le : Int), nxF D c k (some q0) le ≠ none := by
              intro c
              induction c with
              | zero => intro k q0 le h; cases h
              | succ c ih =>
                intro k q0 le h
                unfold nxF at h
                split at h
                · exact ih _ _ _ h
                · split at h
                  · exact ih _ _ _ h
                  · exact ih _ _ _ h
            exact this _ _ _ _)
        · rw [nn] at hq; cases hq
      · rename_i hge
        exact nxF_spec D c (k + 1) r le (fun q0 h => ⟨by have := (h1 q0 h).1; omega, (h1 q0 h).2⟩) (fun j e ma l' hj hd => by
          by_cases cj : j = k
          · subst cj; rw [el] at hd; cases hd
            exact ⟨by omega, fun q0 h _ => by have := (h1 q0 h).1; omega⟩
          · exact h2 j e ma l' (by omega) hd)
theorem nx_min {D : Dk} {t : Int} {q : Nat} (h : nx D t = some q) : ∃ e ma l, dR D q = (e, ma) :: l ∧ ∀ j e' ma' l', j < 12 → dR D j = (e', ma') :: l' → e < e' ∨ (e = e' ∧ q ≤ j) := by
  have := (nxF_spec D 12 0 none (t + 1) (fun _ h => by cases h) (fun j _ _ _ hj => absurd hj (Nat.not_lt_zero _))).1 q h
  simpa using this
theorem nx_none {D : Dk} {t : Int} (h : nx D t = none) {j : Nat} {e ma : Int} {l : List (Int × Int)} (hj : j < 12) (hd : dR D j = (e, ma) :: l) : t < e := by
  have := (nxF_spec D 12 0 none (t + 1) (fun _ h => by cases h) (fun j _ _ _ hj => absurd hj (Nat.not_lt_zero _))).2 h j e ma l (by omega) hd
  omega
theorem get_mem {R : List (Nat × Int × Int)} {q : Nat × Int × Int} (h : q ∈ R) : ∃ j, j < R.length ∧ R.getD j (0, 0, 0) = q := by
  obtain ⟨j, hj, e⟩ := List.getElem_of_mem h
  exact ⟨j, hj, by rw [List.getD_eq_getElem?_getD, List.getElem?_eq_getElem hj]; exact e⟩
theorem split_at {R : List (Nat × Int × Int)} {v : Nat} (hv : v < R.length) : R = R.take v ++ R.getD v (0, 0, 0) :: R.drop (v + 1) := by
  have e : R.getD v (0, 0, 0) = R[v] := by rw [List.getD_eq_getElem?_getD, List.getElem?_eq_getElem hv]; rfl
  rw [e, List.getElem_cons_drop, List.take_append_drop]
theorem Bst_nx {R : List (Nat × Int × Int)} {D : Dk} {t v : Int} (hP : RuP R (dR D)) (hS : srtD D) (hB : Bst R t R.length v) : (v = -1 ∧ nx D t = none) ∨ ∃ (k : Nat) (e ma : Int) (P Q : List (Nat × Int × Int)), R = P ++ (k, e, ma) :: Q ∧ v = (P.length : Nat) ∧ (∀ q ∈ P, q.1 ≠ k) ∧ k < 12 ∧ dR D k = (e, ma) :: (Q.filter (fun q => q.1 == k)).map (fun q => q.2) ∧ e ≤ t ∧ nx D t = some k := by
  have head : ∀ (j : Nat) (e ma : Int) (l : List (Int × Int)), j < 12 → dR D j = (e, ma) :: l → ∃ i, i < R.length ∧ R.getD i (0, 0, 0) = (j, e, ma) := by
    intro j e ma l hj hd
    have h1 := hP.2 j hj
    rw [hd] at h1
    have : (e, ma) ∈ (R.filter (fun q => q.1 == j)).map (fun q => q.2) := by rw [h1]; exact List.mem_cons_self
    obtain ⟨q, hq, e1⟩ := List.mem_map.mp this
    obtain ⟨hq1, hq2⟩ := List.mem_filter.mp hq
    obtain ⟨i, hi, e2⟩ := get_mem hq1
    refine ⟨i, hi, ?_⟩
    rw [e2]
    have : q.1 = j := by simpa using hq2
    rw [← this, ← e1]
  rcases hB with ⟨b1, b2⟩ | ⟨b1, b2, b3, b4, b5⟩
  · refine .inl ⟨b1, ?_⟩
    rcases hn : nx D t with _ | q
    · rfl
    · obtain ⟨hk, _⟩ := nx_some hn
      obtain ⟨e, ma, l, hd, hle⟩ := nx_le hn
      obtain ⟨i, hi, ei⟩ := head q e ma l hk hd
      have := b2 i hi
      rw [ei] at this
      simp only at this
      omega
  · obtain ⟨u, rfl⟩ : ∃ u : Nat, v = u := ⟨v.toNat, by omega⟩
    rw [Int.toNat_natCast] at b3 b4 b5
    have hu : u < R.length := by omega
    have hsp := split_at hu
    obtain ⟨k, e, ma, ex⟩ : ∃ k e ma, R.getD u (0, 0, 0) = (k, e, ma) := ⟨_, _, _, rfl⟩
    rw [ex] at hsp b3 b4 b5
    simp only at b3 b4 b5
    have hk : k < 12 := hP.1 (k, e, ma) (by rw [hsp]; simp)
    have hfil : (R.filter (fun q => q.1 == k)) = (R.take u).filter (fun q => q.1 == k) ++ (k, e, ma) :: (R.drop (u + 1)).filter (fun q => q.1 == k) := by
      conv => lhs; rw [hsp]
      rw [List.filter_append, List.filter_cons]
      simp
    have hno : ∀ q ∈ R.take u, q.1 ≠ k := by
      intro q hq c
      have h1 := hS k hk
      rw [← hP.2 k hk, hfil, List.map_append, List.pairwise_append] at h1
      have h2 := h1.2.2 q.2 (List.mem_map.mpr ⟨q, List.mem_filter.mpr ⟨hq, by simpa using c⟩, rfl⟩) (e, ma) (by simp)
      simp only at h2
      obtain ⟨j, hj, ej⟩ := List.getElem_of_mem hq
      rw [List.length_take] at hj
      have ej' : R.getD j (0, 0, 0) = q := by
        rw [List.getD_eq_getElem?_getD, List.getElem?_eq_getElem (by omega)]
        rw [List.getElem_take] at ej
        exact ej
      have := b5 j (by omega) (by rw [ej']; omega)
      rw [ej'] at this
      omega
    have hempty : (R.take u).filter (fun q => q.1 == k) = [] := by
      rw [List.filter_eq_nil_iff]
      intro q hq
      simpa using hno q hq
    have hd : dR D k = (e, ma) :: ((R.drop (u + 1)).filter (fun q => q.1 == k)).map (fun q => q.2) := by
      rw [← hP.2 k hk, hfil, hempty]; rfl
    refine .inr ⟨k, e, ma, R.take u, R.drop (u + 1), hsp, by rw [List.length_take]; omega, hno, hk, hd, b3, ?_⟩
    rcases hn : nx D t with _ | q
    · have := nx_none hn hk hd; omega
    · obtain ⟨hq, _⟩ := nx_some hn
      obtain ⟨e1, ma1, l1, hd1, hmin⟩ := nx_min hn
      obtain ⟨i, hi, ei⟩ := head q e1 ma1 l1 hq hd1
      have h1 := hmin k e ma _ hk hd
      obtain ⟨e2, ma2, l2, hd2, hle⟩ := nx_le hn
      rw [hd1] at hd2
      cases hd2
      have h2 := b4 i hi (by rw [ei]; exact hle)
      rw [ei] at h2
      simp only at h2
      congr 1
      omega
/-! what stays so at the desk -/
def Iv (now : Int) (us : Nat → Bool) (tk : Nat → Int) (D : Dk) : Prop := l8D D ∧ wOk D ∧ srtD D ∧ (∀ k, k < 12 → us k = false → dR D k = [] ∧ dW D k = none) ∧ (∀ k, k < 12 → ∀ q ∈ dR D k, 0 ≤ q.1 ∧ q.1 ≤ now + tk k) ∧ 0 ≤ dC D
def tkOk (tk : Nat → Int) : Prop := ∀ k, k < 12 → 0 ≤ tk k ∧ tk k ≤ 10000
theorem Iv.bd {now : Int} {us : Nat → Bool} {tk : Nat → Int} {D : Dk} (h : Iv now us tk D) (ht : tkOk tk) (hn : now ≤ 157785119) : bdE D := fun k hk q hq => by
  have := h.2.2.2.2.1 k hk q hq
  have := ht k hk
  omega
theorem Iv.ln {now : Int} {us : Nat → Bool} {tk : Nat → Int} {D : Dk} {a b c d : Int} (h : Iv now us tk D) : Iv now us tk (dkLn D a b c d) := ⟨h.1, h.2.1, h.2.2.1, h.2.2.2.1, h.2.2.2.2.1, by have := h.2.2.2.2.2; show 0 ≤ dC D + 1; omega⟩
theorem Iv.tl {now : Int} {us : Nat → Bool} {tk : Nat → Int} {D : Dk} {k : Nat} {x : Int × Int} {r : List (Int × Int)} (h : Iv now us tk D) (hk : k < 12) (el : dR D k = x :: r) : Iv now us tk (dkR D k r) := by
  obtain ⟨h1, h2, h3, h4, h5, h6⟩ := h
  have hr : ∀ j, dR (dkR D k r) j = if j = k then r else dR D j := fun j => rfl
  refine ⟨fun j hj => ?_, h2, fun j hj => ?_, fun j hj hu => ?_, fun j hj q hq => ?_, h6⟩
  · rw [hr]
    split
    · have := h1 k hk; rw [el] at this; simp only [List.length_cons] at this; omega
    · exact h1 j hj
  · rw [hr]
    split
    · have := h3 k hk; rw [el] at this; exact (List.pairwise_cons.mp this).2
    · exact h3 j hj
  · refine ⟨?_, (h4 j hj hu).2⟩
    rw [hr]
    split
    · rename_i c
      subst c
      have := (h4 j hj hu).1
      rw [el] at this; cases this
    · exact (h4 j hj hu).1
  · rw [hr] at hq
    split at hq
    · rename_i c
      subst c
      exact h5 j hj q (by rw [el]; exact List.mem_cons_of_mem _ hq)
    · exact h5 j hj q hq
theorem Iv.bg {now : Int} {us : Nat → Bool} {tk : Nat → Int} {D : Dk} {k : Nat} {mi ma : Int} (h : Iv now us tk D) (hk : k < 12) (hu : us k = true) (hl : (dR D k).length < 8) (hm : 0 ≤ mi ∧ mi ≤ now) (ht : tkOk tk) (hs : ∀ q ∈ dR D k, q.1 ≤ mi + tk k) : Iv now us tk (dkB tk k mi ma D) := by
  obtain ⟨h1, h2, h3, h4, h5, h6⟩ := h
  have hr : ∀ j, dR (dkB tk k mi ma D) j = if j = k then dR D k ++ [(mi + tk k, ma)] else dR D j := fun j => rfl
  have htk := ht k hk
  refine ⟨fun j hj => ?_, h2, fun j hj => ?_, fun j hj hu' => ?_, fun j hj q hq => ?_, by show 0 ≤ dC D + 1; omega⟩
  · rw [hr]
    split
    · rw [List.length_append, List.length_singleton]; omega
    · exact h1 j hj
  · rw [hr]
    split
    · rw [List.pairwise_append]
      exact ⟨h3 k hk, List.pairwise_singleton _ _, fun a ha b hb => by rw [List.mem_singleton] at hb; subst hb; exact hs a ha⟩
    · exact h3 j hj
  · refine ⟨?_, (h4 j hj hu').2⟩
    rw [hr]
    split
    · rename_i c
      subst c
      rw [hu] at hu'; exact absurd hu' (by decide)
    · exact (h4 j hj hu').1
  · rw [hr] at hq
    split at hq
    · rename_i c
      subst c
      rw [List.mem_append, List.mem_singleton] at hq
      rcases hq with hq | hq
      · exact h5 j hj q hq
      · subst hq; simp only; omega
    · exact h5 j hj q hq
theorem Iv.wt {now : Int} {us : Nat → Bool} {tk : Nat → Int} {D : Dk} {k : Nat} {w : Option Int} (h : Iv now us tk D) (hk : k < 12) (hw : ∀ v, w = some v → (0 ≤ v ∧ v ≤ 2000000000) ∧ us k = true) : Iv now us tk (dkW D k w) := by
  obtain ⟨h1, h2, h3, h4, h5, h6⟩ := h
  have hr : ∀ j, dW (dkW D k w) j = if j = k then w else dW D j := fun j => rfl
  refine ⟨h1, fun j hj v hv => ?_, h3, fun j hj hu => ⟨(h4 j hj hu).1, ?_⟩, h5, h6⟩
  · rw [hr] at hv
    split at hv
    · exact (hw v hv).1
    · exact h2 j hj v hv
  · rw [hr]
    split
    · rename_i c
      subst c
      rcases w with _ | v
      · rfl
      · have := (hw v rfl).2; rw [hu] at this; exact absurd this (by decide)
    · exact (h4 j hj hu).2
theorem Iv.en {now : Int} {us : Nat → Bool} {tk : Nat → Int} {D : Dk} {k : Nat} {e ma : Int} {r : List (Int × Int)} (h : Iv now us tk D) (ht : tkOk tk) (hk : k < 12) (el : dR D k = (e, ma) :: r) (he : e ≤ now) : Iv now us tk (dkE tk k D) := by
  have hu : us k = true := by
    rcases c : us k with _ | _
    · have := (h.2.2.2.1 k hk c).1; rw [el] at this; cases this
    · rfl
  have h0 := h.2.2.2.2.1 k hk (e, ma) (by rw [el]; exact List.mem_cons_self)
  rw [dkE_cons el]
  have hln : Iv now us tk (dkLn (dkR D k r) 1 k e ma) := (h.tl hk el).ln
  split
  · exact hln
  · split
    · rename_i w hw hr
      have h9 := hln.wt (w := none) hk (fun v hv => by cases hv)
      have e9 : dR (dkW (dkLn (dkR D k r) 1 k e ma) k none) k = r := va_up_self _ _ _
      refine h9.bg hk hu ?_ ⟨h0.1, he⟩ ht (fun q hq => ?_)
      · rw [e9, hr]; decide
      · rw [e9, hr] at hq; cases hq
    · exact hln
/-- how much can still end -/
def sN (f : Nat → Nat) : Nat → Nat
  | 0 => 0
  | n + 1 => sN f n + f n
theorem sN_up (f : Nat → Nat) (k v : Nat) : ∀ n, k < n → sN (va_up f k v) n + f k = sN f n + v := by
  intro n
  induction n with
  | zero => intro h; omega
  | succ n ih =>
    intro h
    simp only [sN]
    by_cases c : k = n
    · subst c
      rw [va_up_self]
      have : ∀ m, m ≤ k → sN (va_up f k v) m = sN f m := by
        intro m
        induction m with
        | zero => intro _; rfl
        | succ m im => intro hm; simp only [sN]; rw [im (by omega), va_up_ne _ _ (by omega)]
      rw [this k (Nat.le_refl _)]; omega
    · have := ih (by omega)
      rw [va_up_ne _ _ (by omega)]; omega
theorem sN_le (f : Nat → Nat) (B : Nat) (h : ∀ k, k < 12 → f k ≤ B) : ∀ n, n ≤ 12 → sN f n ≤ n * B := by
  intro n
  induction n with
  | zero => intro _; simp [sN]
  | succ n ih => intro hn; have := ih (by omega); have := h n (by omega); simp only [sN]; rw [Nat.add_mul]; omega
def muF (D : Dk) (k : Nat) : Nat := (dR D k).length + if (dW D k).isSome then 1 else 0
def mu (D : Dk) : Nat := sN (muF D) 12
theorem mu_le {now : Int} {us : Nat → Bool} {tk : Nat → Int} {D : Dk} (h : Iv now us tk D) : mu D ≤ 108 := by
  have := sN_le (muF D) 9 (fun k hk => by unfold muF; have := h.1 k hk; split <;> omega) 12 (by decide)
  exact this
theorem mu_up {D D' : Dk} {k : Nat} (hk : k < 12) (h : ∀ j, j ≠ k → muF D' j = muF D j) : mu D' + muF D k = mu D + muF D' k := by
  have e : muF D' = va_up (muF D) k (muF D' k) := by
    funext j
    by_cases c : j = k
    · subst c; rw [va_up_self]
    · rw [va_up_ne _ _ c, h j c]
  unfold mu
  rw [e]
  have := sN_up (muF D) k (muF D' k) 12 hk
  rw [va_up_self]
  exact this
theorem mu_en {tk : Nat → Int} {D : Dk} {k : Nat} {e ma : Int} {r : List (Int × Int)} (hk : k < 12) (el : dR D k = (e, ma) :: r) : mu (dkE tk k D) + 1 = mu D := by
  have ho : ∀ j, j ≠ k → muF (dkE tk k D) j = muF D j := by
    intro j hj
    rw [dkE_cons el]
    unfold muF
    split
    · show (va_up (dR D) k r j).length + _ = _; rw [va_up_ne _ _ hj]; rfl
    · split
      · show (va_up (va_up (dR D) k r) k _ j).length + (if (va_up (dW D) k none j).isSome then 1 else 0) = _
        rw [va_up_ne _ _ hj, va_up_ne _ _ hj, va_up_ne _ _ hj]
      · show (va_up (dR D) k r j).length + _ = _; rw [va_up_ne _ _ hj]; rfl
  have h1 := mu_up hk ho
  have h2 : muF (dkE tk k D) k + 1 = muF D k := by
    rw [dkE_cons el]
    have e0 : muF D k = r.length + 1 + if (dW D k).isSome then 1 else 0 := by unfold muF; rw [el]; rfl
    rw [e0]
    rcases hw : dW D k with _ | w
    · simp only
      unfold muF
      show (va_up (dR D) k r k).length + (if (dW D k).isSome then 1 else 0) + 1 = _
      rw [va_up_self, hw]; simp
    · simp only
      split
      · rename_i hr
        unfold muF
        show (va_up (va_up (dR D) k r) k (va_up (dR D) k r k ++ [(e + tk k, w)]) k).length + (if (va_up (dW D) k none k).isSome then 1 else 0) + 1 = _
        rw [va_up_self, va_up_self, va_up_self, hr]; rfl
      · unfold muF
        show (va_up (dR D) k r k).length + (if (dW D k).isSome then 1 else 0) + 1 = _
        rw [va_up_self, hw]; simp
  omega
theorem nx_mu {D : Dk} {t : Int} (h : mu D = 0) : nx D t = none := by
  rcases hn : nx D t with _ | q
  · rfl
  · obtain ⟨hk, hne⟩ := nx_some hn
    have : muF D q = 0 := by
      have hle : ∀ n, q < n → muF D q ≤ sN (muF D) n := by
        intro n
        induction n with
        | zero => intro h; omega
        | succ n ih =>
          intro h
          simp only [sN]
          by_cases c : q = n
          · subst c; omega
          · have := ih (by omega); omega
      have := hle 12 hk
      unfold mu at h
      omega
    unfold muF at this
    have : (dR D q).length = 0 := by omega
    exact absurd (List.length_eq_zero_iff.mp this) hne
theorem endF_iv {tk : Nat → Int} {us : Nat → Bool} {now t : Int} (ht : tkOk tk) (hle : t ≤ now) : ∀ (n : Nat) (D : Dk), Iv now us tk D → Iv now us tk (endF tk t n D) ∧ dC D ≤ dC (endF tk t n D) ∧ dC (endF tk t n D) ≤ dC D + 2 * n ∧ (mu D ≤ n → nx (endF tk t n D) t = none)
  | 0, D, h => ⟨h, Int.le_refl _, by show dC D ≤ dC D + 2 * 0; omega, fun hm => nx_mu (show mu D = 0 by omega)⟩
  | n + 1, D, h => by
    unfold endF
    rcases hn : nx D t with _ | k
    · simp only
      exact ⟨h, by omega, by omega, fun _ => hn⟩
    · simp only
      obtain ⟨hk, _⟩ := nx_some hn
      obtain ⟨e, ma, r, el, hle'⟩ := nx_le hn
      have h1 := endF_iv ht hle n (dkE tk k D) (h.en ht hk el (by omega))
      have h2 := dC_dkE tk k D
      have h3 := mu_en (tk := tk) hk el
      exact ⟨h1.1, by omega, by omega, fun hm => h1.2.2.2 (by omega)⟩
/-- ending up to t after ending up to t' is ending up to t -/
theorem nx_up {D : Dk} {t t' : Int} {k : Nat} (h : nx D t' = some k) (hle : t' ≤ t) : nx D t = some k := by
  obtain ⟨hk, _⟩ := nx_some h
  obtain ⟨e, ma, r, el, he⟩ := nx_le h
  obtain ⟨e1, ma1, l1, hd1, hmin⟩ := nx_min h
  rw [el] at hd1
  cases hd1
  rcases hn : nx D t with _ | q
  · have := nx_none hn hk el; omega
  · obtain ⟨hq, _⟩ := nx_some hn
    obtain ⟨e2, ma2, l2, hd2, hmin2⟩ := nx_min hn
    have a1 := hmin q e2 ma2 l2 hq hd2
    have a2 := hmin2 k e ma r hk el
    congr 1
    omega
theorem endF_more {tk : Nat → Int} {t : Int} : ∀ (n m : Nat) (D : Dk), mu D ≤ n → n ≤ m → endF tk t m D = endF tk t n D
  | 0, m, D, h1, h2 => by
    have hn := nx_mu (D := D) (t := t) (by omega)
    cases m with
    | zero => rfl
    | succ m => unfold endF; rw [hn]
  | n + 1, m, D, h1, h2 => by
    obtain ⟨m', rfl⟩ : ∃ m', m = m' + 1 := ⟨m - 1, by omega⟩
    unfold endF
    rcases hn : nx D t with _ | k
    · rfl
    · simp only
      obtain ⟨hk, _⟩ := nx_some hn
      obtain ⟨e, ma, r, el, _⟩ := nx_le hn
      have := mu_en (tk := tk) hk el
      exact endF_more n m' _ (by omega) (by omega)
theorem endF_endF {tk : Nat → Int} {t t' : Int} (hle : t' ≤ t) : ∀ (n : Nat) (D : Dk), mu D ≤ n → endF tk t n (endF tk t' n D) = endF tk t n D
  | 0, D, h => rfl
  | n + 1, D, h => by
    rcases hn : nx D t' with _ | k
    · have : endF tk t' (n + 1) D = D := by unfold endF; rw [hn]
      rw [this]
    · obtain ⟨hk, _⟩ := nx_some hn
      obtain ⟨e, ma, r, el, _⟩ := nx_le hn
      have hm := mu_en (tk := tk) hk el
      have e1 : endF tk t' (n + 1) D = endF tk t' n (dkE tk k D) := by conv => lhs; unfold endF; rw [hn]
      have e2 : endF tk t (n + 1) D = endF tk t n (dkE tk k D) := by conv => lhs; unfold endF; rw [nx_up hn hle]
      have e3 : endF tk t (n + 1) (endF tk t' n (dkE tk k D)) = endF tk t n (endF tk t' n (dkE tk k D)) := by
        have hmu : ∀ (j : Nat) (D : Dk), mu (endF tk t' j D) ≤ mu D := by
          intro j
          induction j with
          | zero => intro D; exact Nat.le_refl _
          | succ j ih =>
            intro D
            unfold endF
            rcases hn2 : nx D t' with _ | k2
            · exact Nat.le_refl _
            · simp only
              obtain ⟨hk2, _⟩ := nx_some hn2
              obtain ⟨e', ma', r', el', _⟩ := nx_le hn2
              have := mu_en (tk := tk) hk2 el'
              have := ih (dkE tk k2 D)
              omega
        exact endF_more n (n + 1) _ (by have := hmu n (dkE tk k D); omega) (by omega)
      rw [e1, e2, e3]
      exact endF_endF hle n _ (by omega)
