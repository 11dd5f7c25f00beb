/-! the memory: addresses, kinds, lengths, and what the places hold, by sort -/
abbrev Mm : Type := List Nat × (Nat → Nat) × (Nat → Nat) × (Nat → Nat → Int32) × (Nat → Nat → Int64) × (Nat → Nat → Option Nat)
def mL (M : Mm) : List Nat := M.1
def mK (M : Mm) : Nat → Nat := M.2.1
def mN (M : Mm) : Nat → Nat := M.2.2.1
def mI (M : Mm) : Nat → Nat → Int32 := M.2.2.2.1
def mJ (M : Mm) : Nat → Nat → Int64 := M.2.2.2.2.1
def mP (M : Mm) : Nat → Nat → Option Nat := M.2.2.2.2.2
def sI (M : Mm) (a k : Nat) (v : Int32) : Mm := (M.1, M.2.1, M.2.2.1, va_up M.2.2.2.1 a (va_up (M.2.2.2.1 a) k v), M.2.2.2.2.1, M.2.2.2.2.2)
def sJ (M : Mm) (a k : Nat) (v : Int64) : Mm := (M.1, M.2.1, M.2.2.1, M.2.2.2.1, va_up M.2.2.2.2.1 a (va_up (M.2.2.2.2.1 a) k v), M.2.2.2.2.2)
def sP (M : Mm) (a k : Nat) (v : Option Nat) : Mm := (M.1, M.2.1, M.2.2.1, M.2.2.2.1, M.2.2.2.2.1, va_up M.2.2.2.2.2 a (va_up (M.2.2.2.2.2 a) k v))
/-- a new thing at q, of kind c, of n places, all 0 -/
def nO (M : Mm) (q c n : Nat) : Mm := (M.1 ++ [q], va_up M.2.1 q c, va_up M.2.2.1 q n, va_up M.2.2.2.1 q (fun _ => 0), va_up M.2.2.2.2.1 q (fun _ => 0), va_up M.2.2.2.2.2 q (fun _ => none))
def nfC (c : Nat) : Nat := match c with
  | 0 => 6
  | 1 => 5
  | 2 => 17
  | 3 => 13
  | 4 => 6
  | 5 => 3
  | 6 => 9
  | _ => 60
def tyC (c : Nat) : Nat → FieldType := match c with
  | 0 => tyX0
  | 1 => tyX1
  | 2 => tyX2
  | 3 => tyX3
  | 4 => tyX4
  | 5 => tyX5
  | 6 => tyX6
  | _ => tyX7
/-- of which sort a place is: 0 a number of 32 bits, 1 of 64, 2 a reference -/
def srt (t : FieldType) : Nat := match t with
  | .long => 1
  | .object _ => 2
  | .array _ => 2
  | _ => 0
def fv (t : FieldType) (M : Mm) (a k : Nat) : Value := match srt t with
  | 0 => .int (mI M a k)
  | 1 => .long (mJ M a k)
  | _ => va_rf (mP M a k)
def fl (M : Mm) (a c : Nat) : List Value := (List.range (nfC c)).map (fun k => fv (tyC c k) M a k)
def ent (cy : Nat → ClassId) (M : Mm) (a : Nat) : va_E :=
  if mK M a < 8 then .inr (mK M a, fl M a (mK M a))
  else .inl (cy (mK M a), mN M a, if mK M a = 10 then .inr (.inl (mJ M a)) else if 12 ≤ mK M a then .inr (.inr (.inr (.inr (mP M a)))) else .inl (mI M a))
theorem fl_len (M : Mm) (a c : Nat) : (fl M a c).length = nfC c := by simp [fl]
theorem fl_at (M : Mm) (a c : Nat) {k : Nat} (h : k < nfC c) : (fl M a c)[k]? = some (fv (tyC c k) M a k) := by simp [fl, h]
theorem fl_set {M M' : Mm} {a c k : Nat} {v : Value} (h1 : k < nfC c) (h2 : fv (tyC c k) M' a k = v) (h3 : ∀ j, j ≠ k → fv (tyC c j) M' a j = fv (tyC c j) M a j) : fl M' a c = (fl M a c).set k v := by
  apply List.ext_getElem?
  intro j
  by_cases hj : k = j
  · subst hj
    rw [List.getElem?_set_self (by rw [fl_len]; exact h1), fl_at M' a c h1, h2]
  · rw [List.getElem?_set_ne hj]
    by_cases hl : j < nfC c
    · rw [fl_at M' a c hl, fl_at M a c hl, h3 j (fun q => hj q.symm)]
    · simp [fl, hl]
theorem ent_o {cy : Nat → ClassId} {M : Mm} {a c : Nat} (h : mK M a = c) (hc : c < 8) : ent cy M a = .inr (c, fl M a c) := by
  unfold ent; rw [h, if_pos hc]
theorem ent_i {cy : Nat → ClassId} {M : Mm} {a c : Nat} (h : mK M a = c) (h8 : ¬ c < 8) (h10 : c ≠ 10) (h12 : ¬ 12 ≤ c) : ent cy M a = .inl (cy c, mN M a, .inl (mI M a)) := by
  unfold ent; rw [h, if_neg h8, if_neg h10, if_neg h12]
theorem ent_j {cy : Nat → ClassId} {M : Mm} {a : Nat} (h : mK M a = 10) : ent cy M a = .inl (cy 10, mN M a, .inr (.inl (mJ M a))) := by
  unfold ent; rw [h, if_neg (by omega), if_pos rfl]
theorem ent_p {cy : Nat → ClassId} {M : Mm} {a c : Nat} (h : mK M a = c) (h12 : 12 ≤ c) : ent cy M a = .inl (cy c, mN M a, .inr (.inr (.inr (.inr (mP M a))))) := by
  unfold ent; rw [h, if_neg (by omega), if_neg (by omega), if_pos h12]
theorem ent_ne {cy : Nat → ClassId} {M M' : Mm} {b : Nat} (hK : mK M' b = mK M b) (hN : mN M' b = mN M b) (hI : mI M' b = mI M b) (hJ : mJ M' b = mJ M b) (hP : mP M' b = mP M b) : ent cy M' b = ent cy M b := by
  have hf : ∀ c, fl M' b c = fl M b c := fun c => by
    unfold fl
    apply List.map_congr_left
    intro k _
    unfold fv
    rw [hI, hJ, hP]
  unfold ent
  rw [hK, hN, hI, hJ, hP, hf]
theorem mI_sI (M : Mm) (a k : Nat) (v : Int32) (b j : Nat) : mI (sI M a k v) b j = if b = a ∧ j = k then v else mI M b j := by
  show va_up M.2.2.2.1 a (va_up (M.2.2.2.1 a) k v) b j = _
  unfold va_up
  by_cases h : b = a
  · subst h
    by_cases h2 : j = k <;> simp [h2, mI]
  · simp [h, mI]
theorem mJ_sJ (M : Mm) (a k : Nat) (v : Int64) (b j : Nat) : mJ (sJ M a k v) b j = if b = a ∧ j = k then v else mJ M b j := by
  show va_up M.2.2.2.2.1 a (va_up (M.2.2.2.2.1 a) k v) b j = _
  unfold va_up
  by_cases h : b = a
  · subst h
    by_cases h2 : j = k <;> simp [h2, mJ]
  · simp [h, mJ]
theorem mP_sP (M : Mm) (a k : Nat) (v : Option Nat) (b j : Nat) : mP (sP M a k v) b j = if b = a ∧ j = k then v else mP M b j := by
  show va_up M.2.2.2.2.2 a (va_up (M.2.2.2.2.2 a) k v) b j = _
  unfold va_up
  by_cases h : b = a
  · subst h
    by_cases h2 : j = k <;> simp [h2, mP]
  · simp [h, mP]
theorem up_row {α : Type} (f : Nat → α) (a b : Nat) (v : α) (h : b ≠ a) : va_up f a v b = f b := va_up_ne f v h
/-- a number is put into an object -/
theorem ent_sI {cy : Nat → ClassId} {M : Mm} {a c k : Nat} (v : Int32) (h : mK M a = c) (hc : c < 8) (hk : k < nfC c) (ht : srt (tyC c k) = 0) (b : Nat) : va_up (ent cy M) a (.inr (c, (fl M a c).set k (.int v))) b = ent cy (sI M a k v) b := by
  by_cases hb : b = a
  · subst hb
    rw [va_up_self, ent_o (M := sI M b k v) h hc]
    refine congrArg (fun l => (Sum.inr (c, l) : va_E)) (fl_set hk ?_ ?_).symm
    · unfold fv; rw [ht]; show Value.int (mI (sI M b k v) b k) = _; rw [mI_sI, if_pos ⟨rfl, rfl⟩]
    · intro j hj
      unfold fv
      rw [show mI (sI M b k v) b j = mI M b j by rw [mI_sI, if_neg (fun q => hj q.2)]]
      rfl
  · rw [va_up_ne _ _ hb]
    exact (ent_ne (M := M) (M' := sI M a k v) rfl rfl (up_row _ _ _ _ hb) rfl rfl).symm
theorem ent_sJ {cy : Nat → ClassId} {M : Mm} {a c k : Nat} (v : Int64) (h : mK M a = c) (hc : c < 8) (hk : k < nfC c) (ht : srt (tyC c k) = 1) (b : Nat) : va_up (ent cy M) a (.inr (c, (fl M a c).set k (.long v))) b = ent cy (sJ M a k v) b := by
  by_cases hb : b = a
  · subst hb
    rw [va_up_self, ent_o (M := sJ M b k v) h hc]
    refine congrArg (fun l => (Sum.inr (c, l) : va_E)) (fl_set hk ?_ ?_).symm
    · unfold fv; rw [ht]; show Value.long (mJ (sJ M b k v) b k) = _; rw [mJ_sJ, if_pos ⟨rfl, rfl⟩]
    · intro j hj
      unfold fv
      rw [show mJ (sJ M b k v) b j = mJ M b j by rw [mJ_sJ, if_neg (fun q => hj q.2)]]
      rfl
  · rw [va_up_ne _ _ hb]
    exact (ent_ne (M := M) (M' := sJ M a k v) rfl rfl rfl (up_row _ _ _ _ hb) rfl).symm
theorem ent_sP {cy : Nat → ClassId} {M : Mm} {a c k : Nat} (v : Option Nat) (h : mK M a = c) (hc : c < 8) (hk : k < nfC c) (ht : srt (tyC c k) = 2) (b : Nat) : va_up (ent cy M) a (.inr (c, (fl M a c).set k (va_rf v))) b = ent cy (sP M a k v) b := by
  by_cases hb : b = a
  · subst hb
    rw [va_up_self, ent_o (M := sP M b k v) h hc]
    refine congrArg (fun l => (Sum.inr (c, l) : va_E)) (fl_set hk ?_ ?_).symm
    · unfold fv; rw [ht]; show va_rf (mP (sP M b k v) b k) = _; rw [mP_sP, if_pos ⟨rfl, rfl⟩]
    · intro j hj
      unfold fv
      rw [show mP (sP M b k v) b j = mP M b j by rw [mP_sP, if_neg (fun q => hj q.2)]]
      rfl
  · rw [va_up_ne _ _ hb]
    exact (ent_ne (M := M) (M' := sP M a k v) rfl rfl rfl rfl (up_row _ _ _ _ hb)).symm
/-- .. and into an array -/
theorem ent_aI {cy : Nat → ClassId} {M : Mm} {a c k : Nat} (v : Int32) (h : mK M a = c) (h8 : ¬ c < 8) (h10 : c ≠ 10) (h12 : ¬ 12 ≤ c) (b : Nat) : va_up (ent cy M) a (.inl (cy c, mN M a, .inl (upd (mI M a) k v))) b = ent cy (sI M a k v) b := by
  by_cases hb : b = a
  · subst hb
    rw [va_up_self, ent_i (M := sI M b k v) h h8 h10 h12]
    refine congrArg (fun f => (Sum.inl (cy c, mN M b, Sum.inl f) : va_E)) (funext fun j => ?_)
    rw [mI_sI]
    unfold upd
    by_cases hj : j = k <;> simp [hj]
  · rw [va_up_ne _ _ hb]
    exact (ent_ne (M := M) (M' := sI M a k v) rfl rfl (up_row _ _ _ _ hb) rfl rfl).symm
theorem ent_aJ {cy : Nat → ClassId} {M : Mm} {a k : Nat} (v : Int64) (h : mK M a = 10) (b : Nat) : va_up (ent cy M) a (.inl (cy 10, mN M a, .inr (.inl (vp_updL (mJ M a) k v)))) b = ent cy (sJ M a k v) b := by
  by_cases hb : b = a
  · subst hb
    rw [va_up_self, ent_j (M := sJ M b k v) h]
    refine congrArg (fun f => (Sum.inl (cy 10, mN M b, Sum.inr (Sum.inl f)) : va_E)) (funext fun j => ?_)
    rw [mJ_sJ]
    unfold vp_updL
    by_cases hj : j = k <;> simp [hj]
  · rw [va_up_ne _ _ hb]
    exact (ent_ne (M := M) (M' := sJ M a k v) rfl rfl rfl (up_row _ _ _ _ hb) rfl).symm
theorem ent_aP {cy : Nat → ClassId} {M : Mm} {a c k : Nat} (v : Option Nat) (h : mK M a = c) (h12 : 12 ≤ c) (b : Nat) : va_up (ent cy M) a (.inl (cy c, mN M a, .inr (.inr (.inr (.inr (va_up (mP M a) k v)))))) b = ent cy (sP M a k v) b := by
  by_cases hb : b = a
  · subst hb
    rw [va_up_self, ent_p (M := sP M b k v) h h12]
    refine congrArg (fun f => (Sum.inl (cy c, mN M b, Sum.inr (Sum.inr (Sum.inr (Sum.inr f)))) : va_E)) (funext fun j => ?_)
    rw [mP_sP]
    unfold va_up
    by_cases hj : j = k <;> simp [hj]
  · rw [va_up_ne _ _ hb]
    exact (ent_ne (M := M) (M' := sP M a k v) rfl rfl rfl rfl (up_row _ _ _ _ hb)).symm
/-- a new thing -/
theorem ent_nO {cy : Nat → ClassId} {M : Mm} {q c n : Nat} {e : va_E} (he : ent cy (nO M q c n) q = e) (b : Nat) : va_up (ent cy M) q e b = ent cy (nO M q c n) b := by
  by_cases hb : b = q
  · subst hb
    rw [va_up_self, he]
  · rw [va_up_ne _ _ hb]
    exact (ent_ne (M := M) (M' := nO M q c n) (up_row _ _ _ _ hb) (up_row _ _ _ _ hb) (up_row _ _ _ _ hb) (up_row _ _ _ _ hb) (up_row _ _ _ _ hb)).symm
/-! the walk's fixed things: launch, the heap at the law's start, the classes' numbers and slots, the arrays' classes -/
abbrev Gx : Type := Launch × Heap × va_G × (Nat → ClassId) × (Nat → Nat) × (Nat → Int32)
def gl (G : Gx) : Launch := G.1
def gH (G : Gx) : Heap := G.2.1
def gD (G : Gx) : va_G := G.2.2.1
def gY (G : Gx) : Nat → ClassId := G.2.2.2.1
/-- where statics and texts lie -/
def gS (G : Gx) : Nat → Nat := G.2.2.2.2.1
/-- the script -/
def gX (G : Gx) : Nat → Int32 := G.2.2.2.2.2
def gA (G : Gx) : Nat → Prop := fun q => (gH G).size ≤ q
def gT (G : Gx) : List (ClassId × FieldType) := [(gY G 8, .byte), (gY G 9, .int), (gY G 10, .long), (gY G 11, .boolean), (gY G 12, .object "CalendarOrders$Order"), (gY G 13, .object "CalendarOrders$Zone")]
def xw (G : Gx) (M : Mm) : va_W := va_pl (mL M) (ent (gY G) M)
def xh (G : Gx) (M : Mm) (H : Heap) : Prop := va_P (gD G) vwCl (xw G M) H ∧ va_D (gA G) (xw G M)
/-- the old cells are as they were at the law's start -/
def xo (G : Gx) (H : Heap) : Prop := (gH G).size ≤ H.size ∧ ∀ q : Nat, q < (gH G).size → H[q]? = (gH G)[q]?
theorem xo.go {G : Gx} {H0 H : Heap} {locs : List Loc} (h : xo G H0) (hS : va_S (gA G) H0 H locs) : xo G H := ⟨Nat.le_trans h.1 hS.1, fun q hq => by rw [hS.2.1 q (Nat.lt_of_lt_of_le hq h.1) (Nat.not_le.mpr hq)]; exact h.2 q hq⟩
theorem xw_get {G : Gx} {M : Mm} {a : Nat} (h : a ∈ mL M) : ∃ k : Nat, (xw G M)[k]? = some (a, ent (gY G) M a) := va_pl_get (X := []) h
theorem xw_set {G : Gx} {M M' : Mm} {a k : Nat} {e : va_E} (hD : va_D (gA G) (xw G M)) (h : a ∈ mL M) (hk : (xw G M)[k]? = some (a, ent (gY G) M a)) (hL : mL M' = mL M) (he : ∀ b, va_up (ent (gY G) M) a e b = ent (gY G) M' b) : (xw G M).set k (a, e) = xw G M' := by
  have h1 := va_pl_set (X := []) (e := e) hD h hk
  have h2 : (xw G M).set k (a, e) = va_pl (mL M) (va_up (ent (gY G) M) a e) := h1
  rw [h2]
  unfold xw
  rw [hL]
  exact va_pl_congr he
theorem xw_push {G : Gx} {M M' : Mm} {q : Nat} {e : va_E} (h : q ∉ mL M) (hL : mL M' = mL M ++ [q]) (he : ∀ b, va_up (ent (gY G) M) q e b = ent (gY G) M' b) : xw G M ++ [(q, e)] = xw G M' := by
  unfold xw
  rw [va_pl_push h, hL]
  exact va_pl_congr he
