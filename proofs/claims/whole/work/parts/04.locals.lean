/-! locals as a list by their places; simple instructions run by a function -/
def xa (L : List (Option Value)) : List (Nat × Value) := L.zipIdx.filterMap (fun q => q.1.map (fun v => (q.2, v)))
theorem xa_mem {L : List (Option Value)} {i : Nat} {v : Value} : (i, v) ∈ xa L ↔ L[i]? = some (some v) := by
  unfold xa
  rw [List.mem_filterMap]
  constructor
  · rintro ⟨⟨o, j⟩, hq, he⟩
    cases o with
    | none => simp at he
    | some w =>
      simp only [Option.map_some, Option.some.injEq, Prod.mk.injEq] at he
      obtain ⟨rfl, rfl⟩ := he
      exact (List.mem_zipIdx_iff_getElem?).mp hq
  · intro h
    exact ⟨(some v, i), (List.mem_zipIdx_iff_getElem?).mpr h, rfl⟩
/-- the locals: as many as told, each told value held -/
def xl (ls : Array Slot) (n : Nat) (L : List (Option Value)) : Prop := lv_has ls n (xa L)
theorem xl.at {ls : Array Slot} {n : Nat} {L : List (Option Value)} (h : xl ls n L) {i : Nat} {v : Value} (hi : L[i]? = some (some v)) : ls[i]? = some (.val v) := h.2.2 (i, v) (xa_mem.mpr hi)
def xclr (L : List (Option Value)) (k : Nat) : List (Option Value) := match k with
  | 0 => L
  | j + 1 => match L[j]? with
    | some (some v) => bif Nat.beq v.category 2 then L.set j none else L
    | _ => L
def xst (L : List (Option Value)) (k : Nat) (v : Value) : List (Option Value) := bif Nat.beq v.category 2 then ((xclr L k).set k (some v)).set (k + 1) none else (xclr L k).set k (some v)
theorem xclr_at {L : List (Option Value)} {k j : Nat} {w : Value} (h : (xclr L k)[j]? = some (some w)) : L[j]? = some (some w) ∧ (j + 1 = k → w.category ≠ 2) := by
  unfold xclr at h
  split at h
  · exact ⟨h, fun e => by omega⟩
  · rename_i i
    split at h
    · rename_i v hv
      by_cases hc : Nat.beq v.category 2 = true
      · rw [hc] at h
        simp only [cond_true] at h
        by_cases hj : i = j
        · subst hj
          have hl := (List.getElem?_eq_some_iff.mp hv).1
          rw [List.getElem?_set_self hl] at h
          cases h
        · rw [List.getElem?_set_ne hj] at h
          exact ⟨h, fun e => by omega⟩
      · rw [Bool.not_eq_true] at hc
        rw [hc] at h
        simp only [cond_false] at h
        refine ⟨h, fun e e2 => ?_⟩
        have : i = j := by omega
        subst this
        rw [h] at hv
        cases hv
        rw [e2] at hc
        exact absurd hc (by decide)
    · rename_i hno
      refine ⟨h, fun e e2 => ?_⟩
      have : i = j := by omega
      subst this
      exact hno w h
theorem xl.st1 {ls' : Array Slot} {n i : Nat} {L : List (Option Value)} {v : Value} (hc : v.category = 1) (h : lv_has ls' n ((i, v) :: (xa L).filter (fun q => !(q.1 == i) && !(q.1 + 1 == i && q.2.category == 2)))) : xl ls' n (xst L i v) := by
  refine ⟨h.1, h.2.1, fun q hq => ?_⟩
  obtain ⟨j, w⟩ := q
  have h1 := xa_mem.mp hq
  have hb : Nat.beq v.category 2 = false := by rw [hc]; rfl
  unfold xst at h1
  rw [hb, cond_false] at h1
  by_cases hj : i = j
  · subst hj
    rw [List.getElem?_set] at h1
    simp only [if_true] at h1
    split at h1
    · cases h1
      exact h.2.2 _ List.mem_cons_self
    · cases h1
  · rw [List.getElem?_set_ne hj] at h1
    obtain ⟨h2, h3⟩ := xclr_at h1
    refine h.2.2 _ (List.mem_cons_of_mem _ (List.mem_filter.mpr ⟨xa_mem.mpr h2, ?_⟩))
    have e1 : (j == i) = false := by simp; omega
    simp only [e1, Bool.not_false, Bool.true_and, Bool.not_eq_true', Bool.and_eq_false_iff, beq_eq_false_iff_ne, ne_eq]
    by_cases he : j + 1 = i
    · exact Or.inr (h3 he)
    · exact Or.inl he
theorem xl.st2 {ls' : Array Slot} {n i : Nat} {L : List (Option Value)} {v : Value} (hc : v.category = 2) (h : lv_has ls' n ((i, v) :: (xa L).filter (fun q => !(q.1 == i) && (!(q.1 == i + 1) && !(q.1 + 1 == i && q.2.category == 2))))) : xl ls' n (xst L i v) := by
  refine ⟨h.1, h.2.1, fun q hq => ?_⟩
  obtain ⟨j, w⟩ := q
  have h1 := xa_mem.mp hq
  have hb : Nat.beq v.category 2 = true := by rw [hc]; rfl
  unfold xst at h1
  rw [hb, cond_true] at h1
  by_cases hj2 : i + 1 = j
  · subst hj2
    rw [List.getElem?_set] at h1
    simp only [if_true] at h1
    split at h1 <;> cases h1
  rw [List.getElem?_set_ne hj2] at h1
  by_cases hj : i = j
  · subst hj
    rw [List.getElem?_set] at h1
    simp only [if_true] at h1
    split at h1
    · cases h1
      exact h.2.2 _ List.mem_cons_self
    · cases h1
  · rw [List.getElem?_set_ne hj] at h1
    obtain ⟨h2, h3⟩ := xclr_at h1
    refine h.2.2 _ (List.mem_cons_of_mem _ (List.mem_filter.mpr ⟨xa_mem.mpr h2, ?_⟩))
    have e1 : (j == i) = false := by simp; omega
    have e2 : (j == i + 1) = false := by simp; omega
    simp only [e1, e2, Bool.not_false, Bool.true_and, Bool.not_eq_true', Bool.and_eq_false_iff, beq_eq_false_iff_ne, ne_eq]
    by_cases he : j + 1 = i
    · exact Or.inr (h3 he)
    · exact Or.inl he
/-- a method's locals at its entry -/
def xe (vs : List Value) : List (Option Value) := vs.flatMap fun v => bif Nat.beq v.category 2 then [some v, none] else [some v]
theorem xe_cons (v : Value) (vs : List Value) : xe (v :: vs) = (bif Nat.beq v.category 2 then [some v, none] else [some v]) ++ xe vs := rfl
theorem xe_at : ∀ (vs : List Value) (b i : Nat) (w : Value), (xe vs)[i]? = some (some w) → (b + i, w) ∈ lv_args b vs
  | [], b, i, w, h => by simp [xe] at h
  | v :: vs, b, i, w, h => by
    rw [xe_cons] at h
    have hv : v.category = 1 ∨ v.category = 2 := lv_cat v
    rcases hv with hv | hv
    · have hb : Nat.beq v.category 2 = false := by rw [hv]; rfl
      rw [hb, cond_false] at h
      cases i with
      | zero =>
        simp at h
        subst h
        simp [lv_args]
      | succ i =>
        have h2 : (xe vs)[i]? = some (some w) := by simpa using h
        have := xe_at vs (b + 1) i w h2
        simp only [lv_args, hv]
        refine List.mem_cons_of_mem _ ?_
        have e : b + 1 + i = b + (i + 1) := by omega
        rw [← e]
        simpa using this
    · have hb : Nat.beq v.category 2 = true := by rw [hv]; rfl
      rw [hb, cond_true] at h
      cases i with
      | zero =>
        simp at h
        subst h
        simp [lv_args]
      | succ i =>
        cases i with
        | zero => simp at h
        | succ i =>
          have h2 : (xe vs)[i]? = some (some w) := by simpa using h
          have := xe_at vs (b + 2) i w h2
          simp only [lv_args, hv]
          refine List.mem_cons_of_mem _ ?_
          have e : b + 2 + i = b + (i + 1 + 1) := by omega
          rw [← e]
          simpa using this
theorem xl_entry (vs : List Value) {n k : Nat} (h : (lg_sl vs).length ≤ n) : xl ((lg_sl vs ++ List.replicate (n - (lg_sl vs).length) Slot.unset).toArray) n (xe vs ++ List.replicate k none) := by
  have h1 := lv_entry vs h
  refine ⟨h1.1, h1.2.1, fun q hq => ?_⟩
  obtain ⟨i, w⟩ := q
  have h2 := xa_mem.mp hq
  by_cases hi : i < (xe vs).length
  · rw [List.getElem?_append_left hi] at h2
    have := xe_at vs 0 i w h2
    rw [Nat.zero_add] at this
    exact h1.2.2 _ this
  · rw [List.getElem?_append_right (by omega), List.getElem?_replicate] at h2
    split at h2 <;> cases h2
/-! the instructions that touch neither heap nor calls -/
def opC : Instr → Option Value
  | .iconst n => some (.int (Int32.ofInt n))
  | .bipush n => some (.int (Int8.ofInt n).toInt32)
  | .sipush n => some (.int (Int16.ofInt n).toInt32)
  | .lconst n => some (.long (Int64.ofNat (n : Nat)))
  | .aconst_null => some .null
  | _ => none
def opL : Instr → Option (Nat × Nat)
  | .iload_n k => some (0, k)
  | .iload i => some (0, i)
  | .lload_n k => some (1, k)
  | .lload i => some (1, i)
  | .aload_n k => some (2, k)
  | .aload i => some (2, i)
  | _ => none
def opS : Instr → Option (Nat × Nat)
  | .istore_n k => some (0, k)
  | .istore i => some (0, i)
  | .lstore_n k => some (1, k)
  | .lstore i => some (1, i)
  | .astore_n k => some (2, k)
  | .astore i => some (2, i)
  | _ => none
def okV (k : Nat) : Value → Bool
  | .int _ => Nat.beq k 0
  | .long _ => Nat.beq k 1
  | .ref _ => Nat.beq k 2
  | .null => Nat.beq k 2
  | _ => false
def opI : Instr → Option (Int32 → Int32 → Int32)
  | .iadd => some (fun x y => x + y)
  | .isub => some (fun x y => x - y)
  | .imul => some (fun x y => x * y)
  | .iand => some (fun x y => x &&& y)
  | .ior => some (fun x y => x ||| y)
  | .ixor => some (fun x y => x ^^^ y)
  | .ishl => some (fun x y => x <<< (y &&& 31))
  | .ishr => some (fun x y => x >>> (y &&& 31))
  | _ => none
def opJ : Instr → Option (Int64 → Int64 → Int64)
  | .ladd => some (fun x y => x + y)
  | .lsub => some (fun x y => x - y)
  | .lmul => some (fun x y => x * y)
  | .land => some (fun x y => x &&& y)
  | .lor => some (fun x y => x ||| y)
  | .lxor => some (fun x y => x ^^^ y)
  | _ => none
def opH : Instr → Option (Int64 → Int32 → Int64)
  | .lshl => some (fun x y => x <<< (y.toInt64 &&& 63))
  | .lshr => some (fun x y => x >>> (y.toInt64 &&& 63))
  | .lushr => some (fun x y => (x.toUInt64 >>> (y.toInt64.toUInt64 &&& Int64.toUInt64 63)).toInt64)
  | _ => none
def opU : Instr → List Value → Option (List Value)
  | .i2l, .int x :: r => some (.long x.toInt64 :: r)
  | .l2i, .long x :: r => some (.int x.toInt32 :: r)
  | .i2b, .int x :: r => some (.int x.toInt8.toInt32 :: r)
  | .i2c, .int x :: r => some (.int (x.toUInt32 % 65536).toInt32 :: r)
  | .lneg, .long x :: r => some (.long (-x) :: r)
  | .lcmp, .long y :: .long x :: r => some (.int (lg_cmp x y) :: r)
  | .dup, v :: r => bif Nat.beq v.category 1 then some (v :: v :: r) else none
  | .pop, v :: r => bif Nat.beq v.category 1 then some r else none
  | .dup2, v :: r => bif Nat.beq v.category 2 then some (v :: v :: r) else (match r with
    | w :: r2 => bif Nat.beq w.category 1 then some (v :: w :: v :: w :: r2) else none
    | [] => none)
  | _, _ => none
def smp (i : Instr) (L : List (Option Value)) (st : List Value) : Option (List (Option Value) × List Value) :=
  match opC i with
  | some v => some (L, v :: st)
  | none => match opL i with
    | some (k, j) => (match L[j]? with
      | some (some v) => bif okV k v then some (L, v :: st) else none
      | _ => none)
    | none => match opS i with
      | some (k, j) => (match st with
        | v :: r => bif okV k v && Nat.ble (j + v.category) L.length then some (xst L j v, r) else none
        | [] => none)
      | none => match opI i, st with
        | some f, .int y :: .int x :: r => some (L, .int (f x y) :: r)
        | some _, _ => none
        | none, st => match opJ i, st with
          | some f, .long y :: .long x :: r => some (L, .long (f x y) :: r)
          | some _, _ => none
          | none, st => match opH i, st with
            | some f, .int y :: .long x :: r => some (L, .long (f x y) :: r)
            | some _, _ => none
            | none, st => (match i with
              | .iinc j n => (match L[j]? with
                | some (some (.int x)) => some (xst L j (.int (x + Int32.ofInt n)), st)
                | _ => none)
              | _ => (opU i st).map (fun st' => (L, st')))
