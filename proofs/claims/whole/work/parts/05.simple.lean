/-! the simple instructions over the machine -/
def opN : Instr → Nat
  | .bipush _ => 2
  | .sipush _ => 3
  | .iload _ => 2
  | .lload _ => 2
  | .aload _ => 2
  | .istore _ => 2
  | .lstore _ => 2
  | .astore _ => 2
  | .iinc _ _ => 3
  | _ => 1
def xL (ls : Array Slot) (n : Nat) (L : List (Option Value)) : Prop := xl ls n L ∧ L.length ≤ n
theorem xclr_len (L : List (Option Value)) (k : Nat) : (xclr L k).length = L.length := by
  unfold xclr
  split
  · rfl
  · split
    · rename_i v hv
      cases Nat.beq v.category 2 <;> simp
    · rfl
theorem xst_len (L : List (Option Value)) (k : Nat) (v : Value) : (xst L k v).length = L.length := by
  unfold xst
  cases Nat.beq v.category 2 <;> simp [xclr_len]
section SMP
variable {p : Program} {l : Launch} {e : Env} {R : Room} {s : State} {m : MethodId} {args : Array Value} {below : List Frame} {meth : Method} {c : Code} {H : Heap} {locs : List Loc} {cells slots : Nat} {Q : State → Prop}
variable {cc : ByteArray} {pc nL : Nat} {ls : Array Slot} {i : Instr} {L L' : List (Option Value)} {st st' : List Value}
theorem w_opC (hexec : p.tables.exec = Jvm.exec) (hb : c.code = cc) {v : Value} (h : opC i = some v) (hdg : decode cc pc = .ok (i, opN i))
    (k : W p l e R s m args below meth c H locs cells slots Q (F0 m (pc + opN i) ls (v :: st))) : W p l e R s m args below meth c H locs cells slots Q (F0 m pc ls st) := by
  unfold opC at h
  split at h
  · cases h; exact lv_iconst hexec hb hdg rfl k
  · cases h; exact lv_bipush hexec hb hdg rfl k
  · cases h; exact lv_sipush hexec hb hdg rfl k
  · cases h; exact lv_lconst hexec hb hdg rfl k
  · cases h; exact lv_null hexec hb hdg k
  · cases h
theorem w_opL (hexec : p.tables.exec = Jvm.exec) (hb : c.code = cc) {z j : Nat} {v : Value} (h : opL i = some (z, j)) (hv : okV z v = true) (hl : ls[j]? = some (.val v)) (hdg : decode cc pc = .ok (i, opN i))
    (k : W p l e R s m args below meth c H locs cells slots Q (F0 m (pc + opN i) ls (v :: st))) : W p l e R s m args below meth c H locs cells slots Q (F0 m pc ls st) := by
  unfold opL at h
  split at h <;> first | (cases h; done) | (cases h; cases v <;> first | (cases hv; done) | (exact lv_iload_n hexec hb hdg rfl hl k) | (exact lv_iload hexec hb hdg hl k) | (exact lv_lload_n hexec hb hdg rfl hl k) | (exact lv_lload hexec hb hdg hl k) | (exact lv_aload_n hexec hb hdg rfl hl k) | (exact lv_aload hexec hb hdg hl k) | (exact lv_aload_nN hexec hb hdg rfl hl k) | (exact lv_aloadN hexec hb hdg hl k))
theorem w_opS (hexec : p.tables.exec = Jvm.exec) (hb : c.code = cc) {z j : Nat} {v : Value} (h : opS i = some (z, j)) (hv : okV z v = true) (hl : xl ls nL L) (hj : j + v.category ≤ nL) (hdg : decode cc pc = .ok (i, opN i))
    (k : ∀ ls' : Array Slot, xl ls' nL (xst L j v) → W p l e R s m args below meth c H locs cells slots Q (F0 m (pc + opN i) ls' st)) : W p l e R s m args below meth c H locs cells slots Q (F0 m pc ls (v :: st)) := by
  unfold opS at h
  split at h <;> first | (cases h; done) | (cases h; cases v <;> first | (cases hv; done) | (exact lv_istore_n hexec hb hdg rfl hl hj rfl (fun ls' h' => k ls' (xl.st1 rfl h'))) | (exact lv_istore hexec hb hdg hl hj rfl (fun ls' h' => k ls' (xl.st1 rfl h'))) | (exact lv_lstore_n hexec hb hdg rfl hl hj rfl (fun ls' h' => k ls' (xl.st2 rfl h'))) | (exact lv_lstore hexec hb hdg hl hj rfl (fun ls' h' => k ls' (xl.st2 rfl h'))) | (exact lv_astore_n hexec hb hdg rfl hl hj rfl (fun ls' h' => k ls' (xl.st1 rfl h'))) | (exact lv_astore hexec hb hdg hl hj rfl (fun ls' h' => k ls' (xl.st1 rfl h'))) | (exact lv_astore_nN hexec hb hdg rfl hl hj rfl (fun ls' h' => k ls' (xl.st1 rfl h'))) | (exact lv_astoreN hexec hb hdg hl hj rfl (fun ls' h' => k ls' (xl.st1 rfl h'))))
theorem w_opI (hexec : p.tables.exec = Jvm.exec) (hb : c.code = cc) {f : Int32 → Int32 → Int32} {x y : Int32} (h : opI i = some f) (hdg : decode cc pc = .ok (i, opN i))
    (k : W p l e R s m args below meth c H locs cells slots Q (F0 m (pc + opN i) ls (.int (f x y) :: st))) : W p l e R s m args below meth c H locs cells slots Q (F0 m pc ls (.int y :: .int x :: st)) := by
  unfold opI at h
  split at h <;> first | (cases h; done) | (cases h; first | exact lv_iadd hexec hb hdg k | exact lv_isub hexec hb hdg k | exact lv_imul hexec hb hdg k | exact lv_iand hexec hb hdg k | exact lv_ior hexec hb hdg k | exact lv_ixor hexec hb hdg k | exact lv_ishl hexec hb hdg k | exact lv_ishr hexec hb hdg k)
theorem w_opJ (hexec : p.tables.exec = Jvm.exec) (hb : c.code = cc) {f : Int64 → Int64 → Int64} {x y : Int64} (h : opJ i = some f) (hdg : decode cc pc = .ok (i, opN i))
    (k : W p l e R s m args below meth c H locs cells slots Q (F0 m (pc + opN i) ls (.long (f x y) :: st))) : W p l e R s m args below meth c H locs cells slots Q (F0 m pc ls (.long y :: .long x :: st)) := by
  unfold opJ at h
  split at h <;> first | (cases h; done) | (cases h; first | exact lv_ladd hexec hb hdg k | exact lv_lsub hexec hb hdg k | exact lv_lmul hexec hb hdg k | exact lv_land hexec hb hdg k | exact lv_lor hexec hb hdg k | exact lv_lxor hexec hb hdg k)
theorem w_opH (hexec : p.tables.exec = Jvm.exec) (hb : c.code = cc) {f : Int64 → Int32 → Int64} {x : Int64} {y : Int32} (h : opH i = some f) (hdg : decode cc pc = .ok (i, opN i))
    (k : W p l e R s m args below meth c H locs cells slots Q (F0 m (pc + opN i) ls (.long (f x y) :: st))) : W p l e R s m args below meth c H locs cells slots Q (F0 m pc ls (.int y :: .long x :: st)) := by
  unfold opH at h
  split at h <;> first | (cases h; done) | (cases h; first | exact lv_lshl hexec hb hdg rfl k | exact lv_lshr hexec hb hdg rfl k | exact lv_lushr hexec hb hdg rfl k)
theorem nbeq {a b : Nat} (h : Nat.beq a b = true) : a = b := Nat.eq_of_beq_eq_true h
theorem w_opU (hexec : p.tables.exec = Jvm.exec) (hb : c.code = cc) (h : opU i st = some st') (hdg : decode cc pc = .ok (i, opN i))
    (k : W p l e R s m args below meth c H locs cells slots Q (F0 m (pc + opN i) ls st')) : W p l e R s m args below meth c H locs cells slots Q (F0 m pc ls st) := by
  unfold opU at h
  split at h
  · cases h; exact lv_i2l hexec hb hdg rfl k
  · cases h; exact lv_l2i hexec hb hdg rfl k
  · cases h; exact lv_i2b hexec hb hdg rfl k
  · cases h; exact lv_i2c hexec hb hdg rfl k
  · cases h; exact lv_lneg hexec hb hdg k
  · cases h; exact W.lcmp hexec hb hdg k
  · rename_i v r
    cases hc : Nat.beq v.category 1 with
    | false => rw [hc] at h; cases h
    | true => rw [hc] at h; cases h; exact lv_dup hexec hb hdg (nbeq hc) k
  · rename_i v r
    cases hc : Nat.beq v.category 1 with
    | false => rw [hc] at h; cases h
    | true => rw [hc] at h; cases h; exact lv_pop hexec hb hdg (nbeq hc) k
  · rename_i v r
    cases hc : Nat.beq v.category 2 with
    | true => rw [hc] at h; cases h; exact lv_dup2_2 hexec hb hdg (nbeq hc) k
    | false =>
      rw [hc, cond_false] at h
      split at h
      · rename_i w r2
        cases hw : Nat.beq w.category 1 with
        | false => rw [hw] at h; cases h
        | true =>
          rw [hw] at h
          cases h
          have hv : v.category = 1 := by
            rcases lv_cat v with h1 | h1
            · exact h1
            · rw [h1] at hc; cases hc
          first | exact lv_dup2_11 hexec hb hdg hv (nbeq hw) k | exact lv_dup2_11 hexec hb hdg (nbeq hw) hv k
      · cases h
  · cases h
theorem w_smp (hexec : p.tables.exec = Jvm.exec) (hb : c.code = cc) (hl : xL ls nL L) (hs : smp i L st = some (L', st')) (hdg : decode cc pc = .ok (i, opN i))
    (k : ∀ ls' : Array Slot, xL ls' nL L' → W p l e R s m args below meth c H locs cells slots Q (F0 m (pc + opN i) ls' st')) : W p l e R s m args below meth c H locs cells slots Q (F0 m pc ls st) := by
  unfold smp at hs
  split at hs
  · rename_i v hv
    cases hs
    exact w_opC hexec hb hv hdg (k ls hl)
  split at hs
  · rename_i z j hz
    split at hs
    · rename_i v hv
      cases ho : okV z v with
      | false => rw [ho] at hs; cases hs
      | true => rw [ho] at hs; cases hs; exact w_opL hexec hb hz ho (hl.1.at hv) hdg (k ls hl)
    · cases hs
  split at hs
  · rename_i z j hz
    split at hs
    · rename_i v r
      cases ho : okV z v && Nat.ble (j + v.category) L.length with
      | false => rw [ho] at hs; cases hs
      | true =>
        rw [ho] at hs
        cases hs
        rw [Bool.and_eq_true] at ho
        have h1 : j + v.category ≤ L.length := Nat.le_of_ble_eq_true ho.2
        exact w_opS hexec hb hz ho.1 hl.1 (Nat.le_trans h1 hl.2) hdg (fun ls' h' => k ls' ⟨h', by rw [xst_len]; exact hl.2⟩)
    · cases hs
  split at hs
  · rename_i f y x r hf
    cases hs
    exact w_opI hexec hb hf hdg (k ls hl)
  · cases hs
  split at hs
  · rename_i f y x r hf
    cases hs
    exact w_opJ hexec hb hf hdg (k ls hl)
  · cases hs
  split at hs
  · rename_i f y x r hf
    cases hs
    exact w_opH hexec hb hf hdg (k ls hl)
  · cases hs
  split at hs
  · rename_i j n _ _ _ _ _ _
    split at hs
    · rename_i x hx
      cases hs
      have hj : j < L.length := (List.getElem?_eq_some_iff.mp hx).1
      obtain ⟨q, hq⟩ := List.getElem?_of_mem (xa_mem.mpr hx)
      exact lv_iinc hexec hb hdg hl.1 hq rfl (Nat.lt_of_lt_of_le hj hl.2) rfl (fun ls' h' => k ls' ⟨xl.st1 rfl h', by rw [xst_len]; exact hl.2⟩)
    · cases hs
  · cases ho : opU i _ with
    | none => rw [ho] at hs; cases hs
    | some w => rw [ho] at hs; cases hs; exact w_opU hexec hb ho hdg (k ls hl)
end SMP
