/-! more rows: fewer locals told, references that are there, a callee's end by the sort of its answer -/
def drp : List Bool → List (Option Value) → List (Option Value)
  | b :: bs, v :: vs => (bif b then v else none) :: drp bs vs
  | _, _ => []
theorem drp_at : ∀ (bs : List Bool) (L : List (Option Value)) (i : Nat) (v : Value), (drp bs L)[i]? = some (some v) → L[i]? = some (some v)
  | [], L, i, v, h => by simp [drp] at h
  | b :: bs, [], i, v, h => by simp [drp] at h
  | b :: bs, w :: L, 0, v, h => by
    cases b <;> simp [drp] at h ⊢
    exact h
  | b :: bs, w :: L, i + 1, v, h => by
    simp [drp] at h ⊢
    exact drp_at bs L i v h
theorem drp_len : ∀ (bs : List Bool) (L : List (Option Value)), (drp bs L).length ≤ L.length
  | [], L => by simp [drp]
  | b :: bs, [] => by simp [drp]
  | b :: bs, w :: L => by simp [drp]; exact drp_len bs L
theorem xL.drp {ls : Array Slot} {n : Nat} {L : List (Option Value)} (h : xL ls n L) (bs : List Bool) : xL ls n (drp bs L) :=
  ⟨⟨h.1.1, h.1.2.1, fun q hq => h.1.2.2 q (xa_mem.mpr (drp_at bs L q.1 q.2 (xa_mem.mp hq)))⟩, Nat.le_trans (drp_len bs L) h.2⟩
def kI (f : Int32 → Mm → Prop) (t : String → Mm → Prop) : Rs → Mm → Prop := fun r M => match r with
  | .inl (some (.int x)) => f x M
  | .inr X => t X M
  | _ => False
def kJ (f : Int64 → Mm → Prop) (t : String → Mm → Prop) : Rs → Mm → Prop := fun r M => match r with
  | .inl (some (.long x)) => f x M
  | .inr X => t X M
  | _ => False
def kV (f : Mm → Prop) (t : String → Mm → Prop) : Rs → Mm → Prop := fun r M => match r with
  | .inl none => f M
  | .inr X => t X M
  | _ => False
/-- an answer that is a thing, never null -/
def kR (f : Nat → Mm → Prop) (t : String → Mm → Prop) : Rs → Mm → Prop := fun r M => match r with
  | .inl (some (.ref x)) => f x M
  | .inr X => t X M
  | _ => False
/-- .. or null -/
def kO (f : Option Nat → Mm → Prop) (t : String → Mm → Prop) : Rs → Mm → Prop := fun r M => match r with
  | .inl (some (.ref x)) => f (some x) M
  | .inl (some .null) => f none M
  | .inr X => t X M
  | _ => False
theorem kI_l {f : Int32 → Mm → Prop} {t : String → Mm → Prop} {v : Option Value} {M : Mm} (h : kI f t (.inl v) M) : ∃ x, v = some (.int x) ∧ f x M := by
  unfold kI at h
  split at h
  · rename_i x e; cases e; exact ⟨x, rfl, h⟩
  · rename_i X e; cases e
  · exact absurd h (fun q => q)
theorem kJ_l {f : Int64 → Mm → Prop} {t : String → Mm → Prop} {v : Option Value} {M : Mm} (h : kJ f t (.inl v) M) : ∃ x, v = some (.long x) ∧ f x M := by
  unfold kJ at h
  split at h
  · rename_i x e; cases e; exact ⟨x, rfl, h⟩
  · rename_i X e; cases e
  · exact absurd h (fun q => q)
theorem kV_l {f : Mm → Prop} {t : String → Mm → Prop} {v : Option Value} {M : Mm} (h : kV f t (.inl v) M) : v = none ∧ f M := by
  unfold kV at h
  split at h
  · rename_i e; cases e; exact ⟨rfl, h⟩
  · rename_i X e; cases e
  · exact absurd h (fun q => q)
theorem kR_l {f : Nat → Mm → Prop} {t : String → Mm → Prop} {v : Option Value} {M : Mm} (h : kR f t (.inl v) M) : ∃ x, v = some (.ref x) ∧ f x M := by
  unfold kR at h
  split at h
  · rename_i x e; cases e; exact ⟨x, rfl, h⟩
  · rename_i X e; cases e
  · exact absurd h (fun q => q)
theorem kO_l {f : Option Nat → Mm → Prop} {t : String → Mm → Prop} {v : Option Value} {M : Mm} (h : kO f t (.inl v) M) : ∃ x, v = some (va_rf x) ∧ f x M := by
  unfold kO at h
  split at h
  · rename_i x e; cases e; exact ⟨some x, rfl, h⟩
  · rename_i e; cases e; exact ⟨none, rfl, h⟩
  · rename_i X e; cases e
  · exact absurd h (fun q => q)
section ER3
variable {G : Gx} {mi : MI} {Q : Rs → Mm → Prop} {M : Mm} {k n pc : Nat} {L : List (Option Value)} {st rest : List Value}
theorem e_drp (bs : List Bool) {L' : List (Option Value)} (hL : drp bs L = L') (kk : E G mi Q M k n pc L' st) : E G mi Q M k n pc L st := by
  intro p e s m args below meth c H locs ls hC hS hM hl
  exact kk p e s m args below meth c H locs ls hC hS hM (hL ▸ hl.drp bs)
theorem e_wid {k' n' : Nat} (hk : k ≤ k') (hn : n ≤ n') (kk : E G mi Q M k' n' pc L st) : E G mi Q M k n pc L st := by
  intro p e s m args below meth c H locs ls hC hS hM hl
  exact W.widen hk hn (kk p e s m args below meth c H locs ls hC hS hM hl)
theorem e_getR (c f : Nat) {a b idx : Nat} {q : vw_C} (hd : lkp (miI mi) 0 pc = some (.getfield idx, 3)) (hc : vwCl[c]? = some q) (hf : f < q.2.2) (hw : Cond.fieldLink (miY mi).cls idx (q.2.1 f).1 (q.2.1 f).2.1 (q.2.1 f).2.2.1 ∈ ALLW) (ha : ob M a c) (hs : srt (tyC c f) = 2) (hb : mP M a f = some b) (kk : E G mi Q M k n (pc + 3) L (.ref b :: rest)) : E G mi Q M k n pc L (.ref a :: rest) :=
  e_getP c f (b := some b) hd hc hf hw ha hs hb kk
theorem e_aaldOR {a b : Nat} {i : Int32} (hd : lkp (miI mi) 0 pc = some (.aaload, 1)) (ha : ob M a 12) (hi : vp_in i (mN M a)) (hb : mP M a i.toNatClampNeg = some b) (kk : E G mi Q M k n (pc + 1) L (.ref b :: rest)) : E G mi Q M k n pc L (.int i :: .ref a :: rest) :=
  e_aaldO hd ha hi (by rw [hb]; exact kk)
theorem e_aaldZR {a b : Nat} {i : Int32} (hd : lkp (miI mi) 0 pc = some (.aaload, 1)) (ha : ob M a 13) (hi : vp_in i (mN M a)) (hb : mP M a i.toNatClampNeg = some b) (kk : E G mi Q M k n (pc + 1) L (.ref b :: rest)) : E G mi Q M k n pc L (.int i :: .ref a :: rest) :=
  e_aaldZ hd ha hi (by rw [hb]; exact kk)
theorem e_putR (c f : Nat) {a idx v : Nat} {q : vw_C} {C : String} (hd : lkp (miI mi) 0 pc = some (.putfield idx, 3)) (hc : vwCl[c]? = some q) (hf : f < q.2.2) (hw : Cond.fieldLink (miY mi).cls idx (q.2.1 f).1 (q.2.1 f).2.1 (q.2.1 f).2.2.1 ∈ ALLW) (hfi : (q.2.1 f).2.2.2 = false) (ha : ob M a c) (hs : tyC c f = .object C) (kk : E G mi Q (sP M a f (some v)) k n (pc + 3) L rest) : E G mi Q M k n pc L (.ref v :: .ref a :: rest) :=
  e_putP c f (v := some v) hd hc hf hw hfi ha hs kk
end ER3
theorem ob_sI {M : Mm} {a c b k : Nat} {v : Int32} (h : ob M a c) : ob (sI M b k v) a c := h
theorem ob_sJ {M : Mm} {a c b k : Nat} {v : Int64} (h : ob M a c) : ob (sJ M b k v) a c := h
theorem ob_sP {M : Mm} {a c b k : Nat} {v : Option Nat} (h : ob M a c) : ob (sP M b k v) a c := h
