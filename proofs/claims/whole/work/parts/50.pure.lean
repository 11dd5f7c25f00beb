/-! the reader of texts, without a machine -/
/-- numbers, years from 1900, year told, stars of DAY and WEEKDAY, days before the last, last working day, near ones, last weekdays, k-th weekdays -/
abbrev Ct : Type := (Nat → Int64) × (Nat → Bool) × Bool × Bool × Bool × Int64 × Bool × Int64 × Int64 × (Nat → Nat → Bool)
def cNu (c : Ct) : Nat → Int64 := c.1
def cYr (c : Ct) : Nat → Bool := c.2.1
def cTo (c : Ct) : Bool := c.2.2.1
def cDs (c : Ct) : Bool := c.2.2.2.1
def cWs (c : Ct) : Bool := c.2.2.2.2.1
def cBl (c : Ct) : Int64 := c.2.2.2.2.2.1
def cLw (c : Ct) : Bool := c.2.2.2.2.2.2.1
def cNe (c : Ct) : Int64 := c.2.2.2.2.2.2.2.1
def cLd (c : Ct) : Int64 := c.2.2.2.2.2.2.2.2.1
def cKw (c : Ct) : Nat → Nat → Bool := c.2.2.2.2.2.2.2.2.2
def ct0 : Ct := (fun _ => 0, fun _ => false, false, false, false, 0, false, 0, 0, fun _ _ => false)
def bt (v : Int) : Int64 := (1 : Int64) <<< ((i32 v).toInt64 &&& 63)
def ctN (c : Ct) (f : Nat) (v : Int) : Ct := (va_up (cNu c) f (cNu c f ||| bt v), c.2)
def ctY (c : Ct) (v : Int) : Ct := (c.1, va_up (cYr c) (v - 1900).toNat true, c.2.2)
def ctM (c : Ct) (f : Nat) (v : Int) : Ct := if f = 5 then ctY c v else if f = 4 then ctN c 4 (v % 7) else ctN c f v
def ctR (f : Nat) (st : Int) : Nat → Int → Ct → Ct
  | 0, _, c => c
  | k + 1, v, c => ctR f st k (v + st) (ctM c f v)
/-- from a number to another by steps -/
def ctA (c : Ct) (f : Nat) (lo hi st : Int) : Ct := ctR f st ((hi - lo) / st + 1).toNat lo c
def ctS (c : Ct) (f : Nat) (b : Bool) : Ct := (c.1, c.2.1, (if f = 5 then true else cTo c), (if f = 2 then b else cDs c), (if f = 4 then b else cWs c), c.2.2.2.2.2)
def ctB (c : Ct) (x : Int64) : Ct := (c.1, c.2.1, c.2.2.1, c.2.2.2.1, c.2.2.2.2.1, cBl c ||| x, c.2.2.2.2.2.2)
def ctL (c : Ct) : Ct := (c.1, c.2.1, c.2.2.1, c.2.2.2.1, c.2.2.2.2.1, c.2.2.2.2.2.1, true, c.2.2.2.2.2.2.2)
def ctE (c : Ct) (x : Int64) : Ct := (c.1, c.2.1, c.2.2.1, c.2.2.2.1, c.2.2.2.2.1, c.2.2.2.2.2.1, c.2.2.2.2.2.2.1, cNe c ||| x, c.2.2.2.2.2.2.2.2)
def ctD (c : Ct) (x : Int64) : Ct := (c.1, c.2.1, c.2.2.1, c.2.2.2.1, c.2.2.2.2.1, c.2.2.2.2.2.1, c.2.2.2.2.2.2.1, c.2.2.2.2.2.2.2.1, cLd c ||| x, c.2.2.2.2.2.2.2.2.2)
def ctK (c : Ct) (k w : Nat) : Ct := (c.1, c.2.1, c.2.2.1, c.2.2.2.1, c.2.2.2.2.1, c.2.2.2.2.2.1, c.2.2.2.2.2.2.1, c.2.2.2.2.2.2.2.1, c.2.2.2.2.2.2.2.2.1, fun j n => cKw c j n || (decide (j = k) && decide (n = w)))
/-- a fault, its kind and place; or where the reading goes on, and what was read -/
abbrev PR (α : Type) : Type := (Nat × Nat) ⊕ (Nat × α)
def pBn {α β : Type} (x : PR α) (f : Nat → α → PR β) : PR β := match x with
  | .inl q => .inl q
  | .inr q => f q.1 q.2
def dgs (s : Nat → Int) : Nat → Nat → Int → Nat × Int
  | 0, at_, v => (at_, v)
  | k + 1, at_, v => if 48 ≤ s at_ ∧ s at_ ≤ 57 then dgs s k (at_ + 1) (10 * v + s at_ - 48) else (at_, v)
def pNum (s : Nat → Int) (figs : Nat) (lo hi : Int) (at_ : Nat) : PR Int :=
  if (dgs s figs at_ 0).1 = at_ ∨ (48 ≤ s (dgs s figs at_ 0).1 ∧ s (dgs s figs at_ 0).1 ≤ 57) then .inl (1, (dgs s figs at_ 0).1)
  else if (dgs s figs at_ 0).2 < lo ∨ hi < (dgs s figs at_ 0).2 then .inl (2, at_) else .inr (dgs s figs at_ 0)
/-- the names of the months, and of the weekdays -/
def nmT : List Int := [106, 97, 110, 102, 101, 98, 109, 97, 114, 97, 112, 114, 109, 97, 121, 106, 117, 110, 106, 117, 108, 97, 117, 103, 115, 101, 112, 111, 99, 116, 110, 111, 118, 100, 101, 99, 115, 117, 110, 109, 111, 110, 116, 117, 101, 119, 101, 100, 116, 104, 117, 102, 114, 105, 115, 97, 116]
def nm (k j : Nat) : Int := nmT.getD (3 * k + j) 0
def pfx (s : Nat → Int) (at_ k : Nat) : Nat → Bool
  | 0 => true
  | c + 1 => pfx s at_ k c && decide (s (at_ + c) = nm k c)
def fnd (p : Nat → Bool) : Nat → Nat → Option Nat
  | _, 0 => none
  | k, c + 1 => if p k then some k else fnd p (k + 1) c
def pName (s : Nat → Int) (a c at_ : Nat) : PR Nat :=
  if fnd (fun k => pfx s at_ k 1) a c = none then .inl (1, at_) else if fnd (fun k => pfx s at_ k 2) a c = none then .inl (1, at_ + 1) else match fnd (fun k => pfx s at_ k 3) a c with
    | none => .inl (1, at_ + 2)
    | some k => .inr (at_ + 3, k)
def tL (f : Nat) : Int := if f = 2 ∨ f = 3 then 1 else if f = 5 then 1900 else 0
def tG (f : Nat) : Int := if f = 0 then 59 else if f = 1 then 23 else if f = 2 then 31 else if f = 3 then 12 else if f = 4 then 7 else 2199
def pVal (s : Nat → Int) (f at_ : Nat) : PR Int :=
  if f = 3 ∧ ¬ (48 ≤ s at_ ∧ s at_ ≤ 57) then pBn (pName s 0 12 at_) (fun at1 k => .inr (at1, (k : Int) + 1))
  else if f = 4 ∧ ¬ (48 ≤ s at_ ∧ s at_ ≤ 57) then pBn (pName s 12 7 at_) (fun at1 k => .inr (at1, (k : Int) - 12))
  else pNum s 4 (tL f) (tG f) at_
def pStep (s : Nat → Int) (at_ : Nat) : PR Int := if s at_ = 47 then pNum s 4 1 1000 (at_ + 1) else .inr (at_, 1)
def pLast (s : Nat → Int) (at_ : Nat) (c : Ct) : PR Ct :=
  if s at_ = 87 then .inr (at_ + 1, ctL c) else if s at_ = 45 then pBn (pNum s 2 1 30 (at_ + 1)) (fun at1 k => .inr (at1, ctB c (bt k))) else .inr (at_, ctB c 1)
def pAft (s : Nat → Int) (f at_ : Nat) (v : Int) (c : Ct) : PR Ct :=
  if s at_ = 45 then pBn (pVal s f (at_ + 1)) (fun at1 w => if w < v then .inl (3, at_ + 1) else pBn (pStep s at1) (fun at2 st => .inr (at2, ctA c f v w st)))
  else if s at_ = 47 then pBn (pStep s at_) (fun at1 st => .inr (at1, ctA c f v (if f = 4 ∧ v < 7 then 6 else tG f) st))
  else if f = 2 ∧ s at_ = 87 then .inr (at_ + 1, ctE c (bt v))
  else if f = 4 ∧ s at_ = 76 then .inr (at_ + 1, ctD c (bt (v % 7)))
  else if f = 4 ∧ s at_ = 35 then pBn (pNum s 1 1 5 (at_ + 1)) (fun at1 k => .inr (at1, ctK c k.toNat (v % 7).toNat))
  else .inr (at_, ctM c f v)
def pItem (s : Nat → Int) (f at_ : Nat) (c : Ct) : PR Ct :=
  if s at_ = 42 then pBn (pStep s (at_ + 1)) (fun at1 st => .inr (at1, ctA c f (tL f) (tG f) st))
  else if f = 2 ∧ s at_ = 76 then pLast s (at_ + 1) c
  else pBn (pVal s f at_) (fun at1 v => pAft s f at1 v c)
def pMore (s : Nat → Int) (f : Nat) : Nat → Nat → Ct → PR Ct
  | 0, at_, c => .inr (at_, c)
  | k + 1, at_, c => if s at_ = 44 then pBn (pItem s f (at_ + 1) c) (fun at1 c1 => pMore s f k at1 c1) else .inr (at_, c)
def pField (s : Nat → Int) (f at_ : Nat) (c : Ct) : PR Ct := pBn (pItem s f at_ (ctS c f (decide (s at_ = 42)))) (fun at1 c1 => pMore s f (161 - at1) at1 c1)
def skp (s : Nat → Int) : Nat → Nat → Nat
  | 0, at_ => at_
  | k + 1, at_ => if s at_ = 32 then skp s k (at_ + 1) else at_
def pFlds (s : Nat → Int) : Nat → Nat → Nat → Ct → PR Ct
  | 0, _, at_, c => if s at_ = 32 then (if s (skp s (161 - at_) at_) = -1 then .inr (skp s (161 - at_) at_, c) else pField s 5 (skp s (161 - at_) at_) c) else .inr (at_, c)
  | k + 1, f, at_, c => if s at_ = 32 then pBn (pField s f (skp s (161 - at_) at_) c) (fun at1 c1 => pFlds s k (f + 1) at1 c1) else .inl (1, at_)
/-- the five words -/
def wdT (l : Int) : List Int := if l = 104 then [104, 111, 117, 114, 108, 121] else if l = 100 then [100, 97, 105, 108, 121] else if l = 119 then [119, 101, 101, 107, 108, 121] else if l = 109 then [109, 111, 110, 116, 104, 108, 121] else [121, 101, 97, 114, 108, 121]
def pChr (s : Nat → Int) : List Int → Nat → PR Unit
  | [], at_ => .inr (at_, ())
  | x :: r, at_ => if s at_ = x then pChr s r (at_ + 1) else .inl (1, at_)
def ctW (l : Int) (c : Ct) : Ct := ctA (ctS (ctA (ctA (ctS (ctA (ctA c 0 0 0 1) 1 0 (if l = 104 then 23 else 0) 1) 2 (decide (¬ (l = 109 ∨ l = 121)))) 2 1 (if l = 109 ∨ l = 121 then 1 else 31) 1) 3 1 (if l = 121 then 1 else 12) 1) 4 (decide (¬ l = 119))) 4 0 (if l = 119 then 0 else 6) 1
def pWord (s : Nat → Int) (at_ : Nat) (c : Ct) : PR Ct := pBn (pChr s (wdT (s at_)) at_) (fun at1 _ => .inr (at1, ctW (s at_) c))
def pFin (s : Nat → Int) (n : Nat) (at_ : Nat) (c : Ct) : PR Ct := if skp s (161 - at_) at_ < n then .inl (1, skp s (161 - at_) at_) else .inr (skp s (161 - at_) at_, c)
def pText (s : Nat → Int) (n : Nat) : PR Ct :=
  if s (skp s 161 0) = 64 then pBn (pWord s (skp s 161 0 + 1) ct0) (pFin s n) else pBn (pField s 0 (skp s 161 0) ct0) (fun at1 c1 => pBn (pFlds s 4 1 at1 c1) (pFin s n))
/-- a text on the tape -/
def isS (s : Nat → Int) (n : Nat) : Prop := n ≤ 160 ∧ (∀ i, n ≤ i → s i = -1) ∧ (∀ i, i < n → 0 ≤ s i ∧ s i ≤ 255)
theorem isS.lt {s : Nat → Int} {n i : Nat} (h : isS s n) (hi : ¬ s i = -1) : i < n := by
  by_cases c : i < n
  · exact c
  · exact absurd (h.2.1 i (by omega)) hi
theorem isS.b {s : Nat → Int} {n : Nat} (h : isS s n) (i : Nat) : -1 ≤ s i ∧ s i ≤ 255 := by
  by_cases c : i < n
  · have := h.2.2 i c; omega
  · rw [h.2.1 i (by omega)]; omega
theorem dgs_at {s : Nat → Int} {n : Nat} (h : isS s n) : ∀ (k at_ : Nat) (v : Int), at_ ≤ n → at_ ≤ (dgs s k at_ v).1 ∧ (dgs s k at_ v).1 ≤ n
  | 0, at_, v, ha => ⟨Nat.le_refl _, ha⟩
  | k + 1, at_, v, ha => by
    unfold dgs
    split
    · rename_i c
      have := dgs_at h k (at_ + 1) (10 * v + s at_ - 48) (by have := h.lt (i := at_) (by omega); omega)
      omega
    · exact ⟨Nat.le_refl _, ha⟩
def bdk : Nat → Int → Int
  | 0, B => B
  | k + 1, B => bdk k (10 * B + 9)
theorem bdk_le : ∀ (k : Nat) (B : Int), 0 ≤ B → B ≤ bdk k B
  | 0, B, _ => Int.le_refl _
  | k + 1, B, h => by
    have := bdk_le k (10 * B + 9) (by omega)
    simp only [bdk]; omega
theorem dgs_v {s : Nat → Int} : ∀ (k at_ : Nat) (v B : Int), 0 ≤ v → v ≤ B → 0 ≤ (dgs s k at_ v).2 ∧ (dgs s k at_ v).2 ≤ bdk k B
  | 0, at_, v, B, h1, h2 => ⟨h1, h2⟩
  | k + 1, at_, v, B, h1, h2 => by
    unfold dgs
    split
    · rename_i c
      exact dgs_v k (at_ + 1) (10 * v + s at_ - 48) (10 * B + 9) (by omega) (by omega)
    · have := bdk_le (k + 1) B (by omega)
      exact ⟨h1, by omega⟩
theorem pNum_at {s : Nat → Int} {n figs at_ a1 : Nat} {lo hi v : Int} (h : isS s n) (ha : at_ ≤ n) (e : pNum s figs lo hi at_ = .inr (a1, v)) : at_ < a1 ∧ a1 ≤ n ∧ lo ≤ v ∧ v ≤ hi := by
  unfold pNum at e
  have hd := dgs_at h figs at_ 0 ha
  split at e
  · exact absurd e (by simp)
  · rename_i c1
    split at e
    · exact absurd e (by simp)
    · rename_i c2
      have e' := Sum.inr.inj e
      rw [e'] at c1 c2 hd
      simp only at c1 c2 hd
      omega
theorem fnd_b {p : Nat → Bool} : ∀ (c k j : Nat), fnd p k c = some j → k ≤ j ∧ j < k + c ∧ p j = true
  | 0, k, j, e => by simp [fnd] at e
  | c + 1, k, j, e => by
    unfold fnd at e
    split at e
    · rename_i q
      have := Option.some.inj e
      subst this
      exact ⟨Nat.le_refl _, by omega, q⟩
    · have := fnd_b c (k + 1) j e
      exact ⟨by omega, by omega, this.2.2⟩
theorem nm_b : ∀ k, k < 19 → ∀ j, j < 3 → 97 ≤ nm k j ∧ nm k j ≤ 122 := by decide +kernel
theorem pName_at {s : Nat → Int} {n a c at_ a1 k : Nat} (h : isS s n) (hac : a + c ≤ 19) (e : pName s a c at_ = .inr (a1, k)) : a1 = at_ + 3 ∧ a1 ≤ n ∧ a ≤ k ∧ k < a + c := by
  unfold pName at e
  split at e
  · exact absurd e (by simp)
  · split at e
    · exact absurd e (by simp)
    · split at e
      · exact absurd e (by simp)
      · rename_i j ej
        have := fnd_b _ _ _ ej
        have e' := Sum.inr.inj e
        have e1 := congrArg Prod.fst e'
        have e2 := congrArg Prod.snd e'
        simp only at e1 e2
        subst e2
        have hp := this.2.2
        unfold pfx at hp
        rw [Bool.and_eq_true, decide_eq_true_iff] at hp
        have hl := nm_b j (by omega) 2 (by omega)
        have hp2 : s (at_ + 2) = nm j 2 := hp.2
        have := h.lt (i := at_ + 2) (by omega)
        omega
theorem tLG {f : Nat} (hf : f ≤ 5) : 0 ≤ tL f ∧ tL f ≤ tG f ∧ tG f ≤ 2199 := by
  have : ∀ f, f ≤ 5 → 0 ≤ tL f ∧ tL f ≤ tG f ∧ tG f ≤ 2199 := by decide
  exact this f hf
theorem pBn_r {α β : Type} {x : PR α} {g : Nat → α → PR β} {a1 : Nat} {y : β} (e : pBn x g = .inr (a1, y)) : ∃ a0 z, x = .inr (a0, z) ∧ g a0 z = .inr (a1, y) := by
  unfold pBn at e
  split at e
  · exact absurd e (by simp)
  · rename_i q
    exact ⟨q.1, q.2, rfl, e⟩
theorem pVal_at {s : Nat → Int} {n f at_ a1 : Nat} {v : Int} (h : isS s n) (hf : f ≤ 5) (ha : at_ ≤ n) (e : pVal s f at_ = .inr (a1, v)) : at_ < a1 ∧ a1 ≤ n ∧ tL f ≤ v ∧ v ≤ tG f := by
  unfold pVal at e
  split at e
  · rename_i c
    obtain ⟨a0, k, e1, e2⟩ := pBn_r e
    have := pName_at h (by omega) e1
    have e' := Sum.inr.inj e2
    have q1 := congrArg Prod.fst e'
    have q2 := congrArg Prod.snd e'
    simp only at q1 q2
    rw [c.1]
    have t1 : tL 3 = 1 := rfl
    have t2 : tG 3 = 12 := rfl
    omega
  · split at e
    · rename_i c
      obtain ⟨a0, k, e1, e2⟩ := pBn_r e
      have := pName_at h (by omega) e1
      have e' := Sum.inr.inj e2
      have q1 := congrArg Prod.fst e'
      have q2 := congrArg Prod.snd e'
      simp only at q1 q2
      rw [c.1]
      have t1 : tL 4 = 0 := rfl
      have t2 : tG 4 = 7 := rfl
      omega
    · exact pNum_at h ha e
theorem pStep_at {s : Nat → Int} {n at_ a1 : Nat} {v : Int} (h : isS s n) (ha : at_ ≤ n) (e : pStep s at_ = .inr (a1, v)) : at_ ≤ a1 ∧ a1 ≤ n ∧ 1 ≤ v ∧ v ≤ 1000 := by
  unfold pStep at e
  split at e
  · rename_i c
    have hl := h.lt (i := at_) (by omega)
    have := pNum_at h (by omega) e
    omega
  · have e' := Sum.inr.inj e
    have q1 := congrArg Prod.fst e'
    have q2 := congrArg Prod.snd e'
    simp only at q1 q2
    omega
theorem pAft_at {s : Nat → Int} {n f at_ a1 : Nat} {v : Int} {c c' : Ct} (h : isS s n) (hf : f ≤ 5) (ha : at_ ≤ n) (e : pAft s f at_ v c = .inr (a1, c')) : at_ ≤ a1 ∧ a1 ≤ n := by
  unfold pAft at e
  split at e
  · rename_i q
    have hl := h.lt (i := at_) (by omega)
    obtain ⟨a0, w, e1, e2⟩ := pBn_r e
    have v1 := pVal_at h hf (by omega) e1
    split at e2
    · exact absurd e2 (by simp)
    · obtain ⟨a2, st, e3, e4⟩ := pBn_r e2
      have v2 := pStep_at h (by omega) e3
      have q1 := congrArg Prod.fst (Sum.inr.inj e4)
      simp only at q1
      omega
  · split at e
    · obtain ⟨a2, st, e3, e4⟩ := pBn_r e
      have v2 := pStep_at h (by omega) e3
      have q1 := congrArg Prod.fst (Sum.inr.inj e4)
      simp only at q1
      omega
    · split at e
      · rename_i q
        have hl := h.lt (i := at_) (by omega)
        have q1 := congrArg Prod.fst (Sum.inr.inj e)
        simp only at q1
        omega
      · split at e
        · rename_i q
          have hl := h.lt (i := at_) (by omega)
          have q1 := congrArg Prod.fst (Sum.inr.inj e)
          simp only at q1
          omega
        · split at e
          · rename_i q
            have hl := h.lt (i := at_) (by omega)
            obtain ⟨a0, k, e1, e2⟩ := pBn_r e
            have v1 := pNum_at h (by omega) e1
            have q1 := congrArg Prod.fst (Sum.inr.inj e2)
            simp only at q1
            omega
          · have q1 := congrArg Prod.fst (Sum.inr.inj e)
            simp only at q1
            omega
theorem pItem_at {s : Nat → Int} {n f at_ a1 : Nat} {c c' : Ct} (h : isS s n) (hf : f ≤ 5) (ha : at_ ≤ n) (e : pItem s f at_ c = .inr (a1, c')) : at_ < a1 ∧ a1 ≤ n := by
  unfold pItem at e
  split at e
  · rename_i q
    have hl := h.lt (i := at_) (by omega)
    obtain ⟨a2, st, e3, e4⟩ := pBn_r e
    have v2 := pStep_at h (by omega) e3
    have q1 := congrArg Prod.fst (Sum.inr.inj e4)
    simp only at q1
    omega
  · split at e
    · rename_i q
      have hl := h.lt (i := at_) (by omega)
      unfold pLast at e
      split at e
      · rename_i q2
        have hl2 := h.lt (i := at_ + 1) (by omega)
        have q1 := congrArg Prod.fst (Sum.inr.inj e)
        simp only at q1
        omega
      · split at e
        · rename_i q2
          have hl2 := h.lt (i := at_ + 1) (by omega)
          obtain ⟨a0, k, e1, e2⟩ := pBn_r e
          have v1 := pNum_at h (by omega) e1
          have q1 := congrArg Prod.fst (Sum.inr.inj e2)
          simp only at q1
          omega
        · have q1 := congrArg Prod.fst (Sum.inr.inj e)
          simp only at q1
          omega
    · obtain ⟨a0, v, e1, e2⟩ := pBn_r e
      have v1 := pVal_at h hf ha e1
      have v2 := pAft_at h hf (by omega) e2
      omega
theorem pMore_at {s : Nat → Int} {n f : Nat} (h : isS s n) (hf : f ≤ 5) : ∀ (k at_ a1 : Nat) (c c' : Ct), at_ ≤ n → pMore s f k at_ c = .inr (a1, c') → at_ ≤ a1 ∧ a1 ≤ n
  | 0, at_, a1, c, c', ha, e => by
    have q1 := congrArg Prod.fst (Sum.inr.inj e)
    simp only at q1
    omega
  | k + 1, at_, a1, c, c', ha, e => by
    unfold pMore at e
    split at e
    · rename_i q
      have hl := h.lt (i := at_) (by omega)
      obtain ⟨a0, c1, e1, e2⟩ := pBn_r e
      have v1 := pItem_at h hf (by omega) e1
      have := pMore_at h hf k a0 a1 c1 c' (by omega) e2
      omega
    · have q1 := congrArg Prod.fst (Sum.inr.inj e)
      simp only at q1
      omega
theorem pField_at {s : Nat → Int} {n f at_ a1 : Nat} {c c' : Ct} (h : isS s n) (hf : f ≤ 5) (ha : at_ ≤ n) (e : pField s f at_ c = .inr (a1, c')) : at_ < a1 ∧ a1 ≤ n := by
  unfold pField at e
  obtain ⟨a0, c1, e1, e2⟩ := pBn_r e
  have v1 := pItem_at h hf ha e1
  have v2 := pMore_at h hf _ _ _ _ _ (by omega) e2
  omega
theorem skp_at {s : Nat → Int} {n : Nat} (h : isS s n) : ∀ (k at_ : Nat), at_ ≤ n → at_ ≤ skp s k at_ ∧ skp s k at_ ≤ n ∧ (n < at_ + k → ¬ s (skp s k at_) = 32)
  | 0, at_, ha => by
    refine ⟨Nat.le_refl _, ha, fun q => ?_⟩
    omega
  | k + 1, at_, ha => by
    unfold skp
    split
    · rename_i q
      have hl := h.lt (i := at_) (by omega)
      have := skp_at h k (at_ + 1) (by omega)
      exact ⟨by omega, this.2.1, fun q => this.2.2 (by omega)⟩
    · rename_i q
      exact ⟨Nat.le_refl _, ha, fun _ => q⟩
/-- nothing can be read at the end -/
theorem pItem_end {s : Nat → Int} {f at_ : Nat} {c : Ct} (e : s at_ = -1) : pItem s f at_ c = .inl (1, at_) := by
  have en : ∀ a c, a + c ≤ 19 → fnd (fun k => pfx s at_ k 1) a c = none := by
    intro a c hac
    rcases q : fnd (fun k => pfx s at_ k 1) a c with _ | j
    · rfl
    · have := fnd_b _ _ _ q
      have hp := this.2.2
      unfold pfx at hp
      rw [Bool.and_eq_true, decide_eq_true_iff, Nat.add_zero, e] at hp
      have hp2 : -1 = nm j 0 := hp.2
      have := nm_b j (by omega) 0 (by decide)
      omega
  have hv : pVal s f at_ = .inl (1, at_) := by
    unfold pVal
    split
    · unfold pName; rw [if_pos (en 0 12 (by decide))]; rfl
    · split
      · unfold pName; rw [if_pos (en 12 7 (by decide))]; rfl
      · unfold pNum
        have : dgs s 4 at_ 0 = (at_, 0) := by unfold dgs; rw [if_neg (by omega)]
        rw [this, if_pos (.inl rfl)]
  unfold pItem
  rw [if_neg (by omega), if_neg (by omega), hv]
  rfl
theorem pField_end {s : Nat → Int} {f at_ : Nat} {c : Ct} (e : s at_ = -1) : pField s f at_ c = .inl (1, at_) := by
  unfold pField
  rw [pItem_end e]; rfl
