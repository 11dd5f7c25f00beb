/-! what is made: objects and arrays; stores of references into arrays -/
def fz (c : Nat) : List Value := (List.range (nfC c)).map (fun k => match srt (tyC c k) with
  | 0 => Value.int 0
  | 1 => Value.long 0
  | _ => Value.null)
theorem fz_ok : ∀ c, c < 8 → ∀ j, j < nfC c → defaultValue (tyC c j) = vp_V (fz c) j := by decide +kernel
theorem fl_nO (M : Mm) (q c n : Nat) : fl (nO M q c n) q c = fz c := by
  unfold fl fz
  apply List.map_congr_left
  intro k _
  have h1 : mI (nO M q c n) q = fun _ => 0 := va_up_self _ _ _
  have h2 : mJ (nO M q c n) q = fun _ => 0 := va_up_self _ _ _
  have h3 : mP (nO M q c n) q = fun _ => none := va_up_self _ _ _
  unfold fv
  rw [h1, h2, h3]
  rfl
theorem mK_nO (M : Mm) (q c n : Nat) : mK (nO M q c n) q = c := va_up_self _ _ _
theorem mN_nO (M : Mm) (q c n : Nat) : mN (nO M q c n) q = n := va_up_self _ _ _
theorem xw_new {G : Gx} {M : Mm} {q : Nat} {e : va_E} (hD : va_D (gA G) (xw G M ++ [(q, e)])) : q ∉ mL M := by
  intro h
  obtain ⟨z, hz⟩ := xw_get (G := G) h
  have hl := (List.getElem?_eq_some_iff.mp hz).1
  have h1 : (xw G M ++ [(q, e)])[z]? = some (q, ent (gY G) M q) := by rw [List.getElem?_append_left hl]; exact hz
  have h2 : (xw G M ++ [(q, e)])[(xw G M).length]? = some (q, e) := by simp
  have := hD.1 _ _ _ _ h1 h2 rfl
  omega
section EN
variable {G : Gx} {mi : MI} {Q : Rs → Mm → Prop} {M : Mm} {k n pc idx : Nat} {L : List (Option Value)} {rest : List Value}
theorem e_objI {a : Nat} (hd : lkp (miI mi) 0 pc = some (.invokespecial idx, 3)) (w1 : Cond.methodLink (miY mi).cls idx objectInit ∈ ALLW) (w2 : Cond.instanceMethod objectInit ∈ ALLW) (w3 : Cond.code objectInit ⟨#[0xb1]⟩ 1 none ∈ ALLW) (r1 : 1 ≤ (miM mi).frames) (r2 : (rest.map fun v => v.category).sum + 12 ≤ (miM mi).locals) (kk : E G mi Q M k n (pc + 3) L rest) : E G mi Q M k n pc L (.ref a :: rest) := by
  intro p e s m args below meth c H locs ls hC hS hM hl
  exact W.objInit hC.1 hC.2.1 hC.own (hC.ws w1) (hC.ws w2) (hC.ws w3) (g := F0 m pc ls (.ref a :: rest)) rfl (hl.1.1.trans hC.2.2.1.symm) rfl (hC.dec hd) r1 (by show 2 * 0 + _ + 12 ≤ _; omega) (kk p e s m args below meth c H locs ls hC hS hM hl)
theorem e_new (c : Nat) {q : vw_C} (hd : lkp (miI mi) 0 pc = some (.new idx, 3)) (hc : vwCl[c]? = some q) (w1 : Cond.classLink (miY mi).cls idx q.1 ∈ ALLW) (w2 : Cond.instantiable q.1 q.2.2 ∈ ALLW) (w3 : Cond.initialized q.1 ∈ ALLW) (r1 : k + 1 ≤ (miM mi).cells) (r2 : n + q.2.2 ≤ (miM mi).slots)
    (kk : ∀ a : Nat, a ∉ mL M → E G mi Q (nO M a c 0) (k + 1) (n + q.2.2) (pc + 3) L (.ref a :: rest)) : E G mi Q M k n pc L rest := by
  intro p e s m args below meth cd H locs ls hC hS hM hl
  obtain ⟨h8, h1, h2, h3, h4⟩ := clok c q hc
  refine va_new hC.1 hC.2.1 hC.2.2.2.2.2.2.2.2.1 h1 (tyC c) h3 hC.own (hC.ws w1) (hC.ws w2) (hC.ws w3) hC.g.1 hM.1 hM.2 hS (fun q h => Nat.le_trans hC.o.1 h) hc (fs := fz c) (fun j hj => fz_ok c h8 j (by rw [← h2]; exact hj)) r1 r2 (hC.dec hd) ?_
  intro a H1 hP1 hD1 hS1
  have hf := xw_new hD1
  have he := xw_push (G := G) (M := M) (M' := nO M a c 0) hf rfl (e := .inr (c, fz c)) (ent_nO (by rw [ent_o (mK_nO M a c 0) h8, fl_nO]))
  rw [he] at hP1 hD1
  exact kk a hf p e s m args below meth cd H1 locs ls hC hS1 ⟨hP1, hD1⟩ hl
/-- the class of an array is told by the tables -/
theorem cy_eq {s : State} {tys : List (ClassId × FieldType)} {cA cB : ClassId} {ty : FieldType} {i : Nat} (hK : va_K (gD G) vwCl tys s) (hK1 : va_K (gD G) vwCl (tys ++ [(cA, ty)]) s) (hi : tys[i]? = some (cB, ty)) : cA = cB := by
  have h1 := (hK.2 i _ hi).2
  have h2 := (hK1.2 tys.length (cA, ty) (by simp)).2
  cases ty with
  | object C =>
    obtain ⟨_, _, _, _, _, e1⟩ := h1
    obtain ⟨_, _, _, _, _, e2⟩ := h2
    exact Option.some.inj (e2.symm.trans e1)
  | _ => exact Option.some.inj (h2.symm.trans h1)
theorem e_newI {x : Int32} (z : Nat) (hd : lkp (miI mi) 0 pc = some (.newarray .int, 2)) (w1 : Cond.arrayClass .int ∈ ALLW) (h0 : ¬ x < 0) (hz : x.toNatClampNeg = z) (hb : z * 4 ≤ 536870912) (r1 : k + 1 ≤ (miM mi).cells) (r2 : n + z ≤ (miM mi).slots)
    (kk : ∀ a : Nat, a ∉ mL M → E G mi Q (nO M a 9 z) (k + 1) (n + z) (pc + 2) L (.ref a :: rest)) : E G mi Q M k n pc L (.int x :: rest) := by
  intro p e s m args below meth cd H locs ls hC hS hM hl
  refine va_newa (atype := .int) hC.1 hC.2.1 (hC.ws w1) rfl hC.g.1 hM.1 hM.2 hS (fun q h => Nat.le_trans hC.o.1 h) (a0 := (z, .inl (fun _ => 0))) (fun cA => rfl) h0 hz hb r1 r2 (hC.dec hd) ?_
  intro a cA H1 hK1 hP1 hD1 hS1
  have hcy : cA = gY G 9 := cy_eq hC.g.1 hK1 (i := 1) rfl
  subst hcy
  have hf := xw_new hD1
  have he := xw_push (G := G) (M := M) (M' := nO M a 9 z) hf rfl (e := .inl (gY G 9, z, .inl (fun _ => 0))) (ent_nO (by rw [ent_i (mK_nO M a 9 z) (by omega) (by omega) (by omega), mN_nO, show mI (nO M a 9 z) a = fun _ => 0 from va_up_self _ _ _]))
  rw [he] at hP1 hD1
  exact kk a hf p e s m args below meth cd H1 locs ls hC hS1 ⟨hP1, hD1⟩ hl
theorem e_newZ {x : Int32} (z : Nat) (hd : lkp (miI mi) 0 pc = some (.newarray .boolean, 2)) (w1 : Cond.arrayClass .boolean ∈ ALLW) (h0 : ¬ x < 0) (hz : x.toNatClampNeg = z) (hb : z * 1 ≤ 536870912) (r1 : k + 1 ≤ (miM mi).cells) (r2 : n + z ≤ (miM mi).slots)
    (kk : ∀ a : Nat, a ∉ mL M → E G mi Q (nO M a 11 z) (k + 1) (n + z) (pc + 2) L (.ref a :: rest)) : E G mi Q M k n pc L (.int x :: rest) := by
  intro p e s m args below meth cd H locs ls hC hS hM hl
  refine va_newa (atype := .boolean) hC.1 hC.2.1 (hC.ws w1) rfl hC.g.1 hM.1 hM.2 hS (fun q h => Nat.le_trans hC.o.1 h) (a0 := (z, .inl (fun _ => 0))) (fun cA => rfl) h0 hz hb r1 r2 (hC.dec hd) ?_
  intro a cA H1 hK1 hP1 hD1 hS1
  have hcy : cA = gY G 11 := cy_eq hC.g.1 hK1 (i := 3) rfl
  subst hcy
  have hf := xw_new hD1
  have he := xw_push (G := G) (M := M) (M' := nO M a 11 z) hf rfl (e := .inl (gY G 11, z, .inl (fun _ => 0))) (ent_nO (by rw [ent_i (mK_nO M a 11 z) (by omega) (by omega) (by omega), mN_nO, show mI (nO M a 11 z) a = fun _ => 0 from va_up_self _ _ _]))
  rw [he] at hP1 hD1
  exact kk a hf p e s m args below meth cd H1 locs ls hC hS1 ⟨hP1, hD1⟩ hl
theorem e_newB {x : Int32} (z : Nat) (hd : lkp (miI mi) 0 pc = some (.newarray .byte, 2)) (w1 : Cond.arrayClass .byte ∈ ALLW) (h0 : ¬ x < 0) (hz : x.toNatClampNeg = z) (hb : z * 1 ≤ 536870912) (r1 : k + 1 ≤ (miM mi).cells) (r2 : n + z ≤ (miM mi).slots)
    (kk : ∀ a : Nat, a ∉ mL M → E G mi Q (nO M a 8 z) (k + 1) (n + z) (pc + 2) L (.ref a :: rest)) : E G mi Q M k n pc L (.int x :: rest) := by
  intro p e s m args below meth cd H locs ls hC hS hM hl
  refine va_newa (atype := .byte) hC.1 hC.2.1 (hC.ws w1) rfl hC.g.1 hM.1 hM.2 hS (fun q h => Nat.le_trans hC.o.1 h) (a0 := (z, .inl (fun _ => 0))) (fun cA => rfl) h0 hz hb r1 r2 (hC.dec hd) ?_
  intro a cA H1 hK1 hP1 hD1 hS1
  have hcy : cA = gY G 8 := cy_eq hC.g.1 hK1 (i := 0) rfl
  subst hcy
  have hf := xw_new hD1
  have he := xw_push (G := G) (M := M) (M' := nO M a 8 z) hf rfl (e := .inl (gY G 8, z, .inl (fun _ => 0))) (ent_nO (by rw [ent_i (mK_nO M a 8 z) (by omega) (by omega) (by omega), mN_nO, show mI (nO M a 8 z) a = fun _ => 0 from va_up_self _ _ _]))
  rw [he] at hP1 hD1
  exact kk a hf p e s m args below meth cd H1 locs ls hC hS1 ⟨hP1, hD1⟩ hl
theorem e_newJ {x : Int32} (z : Nat) (hd : lkp (miI mi) 0 pc = some (.newarray .long, 2)) (w1 : Cond.arrayClass .long ∈ ALLW) (h0 : ¬ x < 0) (hz : x.toNatClampNeg = z) (hb : z * 8 ≤ 536870912) (r1 : k + 1 ≤ (miM mi).cells) (r2 : n + z ≤ (miM mi).slots)
    (kk : ∀ a : Nat, a ∉ mL M → E G mi Q (nO M a 10 z) (k + 1) (n + z) (pc + 2) L (.ref a :: rest)) : E G mi Q M k n pc L (.int x :: rest) := by
  intro p e s m args below meth cd H locs ls hC hS hM hl
  refine va_newa (atype := .long) hC.1 hC.2.1 (hC.ws w1) rfl hC.g.1 hM.1 hM.2 hS (fun q h => Nat.le_trans hC.o.1 h) (a0 := (z, .inr (.inl (fun _ => 0)))) (fun cA => rfl) h0 hz hb r1 r2 (hC.dec hd) ?_
  intro a cA H1 hK1 hP1 hD1 hS1
  have hcy : cA = gY G 10 := cy_eq hC.g.1 hK1 (i := 2) rfl
  subst hcy
  have hf := xw_new hD1
  have he := xw_push (G := G) (M := M) (M' := nO M a 10 z) hf rfl (e := .inl (gY G 10, z, .inr (.inl (fun _ => 0)))) (ent_nO (by rw [ent_j (mK_nO M a 10 z), mN_nO, show mJ (nO M a 10 z) a = fun _ => 0 from va_up_self _ _ _]))
  rw [he] at hP1 hD1
  exact kk a hf p e s m args below meth cd H1 locs ls hC hS1 ⟨hP1, hD1⟩ hl
theorem e_newQ {x : Int32} {C : String} (c i z : Nat) (hd : lkp (miI mi) 0 pc = some (.anewarray idx, 3)) (w1 : Cond.classLink (miY mi).cls idx C ∈ ALLW) (hA : ∀ s, ST G s → va_AO C s) (h12 : 12 ≤ c) (hi : (gT G)[i]? = some (gY G c, .object C)) (h0 : ¬ x < 0) (hz : x.toNatClampNeg = z) (hb : z * 4 ≤ 536870912) (r1 : k + 1 ≤ (miM mi).cells) (r2 : n + z ≤ (miM mi).slots)
    (kk : ∀ a : Nat, a ∉ mL M → E G mi Q (nO M a c z) (k + 1) (n + z) (pc + 3) L (.ref a :: rest)) : E G mi Q M k n pc L (.int x :: rest) := by
  intro p e s m args below meth cd H locs ls hC hS hM hl
  refine va_newq hC.1 hC.2.1 hC.own (hC.ws w1) (hA s hC.g.2.2) hC.g.1 hM.1 hM.2 hS (fun q h => Nat.le_trans hC.o.1 h) h0 hz hb r1 r2 (hC.dec hd) ?_
  intro a cA H1 hK1 hP1 hD1 hS1
  have hcy : cA = gY G c := cy_eq hC.g.1 hK1 hi
  subst hcy
  have hf := xw_new hD1
  have he := xw_push (G := G) (M := M) (M' := nO M a c z) hf rfl (e := .inl (gY G c, z, .inr (.inr (.inr (.inr (fun _ => none)))))) (ent_nO (by rw [ent_p (mK_nO M a c z) h12, mN_nO, show mP (nO M a c z) a = fun _ => none from va_up_self _ _ _]))
  rw [he] at hP1 hD1
  exact kk a hf p e s m args below meth cd H1 locs ls hC hS1 ⟨hP1, hD1⟩ hl
theorem e_aast {a v ci : Nat} {i : Int32} {q : vw_C} (c t0 : Nat) (hd : lkp (miI mi) 0 pc = some (.aastore, 1)) (ha : ob M a c) (h12 : 12 ≤ c) (hv : ob M v ci) (hci : vwCl[ci]? = some q) (ht : (gT G)[t0]? = some (gY G c, .object q.1)) (hi : vp_in i (mN M a)) (kk : E G mi Q (sP M a i.toNatClampNeg (some v)) k n (pc + 1) L rest) : E G mi Q M k n pc L (.ref v :: .int i :: .ref a :: rest) := by
  intro p e s m args below meth cd H locs ls hC hS hM hl
  obtain ⟨z, hz⟩ := xw_get (G := G) ha.1
  obtain ⟨y, hy⟩ := xw_get (G := G) hv.1
  have hz0 := hz
  rw [ent_p ha.2 h12] at hz
  rw [ent_o hv.2 (clok ci q hci).1] at hy
  refine va_astq hC.1 hC.2.1 hC.g.1 hM.1 hM.2 hS z t0 y ci hz ht hy hci hi (hC.dec hd) ?_
  intro H1 locs1 hP1 hD1 hS1
  have he := xw_set (G := G) (M := M) (M' := sP M a i.toNatClampNeg (some v)) hM.2 ha.1 hz0 rfl (e := .inl (gY G c, mN M a, .inr (.inr (.inr (.inr (va_up (mP M a) i.toNatClampNeg (some v))))))) (ent_aP (some v) ha.2 h12)
  rw [he] at hP1 hD1
  exact kk p e s m args below meth cd H1 locs1 ls hC hS1 ⟨hP1, hD1⟩ hl
/-- a nest mate's constructor, which throws nothing -/
theorem e_callIN {mi' : MI} {Q' : Rs → Mm → Prop} {As : List Value} {b : Nat} {host : String} (hd : lkp (miI mi) 0 pc = some (.invokespecial idx, 3)) (hM' : MC G mi' (.ref b :: As) M Q') (hno : ∀ X M', ¬ Q' (.inr X) M') (hH : miH mi' = []) (hR : miR mi' = none) (hin : (miY mi').name = "<init>") (hwl : Cond.methodLinkNest (miY mi).cls idx (miY mi') host ∈ OTHW) (hwn : Cond.instanceMethod (miY mi') ∈ ALLW) (hwi : Cond.initialized (miY mi').cls ∈ ALLW) (hwc : cdw mi' ∈ ALLW)
    (hok : cok mi mi' k n As.length = true) (hrm : (rest.map fun v => v.category).sum ≤ 8)
    (hret : ∀ (v : Option Value) (M' : Mm), Q' (.inl v) M' → E G mi Q M' (k + (miM mi').cells) (n + (miM mi').slots) (pc + 3) L (v.toList ++ rest)) : E G mi Q M k n pc L (As.reverse ++ .ref b :: rest) := by
  intro p e s m args below meth c H locs ls hC hS hM hl
  obtain ⟨o1, o2, o3, o4, o5, o6, o7⟩ := cok_ok hok
  have hcd : cdw mi' = .code (miY mi') (miC mi') (miL mi') none := by unfold cdw; rw [hH, ← hR]
  have hw9 := ew_ws hC hwc
  have hc9 := hC.ws hwc
  have hM9 := met_of hM' hno
  rw [hcd] at hM9 hw9 hc9
  exact e_run0 hC hS hl (va_runIN (As := As) (Ts := ALLW) ⟨hC.1, hC.2.1, hC.2.2.1, hC.own, hC.2.2.2.2.2.2.2.2.1⟩ hM9 ⟨⟨⟨rfl, rfl, o1, o2, hw9, List.mem_cons_self⟩, hc9, hC.ws hwi, ⟨o5, o6⟩, o7, va_Nw.use rfl (hC.g.2.1 _ hwl)⟩, hin, hC.ws hwn⟩ ⟨xP_blind G _ M, e_pre hC hS hM _⟩ rfl rfl hl.1.1 rfl (lv_room hrm) (hC.dec hd) ⟨o3, o4⟩) hret
end EN
