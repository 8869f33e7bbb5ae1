/-! constructors: Go with cells and slots that grow -/
def zUp : zX → Nat → Nat → zX
  | (p, l, e, R, s, m, args, below, meth, c, cells, slots, Q, D, tys, A), k, n => (p, l, e, R, s, m, args, below, meth, c, cells + k, slots + n, Q, D, tys, A)
theorem zUp_up (X : zX) (k n k2 n2 : Nat) : zUp (zUp X k n) k2 n2 = zUp X (k + k2) (n + n2) := by
  obtain ⟨p, l, e, R, s, m, args, below, meth, cd, cells, slots, Q, D, tys, A⟩ := X
  simp only [zUp, Nat.add_assoc]
/-- room for K cells and N slots more; the cells that are new are the method's own -/
def Oc : zX → String → ByteArray → Nat → Nat → zY → Nat → Nat → Prop
  | (p, l, e, R, s, m, args, below, meth, cd, cells, slots, Q, D, tys, A), own, cc, n, d, c, K, N => Ok (p, l, e, R, s, m, args, below, meth, cd, cells, slots, Q, D, tys, A) own cc n d c ∧ cells + K ≤ R.cells ∧ slots + N ≤ R.slots ∧ (∀ q : Nat, s.heap.size ≤ q → A q)
theorem Oc.ok {X : zX} {own : String} {cc : ByteArray} {n d : Nat} {c : zY} {K N : Nat} (h : Oc X own cc n d c K N) : Ok X own cc n d c := by
  obtain ⟨p, l, e, R, s, m, args, below, meth, cd, cells, slots, Q, D, tys, A⟩ := X
  exact h.1
theorem Oc.up {X : zX} {own : String} {cc : ByteArray} {n d : Nat} {c : zY} {K N : Nat} (h : Oc X own cc n d c K N) (k j : Nat) (hk : Nat.ble k K = true) (hj : Nat.ble j N = true) : Oc (zUp X k j) own cc n d c (K - k) (N - j) := by
  obtain ⟨p, l, e, R, s, m, args, below, meth, cd, cells, slots, Q, D, tys, A⟩ := X
  obtain ⟨⟨h1, h2, h3, h4, h5, h6, h7, h8, h9, h10, h11, h12⟩, g1, g2, g3⟩ := h
  have a1 := Nat.le_of_ble_eq_true hk
  have a2 := Nat.le_of_ble_eq_true hj
  exact ⟨⟨h1, h2, h3, h4, h5, h6, h7, h8, h9, h10, by omega, by omega⟩, by omega, by omega, g3⟩
/-- a constructor's contract -/
def zRc (d mc ms : Nat) : Room := { frames := d, cells := mc, slots := ms, locals := 41 * d }
def KC (y : MethodName) (bytes : ByteArray) (maxL d mc ms : Nat) (c : zY) (av : List Value) (w : va_W) (Post : va_W → Prop) : Prop :=
  ∀ (l : Launch) (D : va_G) (sz : Nat), Met l y (Cond.code y bytes maxL none :: zB) (zRc d mc ms) (va_Pc av (fun U => U.heap.size = sz ∧ va_AO "EncounterLedger$State" U ∧ zP D c w U))
    (fun _ st o t => (o = .returned none ∧ ∃ w', Post w' ∧ va_P D zCl w' t.heap ∧ va_D (va_A w sz) w') ∧ va_F (va_A w sz) st t) mc ms (va_A w sz)
/-- the state at the end of a constructor -/
def Rc : zX → Nat → Nat → Nat → va_W → (va_W → Prop) → Prop
  | (_, _, _, _, s, m, args, below, meth, _, cells, slots, Q, D, _, A), mc, ms, sz, w, Post => meth.sig.returnType = none ∧ meth.name = "<init>" ∧ cells = 0 ∧ slots = 0 ∧ A = va_A w sz ∧ Q = MQ below (fun _ st o t => (o = .returned none ∧ ∃ w', Post w' ∧ va_P D zCl w' t.heap ∧ va_D (va_A w sz) w') ∧ va_F (va_A w sz) st t) args s mc ms (va_A w sz)
def zOv : zX → Prop
  | (_, _, _, _, s, _, _, _, _, _, _, _, _, _, _, _) => va_AO "EncounterLedger$State" s
theorem zC_of {y : MethodName} {own : String} {bytes : ByteArray} {maxL d mc ms : Nat} {c : zY} {av : List Value} {w : va_W} {Post : va_W → Prop} (hp : plainName y.cls = true) (ho : y.cls = own) (hi : y.name = "<init>") (hl : (lg_sl av).length ≤ maxL)
    (body : ∀ (X : zX) (sz : Nat), Oc X own bytes maxL d c mc ms → Rc X mc ms sz w Post → zOv X → Go X w (lv_args 0 av) 0 []) : KC y bytes maxL d mc ms c av w Post := by
  intro l D sz
  refine Met.ofW (cc := bytes) (maxL := maxL) (ret := none) hp rfl ?_
  intro p e s m args below meth cd s₁ B hml hv
  obtain ⟨rfl, hsz, hO, hP, hK, hN, hD0⟩ := hv
  have hts := atoms_spec (ws := Cond.code y bytes maxL none :: zB) B.pre
  have hown : s.vm.findClass own = some m.cls := ho ▸ findClass_of_methodNamed B.named
  have key := body (p, l, e, (headSpec (Cond.code y bytes maxL none :: zB) (zRc d mc ms)).room, s, m, av.toArray, below, meth, cd, 0, 0, MQ below (fun _ st o t => (o = .returned none ∧ ∃ w', Post w' ∧ va_P D zCl w' t.heap ∧ va_D (va_A w sz) w') ∧ va_F (va_A w sz) st t) av.toArray s mc ms (va_A w sz), D, zTy c, va_A w sz) sz
    ⟨⟨B.exec, B.bytes, hml, hown, B.notSynchronized, fun q hq => hts q (List.mem_cons_of_mem _ hq), hK, hN, rfl, ⟨Nat.le_refl _, Nat.le_refl _⟩, Nat.zero_le _, Nat.zero_le _⟩, Nat.le_of_eq (Nat.zero_add _), Nat.le_of_eq (Nat.zero_add _), fun q hq => Or.inr (by rw [← hsz]; exact hq)⟩ ⟨B.returns, ((name_of_methodNamed B.named B.method).1).trans hi, rfl, rfl, rfl, rfl⟩ hO
  rw [lg_entry_eq]
  refine key s.heap [] _ hP (hD0.self) va_S.rf ?_
  rw [hml]
  exact lv_entry av hl
/-- behind a constructor's call: its world, new cells among it, in its place -/
theorem zJoinC {A : Nat → Prop} {D : va_G} {w1 wc wc' w2 : va_W} {H H1 : Heap} (hP : va_P D zCl (w1 ++ (wc ++ w2)) H) (hD : va_D A (w1 ++ (wc ++ w2))) (hk : ∀ q : Nat, q < H.size → ¬ va_A wc H.size q → H1[q]? = H[q]?) (hP1 : va_P D zCl wc' H1) (hD1 : va_D (va_A wc H.size) wc') (hF : ∀ q, va_A wc H.size q → A q) : va_P D zCl (w1 ++ (wc' ++ w2)) H1 ∧ va_D A (w1 ++ (wc' ++ w2)) := by
  have hpm : (w1 ++ (wc ++ w2)).Perm ((w1 ++ w2) ++ wc) := by
    rw [List.append_assoc]; exact List.Perm.append_left w1 List.perm_append_comm
  have hpm' : ((w1 ++ w2) ++ wc').Perm (w1 ++ (wc' ++ w2)) := by
    rw [List.append_assoc]; exact List.Perm.append_left w1 List.perm_append_comm
  have pD : ∀ {B : Nat → Prop} {u v : va_W}, u.Perm v → va_D B u → va_D B v := by
    intro B u v h hD
    have nd : (u.map Prod.fst).Nodup := by
      refine List.pairwise_iff_getElem.mpr (fun i j hi hj hij heq => ?_)
      simp only [List.length_map] at hi hj
      have e1 : u[i]? = some u[i] := List.getElem?_eq_getElem hi
      have e2 : u[j]? = some u[j] := List.getElem?_eq_getElem hj
      have := hD.1 i j _ _ e1 e2 (by simpa using heq)
      omega
    have nd' : (v.map Prod.fst).Nodup := (h.map Prod.fst).nodup_iff.mp nd
    refine ⟨fun i j x y hi hj hxy => ?_, fun k q hk => ?_⟩
    · have hil := (List.getElem?_eq_some_iff.mp hi).1
      have hjl := (List.getElem?_eq_some_iff.mp hj).1
      have e1 := (List.getElem?_eq_some_iff.mp hi).2
      have e2 := (List.getElem?_eq_some_iff.mp hj).2
      rcases Nat.lt_trichotomy i j with g | g | g
      · exact (List.pairwise_iff_getElem.mp nd' i j (by simpa using hil) (by simpa using hjl) g (by simp [e1, e2, hxy])).elim
      · exact g
      · exact (List.pairwise_iff_getElem.mp nd' j i (by simpa using hjl) (by simpa using hil) g (by simp [e1, e2, hxy])).elim
    · obtain ⟨j, hj⟩ := List.getElem?_of_mem (h.mem_iff.mpr (List.mem_of_getElem? hk))
      exact hD.2 j q hj
  have hPa : va_P D zCl ((w1 ++ w2) ++ wc) H := zPin fun q hq => zPof hP q (hpm.mem_iff.mpr hq)
  have hDa : va_D A ((w1 ++ w2) ++ wc) := pD hpm hD
  have hapart : ∀ q ∈ w1 ++ w2, q.1 < H.size ∧ ¬ va_A wc H.size q.1 := by
    intro q hq
    have hl := (zPof hPa q (List.mem_append_left _ hq)).lt
    refine ⟨hl, fun h => ?_⟩
    rcases h with ⟨k, e, h⟩ | h
    · obtain ⟨i, hi⟩ := List.getElem?_of_mem hq
      have hil := (List.getElem?_eq_some_iff.mp hi).1
      have h1 : ((w1 ++ w2) ++ wc)[i]? = some q := by rw [List.getElem?_append_left hil]; exact hi
      have h2 : ((w1 ++ w2) ++ wc)[(w1 ++ w2).length + k]? = some (q.1, e) := by rw [List.getElem?_append_right (by omega), Nat.add_sub_cancel_left]; exact h
      have := hDa.1 _ _ _ _ h1 h2 rfl
      omega
    · omega
  have hPb : va_P D zCl ((w1 ++ w2) ++ wc') H1 := zPin fun q hq => by
    rcases List.mem_append.mp hq with h | h
    · exact (zPof hPa q (List.mem_append_left _ h)).kept (hk q.1 (hapart q h).1 (hapart q h).2)
    · exact zPof hP1 q h
  have hDb : va_D A ((w1 ++ w2) ++ wc') := by
    refine va_D.app ⟨fun i j x y hi hj hxy => ?_, fun k q hk => ?_⟩ (hD1.weaken (fun k q _ h => hF q.1 h)) (fun i j x y hx hy hxy => ?_)
    · have hil := (List.getElem?_eq_some_iff.mp hi).1
      have hjl := (List.getElem?_eq_some_iff.mp hj).1
      exact hDa.1 i j x y (by rw [List.getElem?_append_left hil]; exact hi) (by rw [List.getElem?_append_left hjl]; exact hj) hxy
    · have hkl := (List.getElem?_eq_some_iff.mp hk).1
      exact hDa.2 k q (by rw [List.getElem?_append_left hkl]; exact hk)
    · exact (hapart x (List.mem_of_getElem? hx)).2 (by rw [hxy]; exact hD1.2 j y hy)
  exact ⟨zPin fun q hq => zPof hPb q (hpm'.mem_iff.mpr hq), pD hpm' hDb⟩
section GCON
variable {X : zX} {own : String} {cc : ByteArray} {n d K N0 : Nat} {c : zY} {w w' : va_W} {L L' : List (Nat × Value)} {pc : Nat} {st st0 : List Value}
theorem g_new {C : String} {T : u_T} {N ci idx : Nat} (hX : Oc X own cc n d c K N0) (hin : ∀ q ∈ u_ws C T N, q ∈ zB) (ty : Nat → FieldType) (hty : ∀ k, k < N → parseFieldDescriptor (T k).2.2.1 = some (ty k)) (hcl : Cond.classLink own idx C ∈ zB) (hins : Cond.instantiable C N ∈ zB) (hini : Cond.initialized C ∈ zB) (hc : zCl[ci]? = some (C, T, N)) {fs : List Value} (hfs : ((List.range N).all fun j => decide (defaultValue (ty j) = vp_V fs j)) = true) (hK : Nat.ble 1 K = true) (hN : Nat.ble N N0 = true) (hd : decode cc pc = .ok (.new idx, 3)) (kk : ∀ q : Nat, Go (zUp X 1 N) (w ++ [(q, .inr (ci, fs))]) L (pc + 3) (.ref q :: st)) : Go X w L pc st := by
  have a1 := Nat.le_of_ble_eq_true hK
  have a2 := Nat.le_of_ble_eq_true hN
  obtain ⟨p, l, e, R, s, m, args, below, meth, cd, cells, slots, Q, D, tys, A⟩ := X; obtain ⟨⟨hx, hb, -, hown, -, hB, hKK, -⟩, g1, g2, hA⟩ := hX; intro H locs ls hP hD hS hl
  refine va_new (D := D) (cl := zCl) hx hb hB hin ty hty hown (hB _ hcl) (hB _ hins) (hB _ hini) hKK hP hD hS hA hc (fun j hj => of_decide_eq_true (List.all_eq_true.mp hfs j (List.mem_range.mpr hj))) (by omega) (by omega) hd (fun q H1 hP1 hD1 hS1 => ?_)
  exact kk q H1 locs ls hP1 hD1 hS1 hl
theorem zfc {s : State} {c : zY} {D : va_G} (hK : va_K D zCl (zTy c) s) : s.vm.findClass ("[" ++ FieldType.int.toString) = some c.1 ∧ s.vm.findClass ("[" ++ FieldType.boolean.toString) = some c.2.1 := ⟨(hK.2 0 _ rfl).2, (hK.2 1 _ rfl).2⟩
theorem g_newI {z : Int32} (hX : Oc X own cc n d c K N0) (N : Nat) (hz : ¬ z < 0) (hzN : z.toNatClampNeg = N) (hbig : Nat.ble N 1000000 = true) (hK : Nat.ble 1 K = true) (hN : Nat.ble N N0 = true) (hd : decode cc pc = .ok (.newarray .int, 2)) (kk : ∀ q : Nat, Go (zUp X 1 N) (w ++ [(q, .inl (c.1, N, .inl (fun _ => 0)))]) L (pc + 2) (.ref q :: st)) : Go X w L pc (.int z :: st) := by
  have a1 := Nat.le_of_ble_eq_true hK
  have a2 := Nat.le_of_ble_eq_true hN
  have a3 := Nat.le_of_ble_eq_true hbig
  obtain ⟨p, l, e, R, s, m, args, below, meth, cd, cells, slots, Q, D, tys, A⟩ := X; obtain ⟨⟨hx, hb, -, hown, -, hB, hKK, -, ht, -⟩, g1, g2, hA⟩ := hX; intro H locs ls hP hD hS hl
  refine va_newa (atype := .int) (a0 := (N, .inl (fun _ => 0))) hx hb (hB _ zA_int) rfl hKK hP hD hS hA (fun cA => rfl) hz hzN (by show N * 4 ≤ _; omega) (by omega) (by omega) hd (fun q cA H1 hK1 hP1 hD1 hS1 => ?_)
  have hc1 : cA = c.1 := by
    have h1 := (hK1.2 tys.length (cA, .int) (by rw [List.getElem?_append_right (Nat.le_refl _), Nat.sub_self]; rfl)).2
    subst ht
    exact Option.some.inj (Eq.trans (Eq.symm h1) (zfc hKK).1)
  subst hc1
  exact kk q H1 locs ls hP1 hD1 hS1 hl
theorem g_newZ {z : Int32} (hX : Oc X own cc n d c K N0) (N : Nat) (hz : ¬ z < 0) (hzN : z.toNatClampNeg = N) (hbig : Nat.ble N 1000000 = true) (hK : Nat.ble 1 K = true) (hN : Nat.ble N N0 = true) (hd : decode cc pc = .ok (.newarray .boolean, 2)) (kk : ∀ q : Nat, Go (zUp X 1 N) (w ++ [(q, .inl (c.2.1, N, .inl (fun _ => 0)))]) L (pc + 2) (.ref q :: st)) : Go X w L pc (.int z :: st) := by
  have a1 := Nat.le_of_ble_eq_true hK
  have a2 := Nat.le_of_ble_eq_true hN
  have a3 := Nat.le_of_ble_eq_true hbig
  obtain ⟨p, l, e, R, s, m, args, below, meth, cd, cells, slots, Q, D, tys, A⟩ := X; obtain ⟨⟨hx, hb, -, hown, -, hB, hKK, -, ht, -⟩, g1, g2, hA⟩ := hX; intro H locs ls hP hD hS hl
  refine va_newa (atype := .boolean) (a0 := (N, .inl (fun _ => 0))) hx hb (hB _ zA_boolean) rfl hKK hP hD hS hA (fun cA => rfl) hz hzN (by show N * 1 ≤ _; omega) (by omega) (by omega) hd (fun q cA H1 hK1 hP1 hD1 hS1 => ?_)
  have hc1 : cA = c.2.1 := by
    have h1 := (hK1.2 tys.length (cA, .boolean) (by rw [List.getElem?_append_right (Nat.le_refl _), Nat.sub_self]; rfl)).2
    subst ht
    exact Option.some.inj (Eq.trans (Eq.symm h1) (zfc hKK).2)
  subst hc1
  exact kk q H1 locs ls hP1 hD1 hS1 hl
theorem g_newS {z : Int32} {idx : Nat} (hX : Oc X own cc n d c K N0) (hO : zOv X) (N : Nat) (hz : ¬ z < 0) (hzN : z.toNatClampNeg = N) (hbig : Nat.ble N 1000000 = true) (hcl : Cond.classLink own idx "EncounterLedger$State" ∈ zB) (hK : Nat.ble 1 K = true) (hN : Nat.ble N N0 = true) (hd : decode cc pc = .ok (.anewarray idx, 3)) (kk : ∀ q : Nat, Go (zUp X 1 N) (w ++ [(q, .inl (c.2.2, N, .inr (.inr (.inr (.inr (fun _ => none))))))]) L (pc + 3) (.ref q :: st)) : Go X w L pc (.int z :: st) := by
  have a1 := Nat.le_of_ble_eq_true hK
  have a2 := Nat.le_of_ble_eq_true hN
  have a3 := Nat.le_of_ble_eq_true hbig
  obtain ⟨p, l, e, R, s, m, args, below, meth, cd, cells, slots, Q, D, tys, A⟩ := X; obtain ⟨⟨hx, hb, -, hown, -, hB, hKK, -, ht, -⟩, g1, g2, hA⟩ := hX; intro H locs ls hP hD hS hl
  refine va_newq hx hb hown (hB _ hcl) hO hKK hP hD hS hA hz hzN (by omega) (by omega) (by omega) hd (fun q cA H1 hK1 hP1 hD1 hS1 => ?_)
  have hc1 : cA = c.2.2 := by
    obtain ⟨kA, comp, u1, u2, u3, u4⟩ := (hK1.2 tys.length (cA, .object "EncounterLedger$State") (by simp)).2
    subst ht
    obtain ⟨kB, comp2, v1, v2, v3, v4⟩ := (hKK.2 2 _ rfl).2
    exact Option.some.inj (u4.symm.trans v4)
  subst hc1
  exact kk q H1 locs ls hP1 hD1 hS1 hl
theorem g_aast {a v N : Nat} {vs : List Value} {f : Nat → Option Nat} {i : Int32} (hX : Ok X own cc n d c) (q0 qk : Nat) (he : w[q0]? = some (a, .inl (c.2.2, N, .inr (.inr (.inr (.inr f)))))) (hv : w[qk]? = some (v, .inr (5, vs))) (hi : ¬ zOut i N) (hw : w.set q0 (a, .inl (c.2.2, N, .inr (.inr (.inr (.inr (va_up f i.toNatClampNeg (some v))))))) = w') (hd : decode cc pc = .ok (.aastore, 1)) (k : Go X w' L (pc + 1) st) : Go X w L pc (.ref v :: .int i :: .ref a :: st) := by
  obtain ⟨p, l, e, R, s, m, args, below, meth, cd, cells, slots, Q, D, tys, A⟩ := X; obtain ⟨hx, hb, -, hown, -, hB, hKK, -, ht, -⟩ := hX; intro H locs ls hP hD hS hl
  subst hw
  exact va_astq (r := (zr_St, zf_St, 7)) hx hb hKK hP hD hS q0 2 qk 5 he (by rw [ht]; rfl) hv rfl hi hd (fun H1 locs1 hP1 hD1 hS1 => k H1 locs1 ls hP1 hD1 hS1 hl)
theorem g_obj {idx a : Nat} (hX : Ok X own cc n d c) (hl0 : Cond.methodLink own idx Lib.objectInit ∈ zB) (hd1 : Nat.ble 1 d = true) (hcat : Nat.ble (st.map fun v => v.category).sum 8 = true) (hd : decode cc pc = .ok (.invokespecial idx, 3)) (k : Go X w L (pc + 3) st) : Go X w L pc (.ref a :: st) := by
  have a1 := Nat.le_of_ble_eq_true hd1
  have a2 := Nat.le_of_ble_eq_true hcat
  obtain ⟨p, l, e, R, s, m, args, below, meth, cd, cells, slots, Q, D, tys, A⟩ := X; obtain ⟨hx, hb, hml, hown, -, hB, hK, -, -, ⟨hr1, hr2⟩, hr3, hr4⟩ := hX; intro H locs ls hP hD hS hl
  have e0 : (F0 m pc ls (.ref a :: st)).monitorRoom = 0 := rfl
  refine W.objInit hx hb hown (hB _ hl0) (hB _ zO_obj) (hB _ zD_obj) rfl hl.1 rfl hd (by omega) (by rw [e0]; omega) ?_
  exact k H locs ls hP hD hS hl
theorem g_putR {C : String} {T : u_T} {N ci idx a mc ms sz : Nat} {fs : List Value} {w0 : va_W} {Post : va_W → Prop} {ty : FieldType} {k1 k2 : Nat} {X0 : zX} (hX0 : X = zUp X0 k1 k2) (hR : Rc X0 mc ms sz w0 Post) (ty0 : Nat → FieldType) (hty : ∀ k, k < N → parseFieldDescriptor (T k).2.2.1 = some (ty0 k)) (hnm : ∀ a, a < N → ∀ b, b < N → a ≠ b → (T a).2.1 ≠ (T b).2.1) (hX : Ok X own cc n d c) (hin : ∀ q ∈ u_ws C T N, q ∈ zB) (k : Nat) (hk : Nat.blt k N = true) (hlink : Cond.fieldLink own idx (T k).1 (T k).2.1 (T k).2.2.1 ∈ zB) (hc : zCl[ci]? = some (C, T, N)) (hfin : (T k).2.2.2 = true) (hdecl : (T k).1 = own) (hdp : ty0 k = ty) {v : Value} (hn : narrow ty v = v) (hfit : fits ty v = true) (q0 : Nat) (he : w[q0]? = some (a, .inr (ci, fs))) (hl0 : Nat.blt k fs.length = true) (hw : w.set q0 (a, .inr (ci, fs.set k v)) = w') (hd : decode cc pc = .ok (.putfield idx, 3)) (kk : Go X w' L (pc + 3) st) : Go X w L pc (v :: .ref a :: st) := by
  subst hX0
  obtain ⟨p, l, e, R, s, m, args, below, meth, cd, cells, slots, Q, D, tys, A⟩ := X0; obtain ⟨hx, hb, -, hown, -, hB, hK, -⟩ := hX; obtain ⟨-, hin2, -⟩ := hR; intro H locs ls hP hD hS hl
  subst hw
  exact va_putF (D := D) (cl := zCl) hx hb hB hin ty0 hty hnm hown hK hP hD hS q0 he hc k (Nat.le_of_ble_eq_true hk) (hB _ hlink) (fun _ h9 => h9) hfin hin2 hdecl ((hty k (Nat.le_of_ble_eq_true hk)).trans (congrArg some hdp)) hn hfit (Nat.le_of_ble_eq_true hl0) hd (fun H1 locs1 hP1 hD1 hS1 => kk H1 locs1 ls hP1 hD1 hS1 hl)
theorem g_cret {mc ms sz : Nat} {w0 : va_W} {Post : va_W → Prop} {X0 : zX} (hX0 : X = zUp X0 mc ms) (hR : Rc X0 mc ms sz w0 Post) (hX : Ok X own cc n d c) (hPo : Post w) (hd : decode cc pc = .ok (.return_, 1)) : Go X w L pc [] := by
  subst hX0
  obtain ⟨p, l, e, R, s, m, args, below, meth, cd, cells, slots, Q, D, tys, A⟩ := X0; obtain ⟨hx, hb, -, -, hlk, -⟩ := hX; obtain ⟨hr, -, hc0, hs0, hAe, hQ⟩ := hR; intro H locs ls hP hD hS hl
  subst hQ; subst hAe; subst hc0; subst hs0
  have e1 : 0 + mc = mc := Nat.zero_add mc
  have e2 : 0 + ms = ms := Nat.zero_add ms
  show W p l e R s m args below meth cd H locs (0 + mc) (0 + ms) _ _
  rw [e1, e2]
  exact W.vret hx hb hr (fun t ht hW => ⟨⟨rfl, w, hPo, by rw [ht]; exact hP, hD⟩, hS.F ht⟩) hS.2.2 hd hlk
theorem g_ctor {y : MethodName} {bytes : ByteArray} {maxL dc ny idx a mc ms : Nat} {As : List Value} {wc w1 w2 : va_W} {Post : va_W → Prop} (hX : Oc X own cc n d c K N0) (hO : zOv X) (hy : zCal y bytes maxL none ny) (hi : y.name = "<init>") (hl0 : Cond.methodLink own idx y ∈ zB) (hM : KC y bytes maxL dc mc ms c (.ref a :: As) wc Post) (hst : st0 = As.reverse ++ .ref a :: st) (hdc : Nat.ble (dc + 1) d = true) (hmx : Nat.ble maxL 22 = true) (hn : As.length = ny) (hw : w = w1 ++ (wc ++ w2)) (hcat : Nat.ble (st.map fun v => v.category).sum 8 = true) (hK : Nat.ble mc K = true) (hN : Nat.ble ms N0 = true) (hd : decode cc pc = .ok (.invokespecial idx, 3)) (k : ∀ w', Post w' → Go (zUp X mc ms) (w1 ++ (w' ++ w2)) L (pc + 3) st) : Go X w L pc st0 := by
  subst hst
  have b1 := Nat.le_of_ble_eq_true hK
  have b2 := Nat.le_of_ble_eq_true hN
  have g1 := Nat.le_of_ble_eq_true hdc
  have g2 := Nat.le_of_ble_eq_true hmx
  have g3 := Nat.le_of_ble_eq_true hcat
  obtain ⟨p, l, e, R, s, m, args, below, meth, cd, cells, slots, Q, D, tys, A⟩ := X; obtain ⟨⟨hx, hb, hml, hown, -, hB, hKK, hNN, ht, ⟨hr1, hr2⟩, hr3, hr4⟩, u1, u2, hA⟩ := hX; intro H locs ls hP hD hS hl
  obtain ⟨h1, h2, h3, h4, h5, h6⟩ := hy
  have hro : (zRc dc mc ms).frames + 1 ≤ R.frames ∧ 8 + (maxL + 11) + (zRc dc mc ms).locals ≤ R.locals := ⟨Nat.le_trans g1 hr1, by show 8 + (maxL + 11) + 41 * dc ≤ _; omega⟩
  subst hw
  have hF : ∀ q, va_A wc H.size q → A q := by
    intro q h
    rcases h with ⟨j, e9, h⟩ | h
    · exact zAsub hD q ⟨j, e9, h⟩
    · exact hA q (Nat.le_trans hS.1 h)
  have blind : FrameBlind (va_Pc (.ref a :: As) (fun U => U.heap.size = H.size ∧ va_AO "EncounterLedger$State" U ∧ zP D c wc U)) := fun a9 U g mk h => ⟨h.1, h.2.1, va_AO.moved (u := U) (U := U.calling g mk a9) (Vm.Alike.refl U.vm) h.2.2.1, h.2.2.2.1, va_K.moved (u := U) (U := U.calling g mk a9) (Vm.Alike.refl U.vm) h.2.2.2.2.1, zNW.same (u := U) (U := U.calling g mk a9) rfl h.2.2.2.2.2.1, h.2.2.2.2.2.2⟩
  have hr := va_runI (l := l) (p := p) (e := e) (R := R) (below := below) (locs := locs) (cells := cells) (slots := slots) (H := H) (meth := meth) (As := As) (b := a) (rest := st) (g := F0 m pc ls (As.reverse ++ .ref a :: st)) ⟨hx, hb, hml, hown, hB⟩ (hM l D H.size) ⟨callB_of ny hB (zGood y h3) rfl rfl rfl (hB _ h2) (hB _ hl0) ⟨h4, h5, h6⟩ hro, hi, hB _ h1⟩ ⟨blind, fun U hU hW => ⟨rfl, by rw [hU], va_AO.moved hW.alike hO, by rw [hU]; exact zSubP hP, by rw [← ht]; exact va_K.moved hW.alike hKK, zNW.warm hW hNN, zSubD hD⟩⟩ rfl hn (hl.1.trans hml) rfl (lv_room g3) hd ⟨by omega, by omega⟩
  intro T hT X9
  obtain ⟨v, st₀, t, T', L9, h0, X', hL, e1, e2, ⟨⟨hv, w', hPo, hP1, hD1⟩, hz, hk⟩, hgo⟩ := hr T hT X9
  cases hv
  rw [h0] at hz hk
  obtain ⟨hP2, hD2⟩ := zJoinC hP hD hk hP1 hD1 hF
  have hS2 : va_S A s.heap T'.heap (locs ++ L9) := ⟨Nat.le_trans hS.1 (by rw [e1]; exact hz), fun q k1 k2 => by rw [e1, hk q (Nat.lt_of_lt_of_le k1 hS.1) (fun z => k2 (hF q z))]; exact hS.2.1 q k1 k2, fun q hq => by
      rcases List.mem_append.mp hq with h | h
      · exact hS.2.2 q h
      · exact hF _ (hL q h)⟩
  obtain ⟨t2, a1, b9⟩ := k w' hPo T'.heap (locs ++ L9) ls (by rw [e1]; exact hP2) hD2 hS2 hl T' rfl X'
  exact ⟨t2, hgo t2 a1, b9⟩
end GCON
theorem zUp_0 {X : zX} {w : va_W} {L : List (Nat × Value)} {pc : Nat} {st : List Value} (k : Go (zUp X 0 0) w L pc st) : Go X w L pc st := by
  obtain ⟨p, l, e, R, s, m, args, below, meth, cd, cells, slots, Q, D, tys, A⟩ := X
  exact k
theorem Oc.up0 {X : zX} {own : String} {cc : ByteArray} {n d : Nat} {c : zY} {K N : Nat} (h : Oc X own cc n d c K N) : Oc (zUp X 0 0) own cc n d c K N := by
  obtain ⟨p, l, e, R, s, m, args, below, meth, cd, cells, slots, Q, D, tys, A⟩ := X
  exact h
theorem zOv.up {X : zX} {k n : Nat} (h : zOv X) : zOv (zUp X k n) := by
  obtain ⟨p, l, e, R, s, m, args, below, meth, cd, cells, slots, Q, D, tys, A⟩ := X
  exact h
theorem zpc {α : Type} {u v : List α} (h : ∀ (i : BEq α) (j : LawfulBEq α) (a : α), u.count a = v.count a) : u.Perm v := by
  have i1 : DecidableEq α := fun a b => Classical.propDecidable (a = b)
  exact List.perm_iff_count.mpr (fun a => h _ inferInstance a)
section GCF
variable {X : zX} {own : String} {cc : ByteArray} {n d K N0 k0 n0 : Nat} {c : zY} {w w' : va_W} {L L' : List (Nat × Value)} {pc : Nat} {st st0 : List Value}
theorem g_newF {C : String} {T : u_T} {N ci idx : Nat} (hX : Oc (zUp X k0 n0) own cc n d c K N0) (hin : ∀ q ∈ u_ws C T N, q ∈ zB) (ty : Nat → FieldType) (hty : ∀ k, k < N → parseFieldDescriptor (T k).2.2.1 = some (ty k)) (hcl : Cond.classLink own idx C ∈ zB) (hins : Cond.instantiable C N ∈ zB) (hini : Cond.initialized C ∈ zB) (hc : zCl[ci]? = some (C, T, N)) {fs : List Value} (hfs : ((List.range N).all fun j => decide (defaultValue (ty j) = vp_V fs j)) = true) (hK : Nat.ble 1 K = true) (hN : Nat.ble N N0 = true) (hd : decode cc pc = .ok (.new idx, 3)) (k1 n1 : Nat) (h1 : k0 + 1 = k1) (h2 : n0 + N = n1) (kk : ∀ q : Nat, Go (zUp X k1 n1) ((q, .inr (ci, fs)) :: w) L (pc + 3) (.ref q :: st)) : Go (zUp X k0 n0) w L pc st := by
  subst h1; subst h2
  exact g_new hX hin ty hty hcl hins hini hc hfs hK hN hd (fun q => by rw [zUp_up]; exact zperm (List.perm_append_singleton _ _) (kk q))
theorem g_newIF {z : Int32} (hX : Oc (zUp X k0 n0) own cc n d c K N0) (N : Nat) (hz : ¬ z < 0) (hzN : z.toNatClampNeg = N) (hbig : Nat.ble N 1000000 = true) (hK : Nat.ble 1 K = true) (hN : Nat.ble N N0 = true) (hd : decode cc pc = .ok (.newarray .int, 2)) (k1 n1 : Nat) (h1 : k0 + 1 = k1) (h2 : n0 + N = n1) (kk : ∀ q : Nat, Go (zUp X k1 n1) ((q, .inl (c.1, N, .inl (fun _ => 0))) :: w) L (pc + 2) (.ref q :: st)) : Go (zUp X k0 n0) w L pc (.int z :: st) := by
  subst h1; subst h2
  exact g_newI hX N hz hzN hbig hK hN hd (fun q => by rw [zUp_up]; exact zperm (List.perm_append_singleton _ _) (kk q))
theorem g_newZF {z : Int32} (hX : Oc (zUp X k0 n0) own cc n d c K N0) (N : Nat) (hz : ¬ z < 0) (hzN : z.toNatClampNeg = N) (hbig : Nat.ble N 1000000 = true) (hK : Nat.ble 1 K = true) (hN : Nat.ble N N0 = true) (hd : decode cc pc = .ok (.newarray .boolean, 2)) (k1 n1 : Nat) (h1 : k0 + 1 = k1) (h2 : n0 + N = n1) (kk : ∀ q : Nat, Go (zUp X k1 n1) ((q, .inl (c.2.1, N, .inl (fun _ => 0))) :: w) L (pc + 2) (.ref q :: st)) : Go (zUp X k0 n0) w L pc (.int z :: st) := by
  subst h1; subst h2
  exact g_newZ hX N hz hzN hbig hK hN hd (fun q => by rw [zUp_up]; exact zperm (List.perm_append_singleton _ _) (kk q))
theorem g_newSF {z : Int32} {idx : Nat} (hX : Oc (zUp X k0 n0) own cc n d c K N0) (hO : zOv X) (N : Nat) (hz : ¬ z < 0) (hzN : z.toNatClampNeg = N) (hbig : Nat.ble N 1000000 = true) (hcl : Cond.classLink own idx "EncounterLedger$State" ∈ zB) (hK : Nat.ble 1 K = true) (hN : Nat.ble N N0 = true) (hd : decode cc pc = .ok (.anewarray idx, 3)) (k1 n1 : Nat) (h1 : k0 + 1 = k1) (h2 : n0 + N = n1) (kk : ∀ q : Nat, Go (zUp X k1 n1) ((q, .inl (c.2.2, N, .inr (.inr (.inr (.inr (fun _ => none)))))) :: w) L (pc + 3) (.ref q :: st)) : Go (zUp X k0 n0) w L pc (.int z :: st) := by
  subst h1; subst h2
  exact g_newS hX hO.up N hz hzN hbig hcl hK hN hd (fun q => by rw [zUp_up]; exact zperm (List.perm_append_singleton _ _) (kk q))
/-- fewer cells, in another order -/
theorem g_sub (ip : List Nat) (hn : va_nd ip = true) (hs : ip.map (fun i => w[i]?) = w'.map some) (k : Go X w' L pc st) : Go X w L pc st := by
  obtain ⟨p, l, e, R, s, m, args, below, meth, cd, cells, slots, Q, D, tys, A⟩ := X
  intro H locs ls hP hD hS hl
  refine k H locs ls (fun j q hj => ?_) (hD.sub ip hn hs) hS hl
  have h1 : (ip.map (fun i => w[i]?))[j]? = some (some q) := by rw [hs, List.getElem?_map, hj]; rfl
  rw [List.getElem?_map] at h1
  cases hi : ip[j]? with
  | none => rw [hi] at h1; cases h1
  | some i => rw [hi] at h1; exact hP i q (Option.some.inj h1)
theorem g_ctorF {y : MethodName} {bytes : ByteArray} {maxL dc ny idx a mc ms : Nat} {As : List Value} {wc w2 : va_W} {Post : va_W → Prop} (hX : Oc (zUp X k0 n0) own cc n d c K N0) (hO : zOv X) (hy : zCal y bytes maxL none ny) (hi : y.name = "<init>") (hl0 : Cond.methodLink own idx y ∈ zB) (hM : KC y bytes maxL dc mc ms c (.ref a :: As) wc Post) (hst : st0 = As.reverse ++ .ref a :: st) (hdc : Nat.ble (dc + 1) d = true) (hmx : Nat.ble maxL 22 = true) (hn : As.length = ny) (hw : w = wc ++ w2) (hcat : Nat.ble (st.map fun v => v.category).sum 8 = true) (hK : Nat.ble mc K = true) (hN : Nat.ble ms N0 = true) (hd : decode cc pc = .ok (.invokespecial idx, 3)) (k1 n1 : Nat) (h1 : k0 + mc = k1) (h2 : n0 + ms = n1) (k : ∀ w', Post w' → Go (zUp X k1 n1) (w' ++ w2) L (pc + 3) st) : Go (zUp X k0 n0) w L pc st0 := by
  subst h1; subst h2
  exact g_ctor (w1 := []) hX hO.up hy hi hl0 hM hst hdc hmx hn hw hcat hK hN hd (fun w' hp => by rw [zUp_up]; exact k w' hp)
theorem g_ctorN {y : MethodName} {bytes : ByteArray} {maxL dc ny idx a mc ms : Nat} {As : List Value} {wc w2 : va_W} {Post : va_W → Prop} {host : String} (hX : Oc (zUp X k0 n0) own cc n d c K N0) (hO : zOv X) (hy : zCal y bytes maxL none ny) (hi : y.name = "<init>") (hl0 : (own, idx, y, host) ∈ zNm) (hM : KC y bytes maxL dc mc ms c (.ref a :: As) wc Post) (hst : st0 = As.reverse ++ .ref a :: st) (hdc : Nat.ble (dc + 1) d = true) (hmx : Nat.ble maxL 22 = true) (hn : As.length = ny) (hw : w = wc ++ w2) (hcat : Nat.ble (st.map fun v => v.category).sum 8 = true) (hK : Nat.ble mc K = true) (hN : Nat.ble ms N0 = true) (hd : decode cc pc = .ok (.invokespecial idx, 3)) (k1 n1 : Nat) (h1 : k0 + mc = k1) (h2 : n0 + ms = n1) (k : ∀ w', Post w' → Go (zUp X k1 n1) (w' ++ w2) L (pc + 3) st) : Go (zUp X k0 n0) w L pc st0 := by
  subst h1; subst h2; subst hst
  have b1 := Nat.le_of_ble_eq_true hK
  have b2 := Nat.le_of_ble_eq_true hN
  have g1 := Nat.le_of_ble_eq_true hdc
  have g2 := Nat.le_of_ble_eq_true hmx
  have g3 := Nat.le_of_ble_eq_true hcat
  have k' : ∀ w', Post w' → Go (zUp (zUp X k0 n0) mc ms) (w' ++ w2) L (pc + 3) st := fun w' hp => by rw [zUp_up]; exact k w' hp
  clear k
  obtain ⟨p, l, e, R, s, m, args, below, meth, cd, cells, slots, Q, D, tys, A⟩ := X; obtain ⟨⟨hx, hb, hml, hown, -, hB, hKK, hNN, ht, ⟨hr1, hr2⟩, hr3, hr4⟩, u1, u2, hA⟩ := hX; intro H locs ls hP hD hS hl
  obtain ⟨h1, h2, h3, h4, h5, h6⟩ := hy
  have hro : (zRc dc mc ms).frames + 1 ≤ R.frames ∧ 8 + (maxL + 11) + (zRc dc mc ms).locals ≤ R.locals := ⟨Nat.le_trans g1 hr1, by show 8 + (maxL + 11) + 41 * dc ≤ _; omega⟩
  subst hw
  have hP0 : va_P D zCl ([] ++ (wc ++ w2)) H := hP
  have hD0 : va_D A ([] ++ (wc ++ w2)) := hD
  have hF : ∀ q, va_A wc H.size q → A q := by
    intro q h
    rcases h with ⟨j, e9, h⟩ | h
    · exact zAsub hD0 q ⟨j, e9, h⟩
    · exact hA q (Nat.le_trans hS.1 h)
  have blind : FrameBlind (va_Pc (.ref a :: As) (fun U => U.heap.size = H.size ∧ va_AO "EncounterLedger$State" U ∧ zP D c wc U)) := fun a9 U g mk h => ⟨h.1, h.2.1, va_AO.moved (u := U) (U := U.calling g mk a9) (Vm.Alike.refl U.vm) h.2.2.1, h.2.2.2.1, va_K.moved (u := U) (U := U.calling g mk a9) (Vm.Alike.refl U.vm) h.2.2.2.2.1, zNW.same (u := U) (U := U.calling g mk a9) rfl h.2.2.2.2.2.1, h.2.2.2.2.2.2⟩
  have hr := va_runIN (l := l) (p := p) (e := e) (R := R) (below := below) (locs := locs) (cells := cells + k0) (slots := slots + n0) (H := H) (meth := meth) (As := As) (b := a) (rest := st) (host := host) (g := F0 m pc ls (As.reverse ++ .ref a :: st)) ⟨hx, hb, hml, hown, hB⟩ (hM l D H.size) ⟨va_cnB ny hB (zGood y h3) rfl rfl rfl (hNN.2 _ hl0) (hB _ h2) ⟨h4, h5, h6⟩ hro, hi, hB _ h1⟩ ⟨blind, fun U hU hW => ⟨rfl, by rw [hU], va_AO.moved hW.alike hO, by rw [hU]; exact zSubP hP0, by rw [← ht]; exact va_K.moved hW.alike hKK, zNW.warm hW hNN, zSubD hD0⟩⟩ rfl hn (hl.1.trans hml) rfl (lv_room g3) hd ⟨by omega, by omega⟩
  intro T hT X9
  obtain ⟨v, st₀, t, T', L9, h0, X', hL, e1, e2, ⟨⟨hv, w', hPo, hP1, hD1⟩, hz, hk⟩, hgo⟩ := hr T hT X9
  cases hv
  rw [h0] at hz hk
  obtain ⟨hP2, hD2⟩ := zJoinC hP0 hD0 hk hP1 hD1 hF
  have hS2 : va_S A s.heap T'.heap (locs ++ L9) := ⟨Nat.le_trans hS.1 (by rw [e1]; exact hz), fun q k1 k2 => by rw [e1, hk q (Nat.lt_of_lt_of_le k1 hS.1) (fun z => k2 (hF q z))]; exact hS.2.1 q k1 k2, fun q hq => by
      rcases List.mem_append.mp hq with h | h
      · exact hS.2.2 q h
      · exact hF _ (hL q h)⟩
  obtain ⟨t2, a1, b9⟩ := k' w' hPo T'.heap (locs ++ L9) ls (by rw [e1]; exact hP2) hD2 hS2 hl T' rfl X'
  exact ⟨t2, hgo t2 a1, b9⟩
end GCF
/-- a new state -/
def zf0 : Nat → Int32 := fun _ => 0
def zs0 : zsS := (((((zf0, 0), (zf0, 0), zf0), (zf0, 0), zf0), (zf0, 0), zf0), (zf0, 100), (zf0, 4), 0)
def zk0 : zsK := ((fun _ => zs0), 0, 0)
def zx0 : zsX := ((zf0, zf0, 0, 0), 0, -5, (zf0, zf0, 0), zs0, zk0, zs0)
def zm0 : zsM := (upd zf0 12 (-5), (fun _ => zf0))
