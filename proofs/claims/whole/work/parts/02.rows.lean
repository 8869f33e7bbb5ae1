/-! the judgement Go: the machine at a pc, over a world, listed locals and a stack; one row an instruction -/
abbrev zY : Type := ClassId × ClassId × ClassId
def zTy (y : zY) : List (ClassId × FieldType) := [(y.1, .int), (y.2.1, .boolean), (y.2.2, .object "EncounterLedger$State")]
def zNW (U : State) : Prop := (∀ q ∈ zNf, va_Nw (.fieldLinkNest q.1 q.2.1 q.2.2.1 q.2.2.2.1 q.2.2.2.2.1 q.2.2.2.2.2) U) ∧ ∀ q ∈ zNm, va_Nw (.methodLinkNest q.1 q.2.1 q.2.2.1 q.2.2.2) U
theorem zNW.warm {s U : State} (hW : s.WarmedH U.vm) (h : zNW s) : zNW U := ⟨fun q hq => va_Nw.warmF hW (h.1 q hq), fun q hq => va_Nw.warmM hW (h.2 q hq)⟩
theorem zNW.same {u U : State} (hv : u.vm = U.vm) (h : zNW u) : zNW U := ⟨fun q hq => va_Nw.same rfl hv (h.1 q hq), fun q hq => va_Nw.same rfl hv (h.2 q hq)⟩
theorem zNW.of {args : Array Value} {s : State} (h : ∀ w ∈ lw_tbl, w.before args s = true) : zNW s := ⟨fun q hq => va_Nw.of rfl (h _ (zNf_in q hq)), fun q hq => va_Nw.of rfl (h _ (zNm_in q hq))⟩
def zRm (d : Nat) : Room := { frames := d, cells := 0, slots := 0, locals := 41 * d }
/-- which cells a world has -/
def zA (w : va_W) : Nat → Prop := fun a => ∃ (k : Nat) (e : va_E), w[k]? = some (a, e)
def zQ (D : va_G) (r : Option Value) (w' : va_W) (A : Nat → Prop) : Array Value → State → Outcome → State → Prop := fun _ st o t => (o = .returned r ∧ va_P D zCl w' t.heap) ∧ va_F A st t
def zP (D : va_G) (y : zY) (w : va_W) (U : State) : Prop := va_P D zCl w U.heap ∧ va_K D zCl (zTy y) U ∧ zNW U ∧ va_D (fun _ => True) w
/-- a method's contract: from the world w with the arguments av it returns r, with the world w' -/
def KM (y : MethodName) (bytes : ByteArray) (maxL : Nat) (ret : Option FieldType) (d : Nat) (c : zY) (av : List Value) (w w' : va_W) (r : Option Value) : Prop :=
  w'.map Prod.fst = w.map Prod.fst ∧ ∀ (l : Launch) (D : va_G), Met l y (Cond.code y bytes maxL ret :: zB) (zRm d) (va_Pc av (zP D c w)) (zQ D r w' (zA w)) 0 0 (zA w)
abbrev zX : Type := Program × Launch × Env × Room × State × MethodId × Array Value × List Frame × Method × Code × Nat × Nat × (State → Prop) × va_G × List (ClassId × FieldType) × (Nat → Prop)
def Go : zX → va_W → List (Nat × Value) → Nat → List Value → Prop
  | (p, l, e, R, s, m, args, below, meth, c, cells, slots, Q, D, _, A), w, L, pc, st => ∀ (H : Heap) (locs : List Loc) (ls : Array Slot), va_P D zCl w H → va_D A w → va_S A s.heap H locs → lv_has ls c.maxLocals L → W p l e R s m args below meth c H locs cells slots Q (F0 m pc ls st)
def Ok : zX → String → ByteArray → Nat → Nat → zY → Prop
  | (p, _, _, R, s, m, args, _, meth, c, cells, slots, _, D, tys, _), own, cc, n, d, y => p.tables.exec = Jvm.exec ∧ c.code = cc ∧ c.maxLocals = n ∧ s.vm.findClass own = some m.cls ∧ meth.locks = false ∧ (∀ w ∈ zB, w.before args s = true) ∧ va_K D zCl tys s ∧ zNW s ∧ tys = zTy y ∧ (d ≤ R.frames ∧ 41 * d ≤ R.locals) ∧ cells ≤ R.cells ∧ slots ≤ R.slots
def Rt : zX → Option FieldType → Option Value → va_W → Prop
  | (_, _, _, _, s, _, args, below, meth, _, cells, slots, Q, D, _, A), ret, r, w' => meth.sig.returnType = ret ∧ Q = MQ below (zQ D r w' A) args s cells slots A
theorem zD_fst {A : Nat → Prop} {w w' : va_W} (h : w'.map Prod.fst = w.map Prod.fst) (hD : va_D A w) : va_D A w' := by
  have key : ∀ (k : Nat) (q : Nat × va_E), w'[k]? = some q → ∃ q0, w[k]? = some q0 ∧ q0.1 = q.1 := by
    intro k q hk
    have h1 : (w'.map Prod.fst)[k]? = some q.1 := by rw [List.getElem?_map, hk]; rfl
    rw [h, List.getElem?_map] at h1
    cases hz : w[k]? with
    | none => rw [hz] at h1; cases h1
    | some q0 => rw [hz] at h1; exact ⟨q0, rfl, Option.some.inj h1⟩
  refine ⟨fun i j x y hi hj hxy => ?_, fun k q hk => ?_⟩
  · obtain ⟨x0, h1, h2⟩ := key i x hi
    obtain ⟨y0, h3, h4⟩ := key j y hj
    exact hD.1 i j x0 y0 h1 h3 (h2.trans (hxy.trans h4.symm))
  · obtain ⟨q0, h1, h2⟩ := key k q hk
    rw [← h2]; exact hD.2 k q0 h1
theorem zK_of {y : MethodName} {own : String} {bytes : ByteArray} {maxL : Nat} {ret : Option FieldType} {d : Nat} {c : zY} {av : List Value} {w w' : va_W} {r : Option Value} (hp : plainName y.cls = true) (ho : y.cls = own) (hl : (lg_sl av).length ≤ maxL) (hw : w'.map Prod.fst = w.map Prod.fst)
    (body : ∀ X : zX, Ok X own bytes maxL d c → Rt X ret r w' → Go X w (lv_args 0 av) 0 []) : KM y bytes maxL ret d c av w w' r := by
  refine ⟨hw, fun l D => Met.ofW (cc := bytes) (maxL := maxL) (ret := ret) hp rfl ?_⟩
  intro p e s m args below meth cd s₁ B hml hv
  obtain ⟨rfl, hP, hK, hN, hD0⟩ := hv
  have hts := atoms_spec (ws := Cond.code y bytes maxL ret :: zB) B.pre
  have hown : s.vm.findClass own = some m.cls := ho ▸ findClass_of_methodNamed B.named
  have key := body (p, l, e, (headSpec (Cond.code y bytes maxL ret :: zB) (zRm d)).room, s, m, av.toArray, below, meth, cd, 0, 0, MQ below (zQ D r w' (zA w)) av.toArray s 0 0 (zA w), D, zTy c, zA w)
    ⟨B.exec, B.bytes, hml, hown, B.notSynchronized, fun q hq => hts q (List.mem_cons_of_mem _ hq), hK, hN, rfl, ⟨Nat.le_refl _, Nat.le_refl _⟩, Nat.zero_le _, Nat.zero_le _⟩ ⟨B.returns, rfl⟩
  rw [lg_entry_eq]
  refine key s.heap [] _ hP ⟨hD0.1, fun k q hk => ⟨k, q.2, hk⟩⟩ va_S.rf ?_
  rw [hml]
  exact lv_entry av hl
section GROWS
variable {X : zX} {own : String} {cc : ByteArray} {n d : Nat} {c : zY} {w w' : va_W} {L L' : List (Nat × Value)} {pc : Nat} {st : List Value} {α : Type} {o : α} {K K2 : Option α}
theorem g_iconst {i : Int} {v : Int32} (hX : Ok X own cc n d c) (hd : decode cc pc = .ok (.iconst i, 1)) (hv : Int32.ofInt i = v) (k : Go X w L (pc + 1) (.int v :: st)) : Go X w L pc st := by
  obtain ⟨p, l, e, R, s, m, args, below, meth, cd, cells, slots, Q, D, tys, A⟩ := X; obtain ⟨hx, hb, -⟩ := hX; intro H locs ls hP hD hS hl
  exact lv_iconst hx hb hd hv (k H locs ls hP hD hS hl)
theorem g_bipush {i : Int} {v : Int32} (hX : Ok X own cc n d c) (hd : decode cc pc = .ok (.bipush i, 2)) (hv : (Int8.ofInt i).toInt32 = v) (k : Go X w L (pc + 2) (.int v :: st)) : Go X w L pc st := by
  obtain ⟨p, l, e, R, s, m, args, below, meth, cd, cells, slots, Q, D, tys, A⟩ := X; obtain ⟨hx, hb, -⟩ := hX; intro H locs ls hP hD hS hl
  exact lv_bipush hx hb hd hv (k H locs ls hP hD hS hl)
theorem g_sipush {i : Int} {v : Int32} (hX : Ok X own cc n d c) (hd : decode cc pc = .ok (.sipush i, 3)) (hv : (Int16.ofInt i).toInt32 = v) (k : Go X w L (pc + 3) (.int v :: st)) : Go X w L pc st := by
  obtain ⟨p, l, e, R, s, m, args, below, meth, cd, cells, slots, Q, D, tys, A⟩ := X; obtain ⟨hx, hb, -⟩ := hX; intro H locs ls hP hD hS hl
  exact lv_sipush hx hb hd hv (k H locs ls hP hD hS hl)
theorem g_ldc {i : Nat} {v : Int32} (hX : Ok X own cc n d c) (hd : decode cc pc = .ok (.ldc i, 2)) (hv : Cond.constant own i v ∈ zB) (k : Go X w L (pc + 2) (.int v :: st)) : Go X w L pc st := by
  obtain ⟨p, l, e, R, s, m, args, below, meth, cd, cells, slots, Q, D, tys, A⟩ := X; obtain ⟨hx, hb, -, hown, -, hB, -⟩ := hX; intro H locs ls hP hD hS hl
  exact lv_ldc hx hb hown (hB _ hv) hd (k H locs ls hP hD hS hl)
theorem g_iload_n {j : Fin 4} {i : Nat} {x : Int32} (hX : Ok X own cc n d c) (hd : decode cc pc = .ok (.iload_n j, 1)) (hi : (j : Nat) = i) (q : Nat) (hq : L[q]? = some (i, .int x)) (k : Go X w L (pc + 1) (.int x :: st)) : Go X w L pc st := by
  obtain ⟨p, l, e, R, s, m, args, below, meth, cd, cells, slots, Q, D, tys, A⟩ := X; obtain ⟨hx, hb, -⟩ := hX; intro H locs ls hP hD hS hl
  exact lv_iload_n hx hb hd hi (lv_at hl q hq) (k H locs ls hP hD hS hl)
theorem g_iload {i : Nat} {x : Int32} (hX : Ok X own cc n d c) (hd : decode cc pc = .ok (.iload i, 2)) (q : Nat) (hq : L[q]? = some (i, .int x)) (k : Go X w L (pc + 2) (.int x :: st)) : Go X w L pc st := by
  obtain ⟨p, l, e, R, s, m, args, below, meth, cd, cells, slots, Q, D, tys, A⟩ := X; obtain ⟨hx, hb, -⟩ := hX; intro H locs ls hP hD hS hl
  exact lv_iload hx hb hd (lv_at hl q hq) (k H locs ls hP hD hS hl)
theorem g_aload_n {j : Fin 4} {i a : Nat} (hX : Ok X own cc n d c) (hd : decode cc pc = .ok (.aload_n j, 1)) (hi : (j : Nat) = i) (q : Nat) (hq : L[q]? = some (i, .ref a)) (k : Go X w L (pc + 1) (.ref a :: st)) : Go X w L pc st := by
  obtain ⟨p, l, e, R, s, m, args, below, meth, cd, cells, slots, Q, D, tys, A⟩ := X; obtain ⟨hx, hb, -⟩ := hX; intro H locs ls hP hD hS hl
  exact lv_aload_n hx hb hd hi (lv_at hl q hq) (k H locs ls hP hD hS hl)
theorem g_aload {i a : Nat} (hX : Ok X own cc n d c) (hd : decode cc pc = .ok (.aload i, 2)) (q : Nat) (hq : L[q]? = some (i, .ref a)) (k : Go X w L (pc + 2) (.ref a :: st)) : Go X w L pc st := by
  obtain ⟨p, l, e, R, s, m, args, below, meth, cd, cells, slots, Q, D, tys, A⟩ := X; obtain ⟨hx, hb, -⟩ := hX; intro H locs ls hP hD hS hl
  exact lv_aload hx hb hd (lv_at hl q hq) (k H locs ls hP hD hS hl)
theorem g_istore_n {j : Fin 4} {i : Nat} {x : Int32} (hX : Ok X own cc n d c) (hd : decode cc pc = .ok (.istore_n j, 1)) (hi : (j : Nat) = i) (hn : Nat.blt i n = true) (hL : (i, Value.int x) :: L.filter (fun q => !(q.1 == i) && !(q.1 + 1 == i && q.2.category == 2)) = L') (k : Go X w L' (pc + 1) st) : Go X w L pc (.int x :: st) := by
  obtain ⟨p, l, e, R, s, m, args, below, meth, cd, cells, slots, Q, D, tys, A⟩ := X; obtain ⟨hx, hb, hml, -⟩ := hX; intro H locs ls hP hD hS hl
  exact lv_istore_n hx hb hd hi hl (by rw [hml]; exact Nat.le_of_ble_eq_true hn) hL (fun ls' hl' => k H locs ls' hP hD hS hl')
theorem g_istore {i : Nat} {x : Int32} (hX : Ok X own cc n d c) (hd : decode cc pc = .ok (.istore i, 2)) (hn : Nat.blt i n = true) (hL : (i, Value.int x) :: L.filter (fun q => !(q.1 == i) && !(q.1 + 1 == i && q.2.category == 2)) = L') (k : Go X w L' (pc + 2) st) : Go X w L pc (.int x :: st) := by
  obtain ⟨p, l, e, R, s, m, args, below, meth, cd, cells, slots, Q, D, tys, A⟩ := X; obtain ⟨hx, hb, hml, -⟩ := hX; intro H locs ls hP hD hS hl
  exact lv_istore hx hb hd hl (by rw [hml]; exact Nat.le_of_ble_eq_true hn) hL (fun ls' hl' => k H locs ls' hP hD hS hl')
theorem g_astore_n {j : Fin 4} {i a : Nat} (hX : Ok X own cc n d c) (hd : decode cc pc = .ok (.astore_n j, 1)) (hi : (j : Nat) = i) (hn : Nat.blt i n = true) (hL : (i, Value.ref a) :: L.filter (fun q => !(q.1 == i) && !(q.1 + 1 == i && q.2.category == 2)) = L') (k : Go X w L' (pc + 1) st) : Go X w L pc (.ref a :: st) := by
  obtain ⟨p, l, e, R, s, m, args, below, meth, cd, cells, slots, Q, D, tys, A⟩ := X; obtain ⟨hx, hb, hml, -⟩ := hX; intro H locs ls hP hD hS hl
  exact lv_astore_n hx hb hd hi hl (by rw [hml]; exact Nat.le_of_ble_eq_true hn) hL (fun ls' hl' => k H locs ls' hP hD hS hl')
theorem g_iinc {i q : Nat} {z : Int} {x v : Int32} (hX : Ok X own cc n d c) (hd : decode cc pc = .ok (.iinc i z, 3)) (hq : L[q]? = some (i, .int x)) (hz : Int32.ofInt z = v) (hn : Nat.blt i n = true) (hL : (i, Value.int (x + v)) :: L.filter (fun q => !(q.1 == i) && !(q.1 + 1 == i && q.2.category == 2)) = L') (k : Go X w L' (pc + 3) st) : Go X w L pc st := by
  obtain ⟨p, l, e, R, s, m, args, below, meth, cd, cells, slots, Q, D, tys, A⟩ := X; obtain ⟨hx, hb, hml, -⟩ := hX; intro H locs ls hP hD hS hl
  exact lv_iinc hx hb hd hl hq (by rw [hz]) (by rw [hml]; exact Nat.le_of_ble_eq_true hn) hL (fun ls' hl' => k H locs ls' hP hD hS hl')
/-- the listed locals in another order, or fewer -/
theorem g_ls (ks : List Nat) (hL : lv_pick L ks = L') (k : Go X w L' pc st) : Go X w L pc st := by
  obtain ⟨p, l, e, R, s, m, args, below, meth, cd, cells, slots, Q, D, tys, A⟩ := X; intro H locs ls hP hD hS hl
  exact k H locs ls hP hD hS (lv_sub hl ks hL)
theorem g_iadd {x y : Int32} (hX : Ok X own cc n d c) (hd : decode cc pc = .ok (.iadd, 1)) (k : Go X w L (pc + 1) (.int (x + y) :: st)) : Go X w L pc (.int y :: .int x :: st) := by
  obtain ⟨p, l, e, R, s, m, args, below, meth, cd, cells, slots, Q, D, tys, A⟩ := X; obtain ⟨hx, hb, -⟩ := hX; intro H locs ls hP hD hS hl
  exact lv_iadd hx hb hd (k H locs ls hP hD hS hl)
theorem g_isub {x y : Int32} (hX : Ok X own cc n d c) (hd : decode cc pc = .ok (.isub, 1)) (k : Go X w L (pc + 1) (.int (x - y) :: st)) : Go X w L pc (.int y :: .int x :: st) := by
  obtain ⟨p, l, e, R, s, m, args, below, meth, cd, cells, slots, Q, D, tys, A⟩ := X; obtain ⟨hx, hb, -⟩ := hX; intro H locs ls hP hD hS hl
  exact lv_isub hx hb hd (k H locs ls hP hD hS hl)
theorem g_imul {x y : Int32} (hX : Ok X own cc n d c) (hd : decode cc pc = .ok (.imul, 1)) (k : Go X w L (pc + 1) (.int (x * y) :: st)) : Go X w L pc (.int y :: .int x :: st) := by
  obtain ⟨p, l, e, R, s, m, args, below, meth, cd, cells, slots, Q, D, tys, A⟩ := X; obtain ⟨hx, hb, -⟩ := hX; intro H locs ls hP hD hS hl
  exact lv_imul hx hb hd (k H locs ls hP hD hS hl)
theorem g_iand {x y : Int32} (hX : Ok X own cc n d c) (hd : decode cc pc = .ok (.iand, 1)) (k : Go X w L (pc + 1) (.int (x &&& y) :: st)) : Go X w L pc (.int y :: .int x :: st) := by
  obtain ⟨p, l, e, R, s, m, args, below, meth, cd, cells, slots, Q, D, tys, A⟩ := X; obtain ⟨hx, hb, -⟩ := hX; intro H locs ls hP hD hS hl
  exact lv_iand hx hb hd (k H locs ls hP hD hS hl)
theorem g_ior {x y : Int32} (hX : Ok X own cc n d c) (hd : decode cc pc = .ok (.ior, 1)) (k : Go X w L (pc + 1) (.int (x ||| y) :: st)) : Go X w L pc (.int y :: .int x :: st) := by
  obtain ⟨p, l, e, R, s, m, args, below, meth, cd, cells, slots, Q, D, tys, A⟩ := X; obtain ⟨hx, hb, -⟩ := hX; intro H locs ls hP hD hS hl
  exact lv_ior hx hb hd (k H locs ls hP hD hS hl)
theorem g_ishl {x y : Int32} (hX : Ok X own cc n d c) (hd : decode cc pc = .ok (.ishl, 1)) (k : Go X w L (pc + 1) (.int (x <<< (y &&& 31)) :: st)) : Go X w L pc (.int y :: .int x :: st) := by
  obtain ⟨p, l, e, R, s, m, args, below, meth, cd, cells, slots, Q, D, tys, A⟩ := X; obtain ⟨hx, hb, -⟩ := hX; intro H locs ls hP hD hS hl
  exact lv_ishl hx hb hd (k H locs ls hP hD hS hl)
theorem g_ishr {x y : Int32} (hX : Ok X own cc n d c) (hd : decode cc pc = .ok (.ishr, 1)) (k : Go X w L (pc + 1) (.int (x >>> (y &&& 31)) :: st)) : Go X w L pc (.int y :: .int x :: st) := by
  obtain ⟨p, l, e, R, s, m, args, below, meth, cd, cells, slots, Q, D, tys, A⟩ := X; obtain ⟨hx, hb, -⟩ := hX; intro H locs ls hP hD hS hl
  exact lv_ishr hx hb hd (k H locs ls hP hD hS hl)
def zush (x y : Int32) : Int32 := (x.toUInt32 >>> (y.toUInt32 &&& Int32.toUInt32 31)).toInt32
theorem g_iushr {x y : Int32} (hX : Ok X own cc n d c) (hd : decode cc pc = .ok (.iushr, 1)) (k : Go X w L (pc + 1) (.int (zush x y) :: st)) : Go X w L pc (.int y :: .int x :: st) := by
  obtain ⟨p, l, e, R, s, m, args, below, meth, cd, cells, slots, Q, D, tys, A⟩ := X; obtain ⟨hx, hb, -⟩ := hX; intro H locs ls hP hD hS hl
  exact lv_iushr hx hb hd rfl (k H locs ls hP hD hS hl)
theorem g_idiv {x y : Int32} (hX : Ok X own cc n d c) (hd : decode cc pc = .ok (.idiv, 1)) (hne : ¬ y = 0) (k : Go X w L (pc + 1) (.int (x / y) :: st)) : Go X w L pc (.int y :: .int x :: st) := by
  obtain ⟨p, l, e, R, s, m, args, below, meth, cd, cells, slots, Q, D, tys, A⟩ := X; obtain ⟨hx, hb, -⟩ := hX; intro H locs ls hP hD hS hl
  exact lv_idiv hx hb hd hne (k H locs ls hP hD hS hl)
def zrem (x y : Int32) : Int32 := x - x / y * y
theorem g_irem {x y : Int32} (hX : Ok X own cc n d c) (hd : decode cc pc = .ok (.irem, 1)) (hne : ¬ y = 0) (k : Go X w L (pc + 1) (.int (zrem x y) :: st)) : Go X w L pc (.int y :: .int x :: st) := by
  obtain ⟨p, l, e, R, s, m, args, below, meth, cd, cells, slots, Q, D, tys, A⟩ := X; obtain ⟨hx, hb, -⟩ := hX; intro H locs ls hP hD hS hl
  exact lv_irem hx hb hd hne (k H locs ls hP hD hS hl)
theorem g_dup {v : Value} (hX : Ok X own cc n d c) (hd : decode cc pc = .ok (.dup, 1)) (hv : v.category = 1) (k : Go X w L (pc + 1) (v :: v :: st)) : Go X w L pc (v :: st) := by
  obtain ⟨p, l, e, R, s, m, args, below, meth, cd, cells, slots, Q, D, tys, A⟩ := X; obtain ⟨hx, hb, -⟩ := hX; intro H locs ls hP hD hS hl
  exact lv_dup hx hb hd hv (k H locs ls hP hD hS hl)
theorem g_dup2 {v u : Value} (hX : Ok X own cc n d c) (hd : decode cc pc = .ok (.dup2, 1)) (hv : v.category = 1) (hu : u.category = 1) (k : Go X w L (pc + 1) (v :: u :: v :: u :: st)) : Go X w L pc (v :: u :: st) := by
  obtain ⟨p, l, e, R, s, m, args, below, meth, cd, cells, slots, Q, D, tys, A⟩ := X; obtain ⟨hx, hb, -⟩ := hX; intro H locs ls hP hD hS hl
  exact lv_dup2_11 hx hb hd hv hu (k H locs ls hP hD hS hl)
theorem g_dup_x1 {v u : Value} (hX : Ok X own cc n d c) (hd : decode cc pc = .ok (.dup_x1, 1)) (hv : v.category = 1) (hu : u.category = 1) (k : Go X w L (pc + 1) (v :: u :: v :: st)) : Go X w L pc (v :: u :: st) := by
  obtain ⟨p, l, e, R, s, m, args, below, meth, cd, cells, slots, Q, D, tys, A⟩ := X; obtain ⟨hx, hb, -⟩ := hX; intro H locs ls hP hD hS hl
  exact lv_dup_x1 hx hb hd hv hu (k H locs ls hP hD hS hl)
theorem g_pop {v : Value} (hX : Ok X own cc n d c) (hd : decode cc pc = .ok (.pop, 1)) (hv : v.category = 1) (k : Go X w L (pc + 1) st) : Go X w L pc (v :: st) := by
  obtain ⟨p, l, e, R, s, m, args, below, meth, cd, cells, slots, Q, D, tys, A⟩ := X; obtain ⟨hx, hb, -⟩ := hX; intro H locs ls hP hD hS hl
  exact lv_pop hx hb hd hv (k H locs ls hP hD hS hl)
theorem g_goto {off : Int} {tgt : Nat} (hX : Ok X own cc n d c) (hd : decode cc pc = .ok (.goto off, 3)) (ht : (pc : Int) + off = (tgt : Int)) (k : Go X w L tgt st) : Go X w L pc st := by
  obtain ⟨p, l, e, R, s, m, args, below, meth, cd, cells, slots, Q, D, tys, A⟩ := X; obtain ⟨hx, hb, -⟩ := hX; intro H locs ls hP hD hS hl
  exact lv_goto hx hb hd ht (k H locs ls hP hD hS hl)
theorem g_icmp_eq {x y : Int32} {off : Int} {tgt : Nat} (hX : Ok X own cc n d c) (hd : decode cc pc = .ok (.if_icmp .eq off, 3)) (ht : (pc : Int) + off = (tgt : Int)) (h : (if x = y then K else K2) = some o) (kt : x = y → K = some o → Go X w L tgt st) (kf : ¬ x = y → K2 = some o → Go X w L (pc + 3) st) : Go X w L pc (.int y :: .int x :: st) := by
  obtain ⟨p, l, e, R, s, m, args, below, meth, cd, cells, slots, Q, D, tys, A⟩ := X; obtain ⟨hx, hb, -⟩ := hX; intro H locs ls hP hD hS hl
  exact lv_icmp_eq hx hb hd ht (fun q => have q2 : x = y := q; kt q2 (by rw [if_pos q2] at h; exact h) H locs ls hP hD hS hl) (fun q => have q2 : ¬ x = y := q; kf q2 (by rw [if_neg q2] at h; exact h) H locs ls hP hD hS hl)
theorem g_icmp_ne {x y : Int32} {off : Int} {tgt : Nat} (hX : Ok X own cc n d c) (hd : decode cc pc = .ok (.if_icmp .ne off, 3)) (ht : (pc : Int) + off = (tgt : Int)) (h : (if x = y then K2 else K) = some o) (kt : ¬ x = y → K = some o → Go X w L tgt st) (kf : x = y → K2 = some o → Go X w L (pc + 3) st) : Go X w L pc (.int y :: .int x :: st) := by
  obtain ⟨p, l, e, R, s, m, args, below, meth, cd, cells, slots, Q, D, tys, A⟩ := X; obtain ⟨hx, hb, -⟩ := hX; intro H locs ls hP hD hS hl
  exact lv_icmp_ne hx hb hd ht (fun q => have q2 : ¬ x = y := q; kt q2 (by rw [if_neg q2] at h; exact h) H locs ls hP hD hS hl) (fun q => have q2 : x = y := q; kf q2 (by rw [if_pos q2] at h; exact h) H locs ls hP hD hS hl)
theorem g_icmp_lt {x y : Int32} {off : Int} {tgt : Nat} (hX : Ok X own cc n d c) (hd : decode cc pc = .ok (.if_icmp .lt off, 3)) (ht : (pc : Int) + off = (tgt : Int)) (h : (if x < y then K else K2) = some o) (kt : x < y → K = some o → Go X w L tgt st) (kf : ¬ x < y → K2 = some o → Go X w L (pc + 3) st) : Go X w L pc (.int y :: .int x :: st) := by
  obtain ⟨p, l, e, R, s, m, args, below, meth, cd, cells, slots, Q, D, tys, A⟩ := X; obtain ⟨hx, hb, -⟩ := hX; intro H locs ls hP hD hS hl
  exact lv_icmp_lt hx hb hd ht (fun q => have q2 : x < y := q; kt q2 (by rw [if_pos q2] at h; exact h) H locs ls hP hD hS hl) (fun q => have q2 : ¬ x < y := q; kf q2 (by rw [if_neg q2] at h; exact h) H locs ls hP hD hS hl)
theorem g_icmp_ge {x y : Int32} {off : Int} {tgt : Nat} (hX : Ok X own cc n d c) (hd : decode cc pc = .ok (.if_icmp .ge off, 3)) (ht : (pc : Int) + off = (tgt : Int)) (h : (if x < y then K2 else K) = some o) (kt : ¬ x < y → K = some o → Go X w L tgt st) (kf : x < y → K2 = some o → Go X w L (pc + 3) st) : Go X w L pc (.int y :: .int x :: st) := by
  obtain ⟨p, l, e, R, s, m, args, below, meth, cd, cells, slots, Q, D, tys, A⟩ := X; obtain ⟨hx, hb, -⟩ := hX; intro H locs ls hP hD hS hl
  exact lv_icmp_ge hx hb hd ht (fun q => have q2 : ¬ x < y := Int32.not_lt.mpr q; kt q2 (by rw [if_neg q2] at h; exact h) H locs ls hP hD hS hl) (fun q => have q2 : x < y := Int32.not_le.mp q; kf q2 (by rw [if_pos q2] at h; exact h) H locs ls hP hD hS hl)
theorem g_icmp_gt {x y : Int32} {off : Int} {tgt : Nat} (hX : Ok X own cc n d c) (hd : decode cc pc = .ok (.if_icmp .gt off, 3)) (ht : (pc : Int) + off = (tgt : Int)) (h : (if y < x then K else K2) = some o) (kt : y < x → K = some o → Go X w L tgt st) (kf : ¬ y < x → K2 = some o → Go X w L (pc + 3) st) : Go X w L pc (.int y :: .int x :: st) := by
  obtain ⟨p, l, e, R, s, m, args, below, meth, cd, cells, slots, Q, D, tys, A⟩ := X; obtain ⟨hx, hb, -⟩ := hX; intro H locs ls hP hD hS hl
  exact lv_icmp_gt hx hb hd ht (fun q => have q2 : y < x := q; kt q2 (by rw [if_pos q2] at h; exact h) H locs ls hP hD hS hl) (fun q => have q2 : ¬ y < x := q; kf q2 (by rw [if_neg q2] at h; exact h) H locs ls hP hD hS hl)
theorem g_icmp_le {x y : Int32} {off : Int} {tgt : Nat} (hX : Ok X own cc n d c) (hd : decode cc pc = .ok (.if_icmp .le off, 3)) (ht : (pc : Int) + off = (tgt : Int)) (h : (if y < x then K2 else K) = some o) (kt : ¬ y < x → K = some o → Go X w L tgt st) (kf : y < x → K2 = some o → Go X w L (pc + 3) st) : Go X w L pc (.int y :: .int x :: st) := by
  obtain ⟨p, l, e, R, s, m, args, below, meth, cd, cells, slots, Q, D, tys, A⟩ := X; obtain ⟨hx, hb, -⟩ := hX; intro H locs ls hP hD hS hl
  exact lv_icmp_le hx hb hd ht (fun q => have q2 : ¬ y < x := Int32.not_lt.mpr q; kt q2 (by rw [if_neg q2] at h; exact h) H locs ls hP hD hS hl) (fun q => have q2 : y < x := Int32.not_le.mp q; kf q2 (by rw [if_pos q2] at h; exact h) H locs ls hP hD hS hl)
theorem g_if_eq {x : Int32} {off : Int} {tgt : Nat} (hX : Ok X own cc n d c) (hd : decode cc pc = .ok (.ifCond .eq off, 3)) (ht : (pc : Int) + off = (tgt : Int)) (h : (if x = 0 then K else K2) = some o) (kt : x = 0 → K = some o → Go X w L tgt st) (kf : ¬ x = 0 → K2 = some o → Go X w L (pc + 3) st) : Go X w L pc (.int x :: st) := by
  obtain ⟨p, l, e, R, s, m, args, below, meth, cd, cells, slots, Q, D, tys, A⟩ := X; obtain ⟨hx, hb, -⟩ := hX; intro H locs ls hP hD hS hl
  exact lv_if_eq hx hb hd ht (fun q => have q2 : x = 0 := q; kt q2 (by rw [if_pos q2] at h; exact h) H locs ls hP hD hS hl) (fun q => have q2 : ¬ x = 0 := q; kf q2 (by rw [if_neg q2] at h; exact h) H locs ls hP hD hS hl)
theorem g_if_ne {x : Int32} {off : Int} {tgt : Nat} (hX : Ok X own cc n d c) (hd : decode cc pc = .ok (.ifCond .ne off, 3)) (ht : (pc : Int) + off = (tgt : Int)) (h : (if x = 0 then K2 else K) = some o) (kt : ¬ x = 0 → K = some o → Go X w L tgt st) (kf : x = 0 → K2 = some o → Go X w L (pc + 3) st) : Go X w L pc (.int x :: st) := by
  obtain ⟨p, l, e, R, s, m, args, below, meth, cd, cells, slots, Q, D, tys, A⟩ := X; obtain ⟨hx, hb, -⟩ := hX; intro H locs ls hP hD hS hl
  exact lv_if_ne hx hb hd ht (fun q => have q2 : ¬ x = 0 := q; kt q2 (by rw [if_neg q2] at h; exact h) H locs ls hP hD hS hl) (fun q => have q2 : x = 0 := q; kf q2 (by rw [if_pos q2] at h; exact h) H locs ls hP hD hS hl)
theorem g_if_lt {x : Int32} {off : Int} {tgt : Nat} (hX : Ok X own cc n d c) (hd : decode cc pc = .ok (.ifCond .lt off, 3)) (ht : (pc : Int) + off = (tgt : Int)) (h : (if x < 0 then K else K2) = some o) (kt : x < 0 → K = some o → Go X w L tgt st) (kf : ¬ x < 0 → K2 = some o → Go X w L (pc + 3) st) : Go X w L pc (.int x :: st) := by
  obtain ⟨p, l, e, R, s, m, args, below, meth, cd, cells, slots, Q, D, tys, A⟩ := X; obtain ⟨hx, hb, -⟩ := hX; intro H locs ls hP hD hS hl
  exact lv_if_lt hx hb hd ht (fun q => have q2 : x < 0 := q; kt q2 (by rw [if_pos q2] at h; exact h) H locs ls hP hD hS hl) (fun q => have q2 : ¬ x < 0 := q; kf q2 (by rw [if_neg q2] at h; exact h) H locs ls hP hD hS hl)
theorem g_if_ge {x : Int32} {off : Int} {tgt : Nat} (hX : Ok X own cc n d c) (hd : decode cc pc = .ok (.ifCond .ge off, 3)) (ht : (pc : Int) + off = (tgt : Int)) (h : (if x < 0 then K2 else K) = some o) (kt : ¬ x < 0 → K = some o → Go X w L tgt st) (kf : x < 0 → K2 = some o → Go X w L (pc + 3) st) : Go X w L pc (.int x :: st) := by
  obtain ⟨p, l, e, R, s, m, args, below, meth, cd, cells, slots, Q, D, tys, A⟩ := X; obtain ⟨hx, hb, -⟩ := hX; intro H locs ls hP hD hS hl
  exact lv_if_ge hx hb hd ht (fun q => have q2 : ¬ x < 0 := Int32.not_lt.mpr q; kt q2 (by rw [if_neg q2] at h; exact h) H locs ls hP hD hS hl) (fun q => have q2 : x < 0 := Int32.not_le.mp q; kf q2 (by rw [if_pos q2] at h; exact h) H locs ls hP hD hS hl)
theorem g_if_gt {x : Int32} {off : Int} {tgt : Nat} (hX : Ok X own cc n d c) (hd : decode cc pc = .ok (.ifCond .gt off, 3)) (ht : (pc : Int) + off = (tgt : Int)) (h : (if 0 < x then K else K2) = some o) (kt : 0 < x → K = some o → Go X w L tgt st) (kf : ¬ 0 < x → K2 = some o → Go X w L (pc + 3) st) : Go X w L pc (.int x :: st) := by
  obtain ⟨p, l, e, R, s, m, args, below, meth, cd, cells, slots, Q, D, tys, A⟩ := X; obtain ⟨hx, hb, -⟩ := hX; intro H locs ls hP hD hS hl
  exact lv_if_gt hx hb hd ht (fun q => have q2 : 0 < x := q; kt q2 (by rw [if_pos q2] at h; exact h) H locs ls hP hD hS hl) (fun q => have q2 : ¬ 0 < x := q; kf q2 (by rw [if_neg q2] at h; exact h) H locs ls hP hD hS hl)
theorem g_if_le {x : Int32} {off : Int} {tgt : Nat} (hX : Ok X own cc n d c) (hd : decode cc pc = .ok (.ifCond .le off, 3)) (ht : (pc : Int) + off = (tgt : Int)) (h : (if 0 < x then K2 else K) = some o) (kt : ¬ 0 < x → K = some o → Go X w L tgt st) (kf : 0 < x → K2 = some o → Go X w L (pc + 3) st) : Go X w L pc (.int x :: st) := by
  obtain ⟨p, l, e, R, s, m, args, below, meth, cd, cells, slots, Q, D, tys, A⟩ := X; obtain ⟨hx, hb, -⟩ := hX; intro H locs ls hP hD hS hl
  exact lv_if_le hx hb hd ht (fun q => have q2 : ¬ 0 < x := Int32.not_lt.mpr q; kt q2 (by rw [if_neg q2] at h; exact h) H locs ls hP hD hS hl) (fun q => have q2 : 0 < x := Int32.not_le.mp q; kf q2 (by rw [if_pos q2] at h; exact h) H locs ls hP hD hS hl)
theorem g_tswIn {dflt lo hi : Int} {offs : Array Int} {len : Nat} {x : Int32} {off : Int} {tgt : Nat} (hX : Ok X own cc n d c) (hd : decode cc pc = .ok (.tableswitch dflt lo hi offs, len)) (v : Int32) (hv : x = v) (h1 : decide (v.toInt < lo) = false) (h2 : decide (hi < v.toInt) = false) (ho : offs[(v.toInt - lo).toNat]? = some off) (ht : (pc : Int) + off = (tgt : Int)) (k : Go X w L tgt st) : Go X w L pc (.int x :: st) := by
  obtain ⟨p, l, e, R, s, m, args, below, meth, cd, cells, slots, Q, D, tys, A⟩ := X; obtain ⟨hx, hb, -⟩ := hX; intro H locs ls hP hD hS hl
  subst hv
  exact lv_tableIn hx hb hd (of_decide_eq_false h1) (of_decide_eq_false h2) ho ht (k H locs ls hP hD hS hl)
theorem g_tswOut {dflt lo hi : Int} {offs : Array Int} {len : Nat} {x : Int32} {tgt : Nat} (hX : Ok X own cc n d c) (hd : decode cc pc = .ok (.tableswitch dflt lo hi offs, len)) (h : x.toInt < lo ∨ hi < x.toInt) (ht : (pc : Int) + dflt = (tgt : Int)) (k : Go X w L tgt st) : Go X w L pc (.int x :: st) := by
  obtain ⟨p, l, e, R, s, m, args, below, meth, cd, cells, slots, Q, D, tys, A⟩ := X; obtain ⟨hx, hb, -⟩ := hX; intro H locs ls hP hD hS hl
  exact lv_tableOut hx hb hd h ht (k H locs ls hP hD hS hl)
theorem g_get {C : String} {T : u_T} {N ci idx a : Nat} {fs : List Value} {v : Value} (hX : Ok X own cc n d c) (hin : ∀ q ∈ u_ws C T N, q ∈ zB) (k : Nat) (hk : Nat.blt k N = true) (hlink : Cond.fieldLink own idx (T k).1 (T k).2.1 (T k).2.2.1 ∈ zB) (hc : zCl[ci]? = some (C, T, N)) (q0 : Nat) (he : w[q0]? = some (a, .inr (ci, fs))) (hv : fs[k]? = some v) (hd : decode cc pc = .ok (.getfield idx, 3)) (kk : Go X w L (pc + 3) (v :: st)) : Go X w L pc (.ref a :: st) := by
  obtain ⟨p, l, e, R, s, m, args, below, meth, cd, cells, slots, Q, D, tys, A⟩ := X; obtain ⟨hx, hb, -, hown, -, hB, hK, -⟩ := hX; intro H locs ls hP hD hS hl
  exact va_get (D := D) (cl := zCl) hx hb hB hin hown hK hP q0 he hc k (Nat.le_of_ble_eq_true hk) (hB _ hlink) (fun _ h9 => h9) hv hd (kk H locs ls hP hD hS hl)
theorem g_getN {C host : String} {T : u_T} {N ci idx a : Nat} {fs : List Value} {v : Value} (hX : Ok X own cc n d c) (hin : ∀ q ∈ u_ws C T N, q ∈ zB) (k : Nat) (hk : Nat.blt k N = true) (hlink : (own, idx, (T k).1, (T k).2.1, (T k).2.2.1, host) ∈ zNf) (hc : zCl[ci]? = some (C, T, N)) (q0 : Nat) (he : w[q0]? = some (a, .inr (ci, fs))) (hv : fs[k]? = some v) (hd : decode cc pc = .ok (.getfield idx, 3)) (kk : Go X w L (pc + 3) (v :: st)) : Go X w L pc (.ref a :: st) := by
  obtain ⟨p, l, e, R, s, m, args, below, meth, cd, cells, slots, Q, D, tys, A⟩ := X; obtain ⟨hx, hb, -, hown, -, hB, hK, hN, -⟩ := hX; intro H locs ls hP hD hS hl
  exact va_getN (D := D) (cl := zCl) hx hb hB hin hown hK hP q0 he hc k (Nat.le_of_ble_eq_true hk) (va_Nw.use rfl (hN.1 _ hlink)) (fun _ h9 => h9) hv hd (kk H locs ls hP hD hS hl)
theorem g_put {C : String} {T : u_T} {N ci idx a : Nat} {fs : List Value} {v : Value} {ty : FieldType} (ty0 : Nat → FieldType) (hty : ∀ k, k < N → parseFieldDescriptor (T k).2.2.1 = some (ty0 k)) (hnm : ∀ a, a < N → ∀ b, b < N → a ≠ b → (T a).2.1 ≠ (T b).2.1) (hX : Ok X own cc n d c) (hin : ∀ q ∈ u_ws C T N, q ∈ zB) (k : Nat) (hk : Nat.blt k N = true) (hlink : Cond.fieldLink own idx (T k).1 (T k).2.1 (T k).2.2.1 ∈ zB) (hc : zCl[ci]? = some (C, T, N)) (hfin : (T k).2.2.2 = false) (hdp : ty0 k = ty) (hn : narrow ty v = v) (hfit : fits ty v = true) (q0 : Nat) (he : w[q0]? = some (a, .inr (ci, fs))) (hl0 : Nat.blt k fs.length = true) (hw : w.set q0 (a, .inr (ci, fs.set k v)) = w') (hd : decode cc pc = .ok (.putfield idx, 3)) (kk : Go X w' L (pc + 3) st) : Go X w L pc (v :: .ref a :: st) := by
  obtain ⟨p, l, e, R, s, m, args, below, meth, cd, cells, slots, Q, D, tys, A⟩ := X; obtain ⟨hx, hb, -, hown, -, hB, hK, -⟩ := hX; intro H locs ls hP hD hS hl
  subst hw
  exact va_put (D := D) (cl := zCl) hx hb hB hin ty0 hty hnm hown hK hP hD hS q0 he hc k (Nat.le_of_ble_eq_true hk) (hB _ hlink) (fun _ h9 => h9) hfin ((hty k (Nat.le_of_ble_eq_true hk)).trans (congrArg some hdp)) hn hfit (Nat.le_of_ble_eq_true hl0) hd (fun H1 locs1 hP1 hD1 hS1 => kk H1 locs1 ls hP1 hD1 hS1 hl)
theorem g_putN {C host : String} {T : u_T} {N ci idx a : Nat} {fs : List Value} {v : Value} {ty : FieldType} (ty0 : Nat → FieldType) (hty : ∀ k, k < N → parseFieldDescriptor (T k).2.2.1 = some (ty0 k)) (hnm : ∀ a, a < N → ∀ b, b < N → a ≠ b → (T a).2.1 ≠ (T b).2.1) (hX : Ok X own cc n d c) (hin : ∀ q ∈ u_ws C T N, q ∈ zB) (k : Nat) (hk : Nat.blt k N = true) (hlink : (own, idx, (T k).1, (T k).2.1, (T k).2.2.1, host) ∈ zNf) (hc : zCl[ci]? = some (C, T, N)) (hfin : (T k).2.2.2 = false) (hdp : ty0 k = ty) (hn : narrow ty v = v) (hfit : fits ty v = true) (q0 : Nat) (he : w[q0]? = some (a, .inr (ci, fs))) (hl0 : Nat.blt k fs.length = true) (hw : w.set q0 (a, .inr (ci, fs.set k v)) = w') (hd : decode cc pc = .ok (.putfield idx, 3)) (kk : Go X w' L (pc + 3) st) : Go X w L pc (v :: .ref a :: st) := by
  obtain ⟨p, l, e, R, s, m, args, below, meth, cd, cells, slots, Q, D, tys, A⟩ := X; obtain ⟨hx, hb, -, hown, -, hB, hK, hN, -⟩ := hX; intro H locs ls hP hD hS hl
  subst hw
  exact va_putN (D := D) (cl := zCl) hx hb hB hin ty0 hty hnm hown hK hP hD hS q0 he hc k (Nat.le_of_ble_eq_true hk) (va_Nw.use rfl (hN.1 _ hlink)) (fun _ h9 => h9) hfin ((hty k (Nat.le_of_ble_eq_true hk)).trans (congrArg some hdp)) hn hfit (Nat.le_of_ble_eq_true hl0) hd (fun H1 locs1 hP1 hD1 hS1 => kk H1 locs1 ls hP1 hD1 hS1 hl)
theorem zbn {x : Int32} (h : x = 0 ∨ x = 1) : narrow .boolean (.int x) = .int x := by rcases h with rfl | rfl <;> rfl
theorem zbf {x : Int32} (h : x = 0 ∨ x = 1) : fits .boolean (.int x) = true := by rcases h with rfl | rfl <;> rfl
theorem zbv {x : Int32} (h : x = 0 ∨ x = 1) : vp_nar .boolean x = x := by rcases h with rfl | rfl <;> rfl
abbrev zOut (i : Int32) (n : Nat) : Prop := i < 0 ∨ n ≤ i.toNatClampNeg
theorem g_iald {a N : Nat} {f : Nat → Int32} {i : Int32} (hX : Ok X own cc n d c) (q0 : Nat) (he : w[q0]? = some (a, .inl (c.1, N, .inl f))) (h : (if zOut i N then none else K) = some o) (hd : decode cc pc = .ok (.iaload, 1)) (k : K = some o → Go X w L (pc + 1) (.int (f i.toNatClampNeg) :: st)) : Go X w L pc (.int i :: .ref a :: st) := by
  by_cases hi : zOut i N
  · rw [if_pos hi] at h; cases h
  rw [if_neg hi] at h
  obtain ⟨p, l, e, R, s, m, args, below, meth, cd, cells, slots, Q, D, tys, A⟩ := X; obtain ⟨hx, hb, -, -, -, -, hK, -, ht, -⟩ := hX; intro H locs ls hP hD hS hl
  exact va_iald hx hb hK hP q0 0 he (by rw [ht]; rfl) hi hd (k h H locs ls hP hD hS hl)
theorem g_zald {a N : Nat} {f : Nat → Int32} {i : Int32} (hX : Ok X own cc n d c) (q0 : Nat) (he : w[q0]? = some (a, .inl (c.2.1, N, .inl f))) (h : (if zOut i N then none else K) = some o) (hd : decode cc pc = .ok (.baload, 1)) (k : K = some o → Go X w L (pc + 1) (.int (f i.toNatClampNeg) :: st)) : Go X w L pc (.int i :: .ref a :: st) := by
  by_cases hi : zOut i N
  · rw [if_pos hi] at h; cases h
  rw [if_neg hi] at h
  obtain ⟨p, l, e, R, s, m, args, below, meth, cd, cells, slots, Q, D, tys, A⟩ := X; obtain ⟨hx, hb, -, -, -, -, hK, -, ht, -⟩ := hX; intro H locs ls hP hD hS hl
  exact va_zald hx hb hK hP q0 1 he (by rw [ht]; rfl) hi hd (k h H locs ls hP hD hS hl)
theorem g_iast {a N : Nat} {f : Nat → Int32} {i x : Int32} (hX : Ok X own cc n d c) (q0 : Nat) (he : w[q0]? = some (a, .inl (c.1, N, .inl f))) (h : (if zOut i N then none else K) = some o) (hw : w.set q0 (a, .inl (c.1, N, .inl (upd f i.toNatClampNeg x))) = w') (hd : decode cc pc = .ok (.iastore, 1)) (k : K = some o → Go X w' L (pc + 1) st) : Go X w L pc (.int x :: .int i :: .ref a :: st) := by
  by_cases hi : zOut i N
  · rw [if_pos hi] at h; cases h
  rw [if_neg hi] at h
  obtain ⟨p, l, e, R, s, m, args, below, meth, cd, cells, slots, Q, D, tys, A⟩ := X; obtain ⟨hx, hb, -, -, -, -, hK, -, ht, -⟩ := hX; intro H locs ls hP hD hS hl
  subst hw
  exact va_iast hx hb hK hP hD hS q0 0 he (by rw [ht]; rfl) hi hd (fun H1 locs1 hP1 hD1 hS1 => k h H1 locs1 ls hP1 hD1 hS1 hl)
theorem g_zast {a N : Nat} {f : Nat → Int32} {i x : Int32} (hX : Ok X own cc n d c) (q0 : Nat) (he : w[q0]? = some (a, .inl (c.2.1, N, .inl f))) (h : (if zOut i N then none else K) = some o) (hv : x = 0 ∨ x = 1) (hw : w.set q0 (a, .inl (c.2.1, N, .inl (upd f i.toNatClampNeg x))) = w') (hd : decode cc pc = .ok (.bastore, 1)) (k : K = some o → Go X w' L (pc + 1) st) : Go X w L pc (.int x :: .int i :: .ref a :: st) := by
  by_cases hi : zOut i N
  · rw [if_pos hi] at h; cases h
  rw [if_neg hi] at h
  obtain ⟨p, l, e, R, s, m, args, below, meth, cd, cells, slots, Q, D, tys, A⟩ := X; obtain ⟨hx, hb, -, -, -, -, hK, -, ht, -⟩ := hX; intro H locs ls hP hD hS hl
  subst hw
  refine va_zast hx hb hK hP hD hS q0 1 he (by rw [ht]; rfl) hi hd (fun H1 locs1 hP1 hD1 hS1 => ?_)
  rw [zbv hv] at hP1 hD1
  exact k h H1 locs1 ls hP1 hD1 hS1 hl
theorem g_alen {a : Nat} {x : vp_A} (hX : Ok X own cc n d c) (q0 : Nat) (he : w[q0]? = some (a, .inl (c.1, x))) {v : Int32} (hv : Int32.ofNat x.1 = v) (hd : decode cc pc = .ok (.arraylength, 1)) (k : Go X w L (pc + 1) (.int v :: st)) : Go X w L pc (.ref a :: st) := by
  obtain ⟨p, l, e, R, s, m, args, below, meth, cd, cells, slots, Q, D, tys, A⟩ := X; obtain ⟨hx, hb, -, -, -, -, hK, -, ht, -⟩ := hX; intro H locs ls hP hD hS hl
  exact va_alen (ty := .int) hx hb hK hP q0 0 he (by rw [ht]; rfl) hv hd (k H locs ls hP hD hS hl)
theorem g_alenS {a : Nat} {x : vp_A} (hX : Ok X own cc n d c) (q0 : Nat) (he : w[q0]? = some (a, .inl (c.2.2, x))) {v : Int32} (hv : Int32.ofNat x.1 = v) (hd : decode cc pc = .ok (.arraylength, 1)) (k : Go X w L (pc + 1) (.int v :: st)) : Go X w L pc (.ref a :: st) := by
  obtain ⟨p, l, e, R, s, m, args, below, meth, cd, cells, slots, Q, D, tys, A⟩ := X; obtain ⟨hx, hb, -, -, -, -, hK, -, ht, -⟩ := hX; intro H locs ls hP hD hS hl
  exact va_alen (ty := .object "EncounterLedger$State") hx hb hK hP q0 2 he (by rw [ht]; rfl) hv hd (k H locs ls hP hD hS hl)
theorem g_aald {a N : Nat} {f : Nat → Option Nat} {i : Int32} (hX : Ok X own cc n d c) (q0 : Nat) (he : w[q0]? = some (a, .inl (c.2.2, N, .inr (.inr (.inr (.inr f)))))) (hi : ¬ zOut i N) (hd : decode cc pc = .ok (.aaload, 1)) (k : Go X w L (pc + 1) (va_rf (f i.toNatClampNeg) :: st)) : Go X w L pc (.int i :: .ref a :: st) := by
  obtain ⟨p, l, e, R, s, m, args, below, meth, cd, cells, slots, Q, D, tys, A⟩ := X; obtain ⟨hx, hb, -, -, -, -, hK, -, ht, -⟩ := hX; intro H locs ls hP hD hS hl
  exact va_aldq (C := "EncounterLedger$State") hx hb hK hP q0 2 he (by rw [ht]; rfl) hi hd (k H locs ls hP hD hS hl)
def zmax (x y : Int32) : Int32 := if x < y then y else x
def zmin (x y : Int32) : Int32 := if y < x then y else x
def zabs (x : Int32) : Int32 := if 0 ≤ x then x else 0 - x
theorem g_mmax {idx : Nat} {x y : Int32} (hX : Ok X own cc n d c) (hl0 : Cond.methodLink own idx Lib.Math.max.name ∈ zB) (hd1 : Nat.ble 1 d = true) (hcat : Nat.ble (st.map fun v => v.category).sum 8 = true) (hd : decode cc pc = .ok (.invokestatic idx, 3)) (k : Go X w L (pc + 3) (.int (zmax x y) :: st)) : Go X w L pc (.int y :: .int x :: st) := by
  obtain ⟨p, l, e, R, s, m, args, below, meth, cd, cells, slots, Q, D, tys, A⟩ := X; obtain ⟨hx, hb, hml, hown, -, hB, hK, -, -, ⟨hr1, hr2⟩, hr3, hr4⟩ := hX; intro H locs ls hP hD hS hl
  have h1 := Nat.le_of_ble_eq_true hd1
  have h2 := Nat.le_of_ble_eq_true hcat
  exact va_mmax hx hb hl.1.symm hown (hB _ hl0) (hB _ zZ_max) (hB _ zI_Ma) (hB _ zD_max) (by omega) (by omega) hr3 hr4 hd (k H locs ls hP hD hS hl)
theorem g_mmin {idx : Nat} {x y : Int32} (hX : Ok X own cc n d c) (hl0 : Cond.methodLink own idx Lib.Math.min.name ∈ zB) (hd1 : Nat.ble 1 d = true) (hcat : Nat.ble (st.map fun v => v.category).sum 8 = true) (hd : decode cc pc = .ok (.invokestatic idx, 3)) (k : Go X w L (pc + 3) (.int (zmin x y) :: st)) : Go X w L pc (.int y :: .int x :: st) := by
  obtain ⟨p, l, e, R, s, m, args, below, meth, cd, cells, slots, Q, D, tys, A⟩ := X; obtain ⟨hx, hb, hml, hown, -, hB, hK, -, -, ⟨hr1, hr2⟩, hr3, hr4⟩ := hX; intro H locs ls hP hD hS hl
  have h1 := Nat.le_of_ble_eq_true hd1
  have h2 := Nat.le_of_ble_eq_true hcat
  exact va_mmin hx hb hl.1.symm hown (hB _ hl0) (hB _ zZ_min) (hB _ zI_Ma) (hB _ zD_min) (by omega) (by omega) hr3 hr4 hd (k H locs ls hP hD hS hl)
theorem g_mabs {idx : Nat} {x : Int32} (hX : Ok X own cc n d c) (hl0 : Cond.methodLink own idx Lib.Math.abs.name ∈ zB) (hd1 : Nat.ble 1 d = true) (hcat : Nat.ble (st.map fun v => v.category).sum 8 = true) (hd : decode cc pc = .ok (.invokestatic idx, 3)) (k : Go X w L (pc + 3) (.int (zabs x) :: st)) : Go X w L pc (.int x :: st) := by
  obtain ⟨p, l, e, R, s, m, args, below, meth, cd, cells, slots, Q, D, tys, A⟩ := X; obtain ⟨hx, hb, hml, hown, -, hB, hK, -, -, ⟨hr1, hr2⟩, hr3, hr4⟩ := hX; intro H locs ls hP hD hS hl
  have h1 := Nat.le_of_ble_eq_true hd1
  have h2 := Nat.le_of_ble_eq_true hcat
  exact va_mabs hx hb hl.1.symm hown (hB _ hl0) (hB _ zZ_abs) (hB _ zI_Ma) (hB _ zD_abs) (by omega) (by omega) hr3 hr4 hd (k H locs ls hP hD hS hl)
abbrev zOutC (sp dp z : Int32) (n0 n1 : Nat) : Prop := sp < 0 ∨ dp < 0 ∨ z < 0 ∨ n0 < sp.toNatClampNeg + z.toNatClampNeg ∨ n1 < dp.toNatClampNeg + z.toNatClampNeg
theorem g_copy {idx a0 a N0 N1 : Nat} {f g : Nat → Int32} {sp dp z : Int32} (hX : Ok X own cc n d c) (hl0 : Cond.methodLink own idx arraycopyName ∈ zB) (hd1 : Nat.ble 1 d = true) (hcat : Nat.ble (st.map fun v => v.category).sum 8 = true) (q0 q1 : Nat) (he0 : w[q0]? = some (a0, .inl (c.1, N0, .inl f))) (he1 : w[q1]? = some (a, .inl (c.1, N1, .inl g))) (h : (if zOutC sp dp z N0 N1 then none else K) = some o) (hw : w.set q1 (a, .inl (c.1, N1, .inl (va_cpy f g sp.toNatClampNeg dp.toNatClampNeg z.toNatClampNeg))) = w') (hd : decode cc pc = .ok (.invokestatic idx, 3)) (k : K = some o → Go X w' L (pc + 3) st) : Go X w L pc (.int z :: .int dp :: .ref a :: .int sp :: .ref a0 :: st) := by
  by_cases hi : zOutC sp dp z N0 N1
  · rw [if_pos hi] at h; cases h
  rw [if_neg hi] at h
  obtain ⟨p, l, e, R, s, m, args, below, meth, cd, cells, slots, Q, D, tys, A⟩ := X; obtain ⟨hx, hb, hml, hown, -, hB, hK, -, ht, ⟨hr1, hr2⟩, hr3, hr4⟩ := hX; intro H locs ls hP hD hS hl
  have h1 := Nat.le_of_ble_eq_true hd1
  have h2 := Nat.le_of_ble_eq_true hcat
  simp only [zOutC, not_or, Nat.not_lt] at hi
  subst hw
  have e9 : nativeFrameWords "java/lang/System" "arraycopy" 5 = 7 := by decide +kernel
  exact va_copyi (ty := .int) hx hb hl.1.symm hown (hB _ hl0) (hB _ zY_arraycopy) (hB _ zZ_arraycopy) (hB _ zI_Sy) hK hP hD hS q0 q1 0 0 he0 he1 (by rw [ht]; rfl) (by rw [ht]; rfl) rfl hi.1 hi.2.1 hi.2.2.1 hi.2.2.2.1 hi.2.2.2.2 (fun _ _ => rfl) (by omega) (by rw [e9]; omega) hd (fun H1 locs1 hP1 hD1 hS1 => k h H1 locs1 ls hP1 hD1 hS1 hl)
theorem g_ifnonnull {a : Nat} {off : Int} {tgt : Nat} (hX : Ok X own cc n d c) (hd : decode cc pc = .ok (.ifnonnull off, 3)) (ht : (pc : Int) + off = (tgt : Int)) (k : Go X w L tgt st) : Go X w L pc (.ref a :: st) := by
  obtain ⟨p, l, e, R, s, m, args, below, meth, cd, cells, slots, Q, D, tys, A⟩ := X; obtain ⟨hx, hb, -⟩ := hX; intro H locs ls hP hD hS hl
  exact lv_ifnonnull hx hb hd ht (k H locs ls hP hD hS hl)
theorem g_ifnull {a : Nat} {off : Int} (hX : Ok X own cc n d c) (hd : decode cc pc = .ok (.ifnull off, 3)) (k : Go X w L (pc + 3) st) : Go X w L pc (.ref a :: st) := by
  obtain ⟨p, l, e, R, s, m, args, below, meth, cd, cells, slots, Q, D, tys, A⟩ := X; obtain ⟨hx, hb, -⟩ := hX; intro H locs ls hP hD hS hl
  exact lv_ifnull hx hb hd (k H locs ls hP hD hS hl)
theorem g_iret {v : Int32} (hX : Ok X own cc n d c) (hR : Rt X (some .int) (some (.int v)) w) (hd : decode cc pc = .ok (.ireturn, 1)) : Go X w L pc [.int v] := by
  obtain ⟨p, l, e, R, s, m, args, below, meth, cd, cells, slots, Q, D, tys, A⟩ := X; obtain ⟨hx, hb, -, -, hlk, -⟩ := hX; obtain ⟨hr, hQ⟩ := hR; intro H locs ls hP hD hS hl
  subst hQ
  exact W.iret hx hb hr (fun t ht hW => ⟨⟨rfl, by rw [ht]; exact hP⟩, hS.F ht⟩) hS.2.2 hd hlk
theorem g_zret {v : Int32} (hX : Ok X own cc n d c) (hR : Rt X (some .boolean) (some (.int v)) w) (hv : v = 0 ∨ v = 1) (hd : decode cc pc = .ok (.ireturn, 1)) : Go X w L pc [.int v] := by
  obtain ⟨p, l, e, R, s, m, args, below, meth, cd, cells, slots, Q, D, tys, A⟩ := X; obtain ⟨hx, hb, -, -, hlk, -⟩ := hX; obtain ⟨hr, hQ⟩ := hR; intro H locs ls hP hD hS hl
  subst hQ
  exact W.zret hx hb hr (zbn hv) (fun t ht hW => ⟨⟨rfl, by rw [ht]; exact hP⟩, hS.F ht⟩) hS.2.2 hd hlk
theorem g_vret (hX : Ok X own cc n d c) (hR : Rt X none none w) (hd : decode cc pc = .ok (.return_, 1)) : Go X w L pc [] := by
  obtain ⟨p, l, e, R, s, m, args, below, meth, cd, cells, slots, Q, D, tys, A⟩ := X; obtain ⟨hx, hb, -, -, hlk, -⟩ := hX; obtain ⟨hr, hQ⟩ := hR; intro H locs ls hP hD hS hl
  subst hQ
  exact W.vret hx hb hr (fun t ht hW => ⟨⟨rfl, by rw [ht]; exact hP⟩, hS.F ht⟩) hS.2.2 hd hlk
end GROWS
/-! calls -/
theorem zGood (y : MethodName) {bytes : ByteArray} {maxL : Nat} {ret : Option FieldType} (hc : Cond.code y bytes maxL ret ∈ zB) : GoodIn zB (Cond.code y bytes maxL ret :: zB) := by
  intro q hq
  have hq2 : q ∈ zB := by rcases List.mem_cons.mp hq with rfl | h; exact hc; exact h
  exact ⟨hq2, good_of_word (zB_good q hq2)⟩
theorem zFb {D : va_G} {c : zY} {av : List Value} {w : va_W} : FrameBlind (va_Pc av (zP D c w)) := fun a U g mk h => ⟨h.1, h.2.1, va_K.moved (u := U) (U := U.calling g mk a) (Vm.Alike.refl U.vm) h.2.2.1, zNW.same (u := U) (U := U.calling g mk a) rfl h.2.2.2.1, h.2.2.2.2⟩
theorem zPin {D : va_G} {cl : List vw_C} {ws : va_W} {H : Heap} (h : ∀ q ∈ ws, va_at D cl q H) : va_P D cl ws H := fun _ _ hk => h _ (List.mem_of_getElem? hk)
theorem zPof {D : va_G} {cl : List vw_C} {ws : va_W} {H : Heap} (h : va_P D cl ws H) : ∀ q ∈ ws, va_at D cl q H := fun q hq => by
  obtain ⟨k, hk⟩ := List.getElem?_of_mem hq
  exact h k q hk
/-- the world behind a call, the callee's part in its place -/
theorem zJoin {A : Nat → Prop} {D : va_G} {w1 wc wc' w2 : va_W} {H H1 : Heap} (hP : va_P D zCl (w1 ++ (wc ++ w2)) H) (hD : va_D A (w1 ++ (wc ++ w2))) (hk : ∀ q : Nat, q < H.size → ¬ zA wc q → H1[q]? = H[q]?) (hP1 : va_P D zCl wc' H1) : va_P D zCl (w1 ++ (wc' ++ w2)) H1 := by
  have hl : ∀ q ∈ w1 ++ (wc ++ w2), q.1 < H.size := fun q hq => (zPof hP q hq).lt
  have off : ∀ (i : Nat) (q : Nat × va_E), (w1 ++ (wc ++ w2))[i]? = some q → (i < w1.length ∨ w1.length + wc.length ≤ i) → ¬ zA wc q.1 := by
    intro i q hi hr ⟨k, e, hk2⟩
    have hkl := (List.getElem?_eq_some_iff.mp hk2).1
    have h2 : (w1 ++ (wc ++ w2))[w1.length + k]? = some (q.1, e) := by
      rw [List.getElem?_append_right (by omega), Nat.add_sub_cancel_left, List.getElem?_append_left hkl]; exact hk2
    have := hD.1 i (w1.length + k) q (q.1, e) hi h2 rfl
    omega
  apply zPin
  intro q hq
  rcases List.mem_append.mp hq with h | h
  · obtain ⟨i, hi⟩ := List.getElem?_of_mem h
    have hil := (List.getElem?_eq_some_iff.mp hi).1
    have hi2 : (w1 ++ (wc ++ w2))[i]? = some q := by rw [List.getElem?_append_left hil]; exact hi
    have hm := List.mem_of_getElem? hi2
    exact (zPof hP q hm).kept (hk q.1 (hl q hm) (off i q hi2 (Or.inl hil)))
  · rcases List.mem_append.mp h with h | h
    · exact zPof hP1 q h
    · obtain ⟨i, hi⟩ := List.getElem?_of_mem h
      have hi2 : (w1 ++ (wc ++ w2))[w1.length + (wc.length + i)]? = some q := by
        rw [List.getElem?_append_right (by omega), Nat.add_sub_cancel_left, List.getElem?_append_right (by omega), Nat.add_sub_cancel_left]; exact hi
      have hm := List.mem_of_getElem? hi2
      exact (zPof hP q hm).kept (hk q.1 (hl q hm) (off _ q hi2 (Or.inr (by omega))))
theorem zAsub {A : Nat → Prop} {w1 wc w2 : va_W} (hD : va_D A (w1 ++ (wc ++ w2))) : ∀ q, zA wc q → A q := by
  intro q ⟨k, e, hk⟩
  have hkl := (List.getElem?_eq_some_iff.mp hk).1
  refine hD.2 (w1.length + k) (q, e) ?_
  rw [List.getElem?_append_right (by omega), Nat.add_sub_cancel_left, List.getElem?_append_left hkl]; exact hk
theorem zSubP {D : va_G} {w1 wc w2 : va_W} {H : Heap} (hP : va_P D zCl (w1 ++ (wc ++ w2)) H) : va_P D zCl wc H := zPin fun q hq => zPof hP q (List.mem_append_right _ (List.mem_append_left _ hq))
theorem zSubD {A : Nat → Prop} {w1 wc w2 : va_W} (hD : va_D A (w1 ++ (wc ++ w2))) : va_D (fun _ => True) wc := by
  refine ⟨fun i j p q hi hj hpq => ?_, fun _ _ _ => trivial⟩
  have hil := (List.getElem?_eq_some_iff.mp hi).1
  have hjl := (List.getElem?_eq_some_iff.mp hj).1
  have h1 : (w1 ++ (wc ++ w2))[w1.length + i]? = some p := by rw [List.getElem?_append_right (by omega), Nat.add_sub_cancel_left, List.getElem?_append_left hil]; exact hi
  have h2 : (w1 ++ (wc ++ w2))[w1.length + j]? = some q := by rw [List.getElem?_append_right (by omega), Nat.add_sub_cancel_left, List.getElem?_append_left hjl]; exact hj
  have := hD.1 _ _ p q h1 h2 hpq
  omega
theorem zRun {p : Program} {l : Launch} {e : Env} {R : Room} {s : State} {m : MethodId} {args : Array Value} {below : List Frame} {meth : Method} {cd : Code} {cells slots : Nat} {Q : State → Prop} {D : va_G} {A : Nat → Prop} {pc : Nat} {ls : Array Slot} {st0 rest : List Value} {a : Array Value} {H : Heap} {locs : List Loc} {w1 wc wc' w2 : va_W} {r : Option Value}
    (hr : va_Run p l e R s m args below meth cd H locs cells slots 0 0 (F0 m pc ls st0) rest (zQ D r wc' (zA wc) a) (zA wc))
    (hP : va_P D zCl (w1 ++ (wc ++ w2)) H) (hD : va_D A (w1 ++ (wc ++ w2))) (hS : va_S A s.heap H locs) (hw : wc'.map Prod.fst = wc.map Prod.fst)
    (kk : ∀ (H1 : Heap) (locs1 : List Loc), va_P D zCl (w1 ++ (wc' ++ w2)) H1 → va_D A (w1 ++ (wc' ++ w2)) → va_S A s.heap H1 locs1 → W p l e R s m args below meth cd H1 locs1 cells slots Q (F0 m (pc + 3) ls (r.toList ++ rest))) : W p l e R s m args below meth cd H locs cells slots Q (F0 m pc ls st0) := by
  intro T hT X
  obtain ⟨v, st₀, t, T', L, h0, X', hL, e1, e2, ⟨⟨hv, hP1⟩, hz, hk⟩, st⟩ := hr T hT X
  cases hv
  rw [h0] at hz hk
  have hAs := zAsub hD
  have hP2 := zJoin hP hD hk hP1
  have hD2 : va_D A (w1 ++ (wc' ++ w2)) := zD_fst (by simp [hw]) hD
  have hS2 : va_S A s.heap T'.heap (locs ++ L) := ⟨Nat.le_trans hS.1 (by rw [e1]; exact hz), fun q h1 h2 => by rw [e1, hk q (Nat.lt_of_lt_of_le h1 hS.1) (fun z => h2 (hAs q z))]; exact hS.2.1 q h1 h2, fun q hq => by
      rcases List.mem_append.mp hq with h | h
      · exact hS.2.2 q h
      · exact hAs _ (hL q h)⟩
  obtain ⟨t2, a1, b1⟩ := kk T'.heap (locs ++ L) (by rw [e1]; exact hP2) hD2 hS2 T' rfl X'
  exact ⟨t2, st t2 a1, b1⟩
section GCALL
variable {X : zX} {own : String} {cc : ByteArray} {n d : Nat} {c : zY} {w w' : va_W} {L L' : List (Nat × Value)} {pc : Nat} {st st0 : List Value}
variable {y : MethodName} {bytes : ByteArray} {maxL dc ny idx a : Nat} {ret : Option FieldType} {As : List Value} {wc wc' w1 w2 : va_W} {r : Option Value}
theorem g_cv {C : String} {T : u_T} {N : Nat} {fs : List Value} (hX : Ok X own cc n d c) (hy : zCal y bytes maxL ret ny) (hsel : Cond.selects C y y ∈ zB) (hl0 : Cond.methodLink own idx y ∈ zB) (hM : KM y bytes maxL ret dc c (.ref a :: As) wc wc' r) (hst : st0 = As.reverse ++ .ref a :: st) (hdc : Nat.ble (dc + 1) d = true) (hmx : Nat.ble maxL 22 = true) (hn : As.length = ny) (hw : w = w1 ++ (wc ++ w2)) (hw' : w1 ++ (wc' ++ w2) = w') (q0 ci : Nat) (he : w[q0]? = some (a, .inr (ci, fs))) (hc : zCl[ci]? = some (C, T, N)) (hcat : Nat.ble (st.map fun v => v.category).sum 8 = true) (hd : decode cc pc = .ok (.invokevirtual idx, 3)) (k : Go X w' L (pc + 3) (r.toList ++ st)) : Go X w L pc st0 := by
  subst hst
  obtain ⟨p, l, e, R, s, m, args, below, meth, cd, cells, slots, Q, D, tys, A⟩ := X; obtain ⟨hx, hb, hml, hown, -, hB, hK, hN, ht, ⟨hr1, hr2⟩, hr3, hr4⟩ := hX; intro H locs ls hP hD hS hl
  obtain ⟨h1, h2, h3, h4, h5, h6⟩ := hy
  have g1 := Nat.le_of_ble_eq_true hdc
  have g2 := Nat.le_of_ble_eq_true hmx
  have g3 := Nat.le_of_ble_eq_true hcat
  have hrec := va_recv hK hP hc he
  have hro : (zRm dc).frames + 1 ≤ R.frames ∧ 8 + (maxL + 11) + (zRm dc).locals ≤ R.locals := ⟨Nat.le_trans g1 hr1, by show 8 + (maxL + 11) + 41 * dc ≤ _; omega⟩
  subst hw; subst hw'
  refine zRun (w1 := w1) (wc := wc) (wc' := wc') (w2 := w2) (va_runV (As := As) (b := a) (rest := st) ⟨hx, hb, hml, hown, hB⟩ (hM.2 l D) (C := C) ⟨callB_of ny hB (zGood y h3) rfl rfl rfl (hB _ h2) (hB _ hl0) ⟨h4, h5, h6⟩ hro, hB _ h1, hB _ hsel⟩ ⟨zFb, hrec, fun U hU hW => ⟨rfl, by rw [hU]; exact zSubP hP, by rw [← ht]; exact va_K.moved hW.alike hK, zNW.warm hW hN, zSubD hD⟩⟩ rfl hn (hl.1.trans hml) rfl (lv_room g3) hd ⟨hr3, hr4⟩) hP hD hS hM.1 ?_
  exact fun H1 locs1 hP1 hD1 hS1 => k H1 locs1 ls hP1 hD1 hS1 hl
theorem g_cvI {v : Int32} {C : String} {T : u_T} {N : Nat} {fs : List Value} (hX : Ok X own cc n d c) (hy : zCal y bytes maxL ret ny) (hsel : Cond.selects C y y ∈ zB) (hl0 : Cond.methodLink own idx y ∈ zB) (hM : KM y bytes maxL ret dc c (.ref a :: As) wc wc' (some (.int v))) (hst : st0 = As.reverse ++ .ref a :: st) (hdc : Nat.ble (dc + 1) d = true) (hmx : Nat.ble maxL 22 = true) (hn : As.length = ny) (hw : w = w1 ++ (wc ++ w2)) (hw' : w1 ++ (wc' ++ w2) = w') (q0 ci : Nat) (he : w[q0]? = some (a, .inr (ci, fs))) (hc : zCl[ci]? = some (C, T, N)) (hcat : Nat.ble (st.map fun v => v.category).sum 8 = true) (hd : decode cc pc = .ok (.invokevirtual idx, 3)) (k : Go X w' L (pc + 3) (.int v :: st)) : Go X w L pc st0 :=
  g_cv hX hy hsel hl0 hM hst hdc hmx hn hw hw' q0 ci he hc hcat hd k
theorem g_cvV {C : String} {T : u_T} {N : Nat} {fs : List Value} (hX : Ok X own cc n d c) (hy : zCal y bytes maxL ret ny) (hsel : Cond.selects C y y ∈ zB) (hl0 : Cond.methodLink own idx y ∈ zB) (hM : KM y bytes maxL ret dc c (.ref a :: As) wc wc' none) (hst : st0 = As.reverse ++ .ref a :: st) (hdc : Nat.ble (dc + 1) d = true) (hmx : Nat.ble maxL 22 = true) (hn : As.length = ny) (hw : w = w1 ++ (wc ++ w2)) (hw' : w1 ++ (wc' ++ w2) = w') (q0 ci : Nat) (he : w[q0]? = some (a, .inr (ci, fs))) (hc : zCl[ci]? = some (C, T, N)) (hcat : Nat.ble (st.map fun v => v.category).sum 8 = true) (hd : decode cc pc = .ok (.invokevirtual idx, 3)) (k : Go X w' L (pc + 3) st) : Go X w L pc st0 :=
  g_cv hX hy hsel hl0 hM hst hdc hmx hn hw hw' q0 ci he hc hcat hd k
theorem g_cs (hX : Ok X own cc n d c) (hy : zCas y bytes maxL ret ny) (hl0 : Cond.methodLink own idx y ∈ zB) (hM : KM y bytes maxL ret dc c As wc wc' r) (hst : st0 = As.reverse ++ st) (hdc : Nat.ble (dc + 1) d = true) (hmx : Nat.ble maxL 22 = true) (hn : As.length = ny) (hw : w = w1 ++ (wc ++ w2)) (hw' : w1 ++ (wc' ++ w2) = w') (hcat : Nat.ble (st.map fun v => v.category).sum 8 = true) (hd : decode cc pc = .ok (.invokestatic idx, 3)) (k : Go X w' L (pc + 3) (r.toList ++ st)) : Go X w L pc st0 := by
  subst hst
  obtain ⟨p, l, e, R, s, m, args, below, meth, cd, cells, slots, Q, D, tys, A⟩ := X; obtain ⟨hx, hb, hml, hown, -, hB, hK, hN, ht, ⟨hr1, hr2⟩, hr3, hr4⟩ := hX; intro H locs ls hP hD hS hl
  obtain ⟨h1, h2, h3, h4, h5, h6⟩ := hy
  have g1 := Nat.le_of_ble_eq_true hdc
  have g2 := Nat.le_of_ble_eq_true hmx
  have g3 := Nat.le_of_ble_eq_true hcat
  have hro : (zRm dc).frames + 1 ≤ R.frames ∧ 8 + (maxL + 11) + (zRm dc).locals ≤ R.locals := ⟨Nat.le_trans g1 hr1, by show 8 + (maxL + 11) + 41 * dc ≤ _; omega⟩
  subst hw; subst hw'
  refine zRun (w1 := w1) (wc := wc) (wc' := wc') (w2 := w2) (va_runS (As := As) (rest := st) ⟨hx, hb, hml, hown, hB⟩ (hM.2 l D) ⟨callB_of ny hB (zGood y h3) rfl rfl rfl (hB _ h2) (hB _ hl0) ⟨h4, h5, h6⟩ hro, hB _ h1⟩ ⟨zFb, fun U hU hW => ⟨rfl, by rw [hU]; exact zSubP hP, by rw [← ht]; exact va_K.moved hW.alike hK, zNW.warm hW hN, zSubD hD⟩⟩ rfl hn (hl.1.trans hml) rfl (lv_room g3) hd ⟨hr3, hr4⟩) hP hD hS hM.1 ?_
  exact fun H1 locs1 hP1 hD1 hS1 => k H1 locs1 ls hP1 hD1 hS1 hl
theorem g_csI {v : Int32} (hX : Ok X own cc n d c) (hy : zCas y bytes maxL ret ny) (hl0 : Cond.methodLink own idx y ∈ zB) (hM : KM y bytes maxL ret dc c As [] [] (some (.int v))) (hst : st0 = As.reverse ++ st) (hdc : Nat.ble (dc + 1) d = true) (hmx : Nat.ble maxL 22 = true) (hn : As.length = ny) (hcat : Nat.ble (st.map fun v => v.category).sum 8 = true) (hd : decode cc pc = .ok (.invokestatic idx, 3)) (k : Go X w L (pc + 3) (.int v :: st)) : Go X w L pc st0 :=
  g_cs (w1 := []) (w2 := w) hX hy hl0 hM hst hdc hmx hn rfl rfl hcat hd k
theorem g_csNI {v : Int32} {host : String} (hX : Ok X own cc n d c) (hy : zCas y bytes maxL ret ny) (hl0 : (own, idx, y, host) ∈ zNm) (hM : KM y bytes maxL ret dc c As [] [] (some (.int v))) (hst : st0 = As.reverse ++ st) (hdc : Nat.ble (dc + 1) d = true) (hmx : Nat.ble maxL 22 = true) (hn : As.length = ny) (hcat : Nat.ble (st.map fun v => v.category).sum 8 = true) (hd : decode cc pc = .ok (.invokestatic idx, 3)) (k : Go X w L (pc + 3) (.int v :: st)) : Go X w L pc st0 := by
  subst hst
  obtain ⟨p, l, e, R, s, m, args, below, meth, cd, cells, slots, Q, D, tys, A⟩ := X; obtain ⟨hx, hb, hml, hown, -, hB, hK, hN, ht, ⟨hr1, hr2⟩, hr3, hr4⟩ := hX; intro H locs ls hP hD hS hl
  obtain ⟨h1, h2, h3, h4, h5, h6⟩ := hy
  have g1 := Nat.le_of_ble_eq_true hdc
  have g2 := Nat.le_of_ble_eq_true hmx
  have g3 := Nat.le_of_ble_eq_true hcat
  have hro : (zRm dc).frames + 1 ≤ R.frames ∧ 8 + (maxL + 11) + (zRm dc).locals ≤ R.locals := ⟨Nat.le_trans g1 hr1, by show 8 + (maxL + 11) + 41 * dc ≤ _; omega⟩
  have hP0 : va_P D zCl ([] ++ ([] ++ w)) H := hP
  have hD0 : va_D A ([] ++ ([] ++ w)) := hD
  refine zRun (w1 := []) (wc := []) (wc' := []) (w2 := w) (r := some (.int v)) (va_runSN (As := As) (rest := st) (host := host) ⟨hx, hb, hml, hown, hB⟩ (hM.2 l D) ⟨va_cnB ny hB (zGood y h3) rfl rfl rfl (hN.2 _ hl0) (hB _ h2) ⟨h4, h5, h6⟩ hro, hB _ h1, trivial⟩ ⟨zFb, fun U hU hW => ⟨rfl, by rw [hU]; exact zSubP hP0, by rw [← ht]; exact va_K.moved hW.alike hK, zNW.warm hW hN, zSubD hD0⟩⟩ rfl hn (hl.1.trans hml) rfl (lv_room g3) hd ⟨hr3, hr4⟩) hP0 hD0 hS hM.1 ?_
  exact fun H1 locs1 hP1 hD1 hS1 => k H1 locs1 ls hP1 hD1 hS1 hl
end GCALL
theorem zself (w : va_W) : w = [] ++ (w ++ []) := by simp
theorem zbind {α β : Type} {a : Option α} {f : α → Option β} {o : β} (h : a.bind f = some o) : ∃ x, a = some x ∧ f x = some o := by
  cases a with
  | none => cases h
  | some x => exact ⟨x, rfl, h⟩
theorem zperm {X : zX} {w w' : va_W} {L : List (Nat × Value)} {pc : Nat} {st : List Value} (h : w.Perm w') (k : Go X w' L pc st) : Go X w L pc st := by
  obtain ⟨p, l, e, R, s, m, args, below, meth, cd, cells, slots, Q, D, tys, A⟩ := X
  intro H locs ls hP hD hS hl
  refine k H locs ls (zPin fun q hq => zPof hP q (h.mem_iff.mpr hq)) ?_ hS hl
  refine ⟨fun i j x y hi hj hxy => ?_, fun k q hk => ?_⟩
  · have nd : (w.map Prod.fst).Nodup := by
      refine List.pairwise_iff_getElem.mpr (fun i j hi hj hij heq => ?_)
      simp only [List.length_map] at hi hj
      have e1 : w[i]? = some w[i] := List.getElem?_eq_getElem hi
      have e2 : w[j]? = some w[j] := List.getElem?_eq_getElem hj
      have := hD.1 i j _ _ e1 e2 (by simpa using heq)
      omega
    have nd' : (w'.map Prod.fst).Nodup := (h.map Prod.fst).nodup_iff.mp nd
    have hil := (List.getElem?_eq_some_iff.mp hi).1
    have hjl := (List.getElem?_eq_some_iff.mp hj).1
    have e1 := (List.getElem?_eq_some_iff.mp hi).2
    have e2 := (List.getElem?_eq_some_iff.mp hj).2
    rcases Nat.lt_trichotomy i j with g | g | g
    · exact (List.pairwise_iff_getElem.mp nd' i j (by simpa using hil) (by simpa using hjl) g (by simp [e1, e2, hxy])).elim
    · exact g
    · exact (List.pairwise_iff_getElem.mp nd' j i (by simpa using hjl) (by simpa using hil) g (by simp [e1, e2, hxy])).elim
  · obtain ⟨j, hj⟩ := List.getElem?_of_mem (h.mem_iff.mpr (List.mem_of_getElem? hk))
    exact hD.2 j q hj
