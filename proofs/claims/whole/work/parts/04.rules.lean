/-! ===== a call (Cl) and a place inside a method (Zt); one rule an instruction ===== -/
/-- a method: name, code, max locals, return type; depth, cells and slots that it may make -/
abbrev zM : Type := MethodName × ByteArray × Nat × Option FieldType × Nat × Nat × Nat
def zr (b : Nat) (ak : Nat → Option Nat) : Value → Value
  | .ref i => .ref (b + i)
  | .retAddr j => va_rf (ak j)
  | v => v
theorem zr_cat (b : Nat) (ak : Nat → Option Nat) (v : Value) : (zr b ak v).category = v.category := by
  cases v <;> first | rfl | (rename_i j; show (va_rf (ak j)).category = _; cases ak j <;> rfl)
def zrv : Value → Bool
  | .ref _ => true
  | .retAddr _ => true
  | .null => true
  | _ => false
def zrn : Value → Bool
  | .ref _ => true
  | .null => true
  | _ => false
def zLen : List Nat := [4, 7, 4, 6, 5, 5, 4, 4, 5, 4, 5]
def zByt : List (List Int32) := [[119, 111, 114, 100], [102, 111, 108, 108, 111, 119, 115], [97, 115, 107, 115], [115, 116, 111, 110, 101, 115], [102, 114, 111, 115, 116], [102, 111, 114, 103, 101], [109, 111, 115, 115], [99, 104, 105, 112], [115, 112, 108, 105, 116], [108, 105, 110, 101], [100, 101, 112, 116, 104]]
def zTx : List (Nat × String) := [(143, "word"), (145, "follows"), (147, "asks"), (149, "stones"), (157, "frost"), (159, "forge"), (161, "moss"), (163, "chip"), (165, "split"), (135, "line"), (141, "depth")]
/-- the String constants, by their numbers, and the static that String's methods read -/
def zS (b : Nat) (ak : Nat → Option Nat) (av : Nat → Nat) (U : State) : Prop :=
  vk_S 11 zLen zByt av (fun j => av (100 + j)) (fun q => b ≤ q) U U.heap ∧ (∀ (j : Nat) (q : Nat × String), zTx[j]? = some q → vk_R RX6 q.1 q.2 (av j) U) ∧ va_Z "java/lang/String" "COMPACT_STRINGS" "Z" (.int 1) (fun q => b ≤ q) U U.heap ∧ va_Z "jdk/internal/util/Preconditions" "SIOOBE_FORMATTER" "Ljava/util/function/BiFunction;" (va_rf (ak 200)) (fun q => b ≤ q) U U.heap ∧ ∀ j, j < 11 → ak j = some (av j) ∧ ak (100 + j) = some (av (100 + j))
def zV (b : Nat) (D : va_G) (dT : Nat → ClassId) (ak : Nat → Option Nat) (av : Nat → Nat) (U : State) : Prop := va_K D vwCl (zTys dT) U ∧ (∀ w ∈ zGW, zw w U) ∧ (∀ C ∈ [RX0, RX3, RX4, RX5, RX9], va_AO C U) ∧ zS b ak av U
theorem zV_calling {b : Nat} {D : va_G} {dT : Nat → ClassId} {ak : Nat → Option Nat} {av : Nat → Nat} {U : State} {g : JFrame} {mk : MethodId} {a : Array Value} (h : zV b D dT ak av U) : zV b D dT ak av (U.calling g mk a) := by
  obtain ⟨h1, h2, h6, h3, h4, h5, h7, h8⟩ := h
  have hv : U.vm.Alike (U.calling g mk a).vm := Vm.Alike.refl U.vm
  exact ⟨va_K.moved hv h1, fun w hw => zw_calling (List.mem_filter.mp hw).2 (h2 w hw), fun C hC => va_AO.moved hv (h6 C hC), vk_S.moved hv h3, fun j q hq => vk_R.same rfl (h4 j q hq), va_Z.moved hv h5, va_Z.moved hv h7, h8⟩
theorem zV_go {b : Nat} {D : va_G} {dT : Nat → ClassId} {ak : Nat → Option Nat} {av : Nat → Nat} {s U : State} {H : Heap} {locs : List Loc} (h : zV b D dT ak av s) (hW : s.WarmedH U.vm) (hH : U.heap = H) (hS : va_S (fun q => b ≤ q) s.heap H locs) : zV b D dT ak av U := by
  subst hH
  obtain ⟨h1, h2, h6, h3, h4, h5, h7, h8⟩ := h
  exact ⟨va_K.moved hW.alike h1, fun w hw => zw_warm hW (List.mem_filter.mp hw).2 (h2 w hw), fun C hC => va_AO.moved hW.alike (h6 C hC), vk_S.moved hW.alike (vk_S.kept h3 hS.2.1), fun j q hq => vk_R.warm hW (h4 j q hq), va_Z.moved hW.alike (va_Z.kept h5 hS.2.1), va_Z.moved hW.alike (va_Z.kept h7 hS.2.1), h8⟩
def zRm (M : zM) : Room := { frames := M.2.2.2.2.1, cells := M.2.2.2.2.2.1, slots := M.2.2.2.2.2.2, locals := 80 * M.2.2.2.2.1 }
def zPc (b : Nat) (D : va_G) (dT : Nat → ClassId) (ak : Nat → Option Nat) (av : Nat → Nat) (as : List Value) (h : zH) : Array Value → State → Prop := fun v U => v = (as.map (zr b ak)).toArray ∧ b ≤ U.heap.size ∧ U.heap.size = b + h.1.1 ∧ va_P D vwCl (zWs dT b h) U.heap ∧ zV b D dT ak av U
def zQc (b : Nat) (D : va_G) (dT : Nat → ClassId) (ak : Nat → Option Nat) (r : Option Value) (h' : zH) : Array Value → State → Outcome → State → Prop := fun _ st o t => o = .returned (r.map (zr b ak)) ∧ t.heap.size = b + h'.1.1 ∧ va_P D vwCl (zWs dT b h') t.heap ∧ va_F (fun q => b ≤ q) st t
/-- method M, called with these arguments at this heap, returns r (if anything) and leaves the heap h' -/
def Cl (M : zM) (as : List Value) (h : zH) (r : Option Value) (h' : zH) : Prop := ∀ (l : Launch) (b : Nat) (D : va_G) (dT : Nat → ClassId) (ak : Nat → Option Nat) (av : Nat → Nat), Met l M.1 [Cond.code M.1 M.2.1 M.2.2.1 M.2.2.2.1] (zRm M) (zPc b D dT ak av as h) (zQc b D dT ak r h') M.2.2.2.2.2.1 M.2.2.2.2.2.2 (fun q => b ≤ q)
/-- what doesn't change inside a method -/
def zFx (X : Option (Nat × (Nat → Int32))) (M : zM) (R : Room) (b : Nat) (D : va_G) (dT : Nat → ClassId) (ak : Nat → Option Nat) (av : Nat → Nat) (p : Program) (s : State) (m : MethodId) (args : Array Value) (meth : Method) (c : Code) : Prop :=
  p.tables.exec = Jvm.exec ∧ c.code = M.2.1 ∧ c.maxLocals = M.2.2.1 ∧ meth.sig.returnType = M.2.2.2.1 ∧ meth.locks = false ∧ meth.name = M.1.name ∧ s.vm.findClass M.1.cls = some m.cls ∧ zV b D dT ak av s ∧ b ≤ s.heap.size ∧ (M.2.2.2.2.1 ≤ R.frames ∧ 80 * M.2.2.2.2.1 ≤ R.locals ∧ R.cells = M.2.2.2.2.2.1 ∧ R.slots = M.2.2.2.2.2.2) ∧ ∀ x, X = some x → ∃ bs, ak 1000 = some bs ∧ va_X bs x.1 x.2 s s.heap ∧ bs < b
def zHp (b : Nat) (D : va_G) (dT : Nat → ClassId) (s : State) (H : Heap) (locs : List Loc) (h : zH) : Prop := H.size = b + h.1.1 ∧ va_P D vwCl (zWs dT b h) H ∧ va_S (fun q => b ≤ q) s.heap H locs
def zLs (b : Nat) (ak : Nat → Option Nat) (lv : List (Nat × Value)) : List (Nat × Value) := lv.map (fun q => (q.1, zr b ak q.2))
/-- from this place, with u cells and v slots made, method M comes to its end with r and h' -/
def Zt (X : Option (Nat × (Nat → Int32))) (M : zM) (u v pc : Nat) (lv : List (Nat × Value)) (st : List Value) (h : zH) (r : Option Value) (h' : zH) : Prop :=
  ∀ (l : Launch) (b : Nat) (D : va_G) (dT : Nat → ClassId) (ak : Nat → Option Nat) (av : Nat → Nat) (p : Program) (e : Env) (R : Room) (s : State) (m : MethodId) (args : Array Value) (below : List Frame) (meth : Method) (c : Code) (H : Heap) (locs : List Loc) (ls : Array Slot),
    zFx X M R b D dT ak av p s m args meth c → zHp b D dT s H locs h → lv_has ls M.2.2.1 (zLs b ak lv) → W p l e R s m args below meth c H locs u v (MQ below (zQc b D dT ak r h') args s M.2.2.2.2.2.1 M.2.2.2.2.2.2 (fun q => b ≤ q)) (F0 m pc ls (st.map (zr b ak)))
section ZR
variable {X : Option (Nat × (Nat → Int32))} {M : zM} {u v pc : Nat} {lv : List (Nat × Value)} {st : List Value} {h : zH} {r : Option Value} {h' : zH}

theorem z_iconst {n : Int} {w : Int32} (hd : decode M.2.1 pc = .ok (.iconst n, 1)) (hv : Int32.ofInt n = w) (k : Zt X M u v (pc + 1) lv (.int w :: st) h r h') : Zt X M u v pc lv (st) h r h' := fun l b D dT ak av p e R s m args below meth c H locs ls F P L => lv_iconst F.1 F.2.1 hd hv (k l b D dT ak av p e R s m args below meth c H locs ls F P L)
theorem z_bipush {n : Int} {w : Int32} (hd : decode M.2.1 pc = .ok (.bipush n, 2)) (hv : (Int8.ofInt n).toInt32 = w) (k : Zt X M u v (pc + 2) lv (.int w :: st) h r h') : Zt X M u v pc lv (st) h r h' := fun l b D dT ak av p e R s m args below meth c H locs ls F P L => lv_bipush F.1 F.2.1 hd hv (k l b D dT ak av p e R s m args below meth c H locs ls F P L)
theorem z_sipush {n : Int} {w : Int32} (hd : decode M.2.1 pc = .ok (.sipush n, 3)) (hv : (Int16.ofInt n).toInt32 = w) (k : Zt X M u v (pc + 3) lv (.int w :: st) h r h') : Zt X M u v pc lv (st) h r h' := fun l b D dT ak av p e R s m args below meth c H locs ls F P L => lv_sipush F.1 F.2.1 hd hv (k l b D dT ak av p e R s m args below meth c H locs ls F P L)
theorem z_lconst {n : Fin 2} {w : Int64} (hd : decode M.2.1 pc = .ok (.lconst n, 1)) (hv : Int64.ofNat (n : Nat) = w) (k : Zt X M u v (pc + 1) lv (.long w :: st) h r h') : Zt X M u v pc lv (st) h r h' := fun l b D dT ak av p e R s m args below meth c H locs ls F P L => lv_lconst F.1 F.2.1 hd hv (k l b D dT ak av p e R s m args below meth c H locs ls F P L)
theorem z_null (hd : decode M.2.1 pc = .ok (.aconst_null, 1)) (k : Zt X M u v (pc + 1) lv (.null :: st) h r h') : Zt X M u v pc lv (st) h r h' := fun l b D dT ak av p e R s m args below meth c H locs ls F P L => lv_null F.1 F.2.1 hd (k l b D dT ak av p e R s m args below meth c H locs ls F P L)
theorem z_iadd {x y : Int32} (hd : decode M.2.1 pc = .ok (.iadd, 1)) (k : Zt X M u v (pc + 1) lv (.int (x + y) :: st) h r h') : Zt X M u v pc lv (.int y :: .int x :: st) h r h' := fun l b D dT ak av p e R s m args below meth c H locs ls F P L => lv_iadd F.1 F.2.1 hd (k l b D dT ak av p e R s m args below meth c H locs ls F P L)
theorem z_isub {x y : Int32} (hd : decode M.2.1 pc = .ok (.isub, 1)) (k : Zt X M u v (pc + 1) lv (.int (x - y) :: st) h r h') : Zt X M u v pc lv (.int y :: .int x :: st) h r h' := fun l b D dT ak av p e R s m args below meth c H locs ls F P L => lv_isub F.1 F.2.1 hd (k l b D dT ak av p e R s m args below meth c H locs ls F P L)
theorem z_imul {x y : Int32} (hd : decode M.2.1 pc = .ok (.imul, 1)) (k : Zt X M u v (pc + 1) lv (.int (x * y) :: st) h r h') : Zt X M u v pc lv (.int y :: .int x :: st) h r h' := fun l b D dT ak av p e R s m args below meth c H locs ls F P L => lv_imul F.1 F.2.1 hd (k l b D dT ak av p e R s m args below meth c H locs ls F P L)
theorem z_iand {x y : Int32} (hd : decode M.2.1 pc = .ok (.iand, 1)) (k : Zt X M u v (pc + 1) lv (.int (x &&& y) :: st) h r h') : Zt X M u v pc lv (.int y :: .int x :: st) h r h' := fun l b D dT ak av p e R s m args below meth c H locs ls F P L => lv_iand F.1 F.2.1 hd (k l b D dT ak av p e R s m args below meth c H locs ls F P L)
theorem z_ior {x y : Int32} (hd : decode M.2.1 pc = .ok (.ior, 1)) (k : Zt X M u v (pc + 1) lv (.int (x ||| y) :: st) h r h') : Zt X M u v pc lv (.int y :: .int x :: st) h r h' := fun l b D dT ak av p e R s m args below meth c H locs ls F P L => lv_ior F.1 F.2.1 hd (k l b D dT ak av p e R s m args below meth c H locs ls F P L)
theorem z_ixor {x y : Int32} (hd : decode M.2.1 pc = .ok (.ixor, 1)) (k : Zt X M u v (pc + 1) lv (.int (x ^^^ y) :: st) h r h') : Zt X M u v pc lv (.int y :: .int x :: st) h r h' := fun l b D dT ak av p e R s m args below meth c H locs ls F P L => lv_ixor F.1 F.2.1 hd (k l b D dT ak av p e R s m args below meth c H locs ls F P L)
theorem z_idiv {x y : Int32} (hd : decode M.2.1 pc = .ok (.idiv, 1)) (hne : ¬ y = 0) (k : Zt X M u v (pc + 1) lv (.int (x / y) :: st) h r h') : Zt X M u v pc lv (.int y :: .int x :: st) h r h' := fun l b D dT ak av p e R s m args below meth c H locs ls F P L => lv_idiv F.1 F.2.1 hd hne (k l b D dT ak av p e R s m args below meth c H locs ls F P L)
theorem z_irem {x y : Int32} (hd : decode M.2.1 pc = .ok (.irem, 1)) (hne : ¬ y = 0) (k : Zt X M u v (pc + 1) lv (.int (x - x / y * y) :: st) h r h') : Zt X M u v pc lv (.int y :: .int x :: st) h r h' := fun l b D dT ak av p e R s m args below meth c H locs ls F P L => lv_irem F.1 F.2.1 hd hne (k l b D dT ak av p e R s m args below meth c H locs ls F P L)
theorem z_ladd {x y : Int64} (hd : decode M.2.1 pc = .ok (.ladd, 1)) (k : Zt X M u v (pc + 1) lv (.long (x + y) :: st) h r h') : Zt X M u v pc lv (.long y :: .long x :: st) h r h' := fun l b D dT ak av p e R s m args below meth c H locs ls F P L => lv_ladd F.1 F.2.1 hd (k l b D dT ak av p e R s m args below meth c H locs ls F P L)
theorem z_lsub {x y : Int64} (hd : decode M.2.1 pc = .ok (.lsub, 1)) (k : Zt X M u v (pc + 1) lv (.long (x - y) :: st) h r h') : Zt X M u v pc lv (.long y :: .long x :: st) h r h' := fun l b D dT ak av p e R s m args below meth c H locs ls F P L => lv_lsub F.1 F.2.1 hd (k l b D dT ak av p e R s m args below meth c H locs ls F P L)
theorem z_lmul {x y : Int64} (hd : decode M.2.1 pc = .ok (.lmul, 1)) (k : Zt X M u v (pc + 1) lv (.long (x * y) :: st) h r h') : Zt X M u v pc lv (.long y :: .long x :: st) h r h' := fun l b D dT ak av p e R s m args below meth c H locs ls F P L => lv_lmul F.1 F.2.1 hd (k l b D dT ak av p e R s m args below meth c H locs ls F P L)
theorem z_ldiv {x y : Int64} (hd : decode M.2.1 pc = .ok (.ldiv, 1)) (hne : ¬ y = 0) (k : Zt X M u v (pc + 1) lv (.long (x / y) :: st) h r h') : Zt X M u v pc lv (.long y :: .long x :: st) h r h' := fun l b D dT ak av p e R s m args below meth c H locs ls F P L => lv_ldiv F.1 F.2.1 hd hne (k l b D dT ak av p e R s m args below meth c H locs ls F P L)
theorem z_lrem {x y : Int64} (hd : decode M.2.1 pc = .ok (.lrem, 1)) (hne : ¬ y = 0) (k : Zt X M u v (pc + 1) lv (.long (x - x / y * y) :: st) h r h') : Zt X M u v pc lv (.long y :: .long x :: st) h r h' := fun l b D dT ak av p e R s m args below meth c H locs ls F P L => lv_lrem F.1 F.2.1 hd hne (k l b D dT ak av p e R s m args below meth c H locs ls F P L)
theorem z_ishl {x y : Int32} (hd : decode M.2.1 pc = .ok (.ishl, 1)) (k : Zt X M u v (pc + 1) lv (.int (x <<< (y &&& 31)) :: st) h r h') : Zt X M u v pc lv (.int y :: .int x :: st) h r h' := fun l b D dT ak av p e R s m args below meth c H locs ls F P L => lv_ishl F.1 F.2.1 hd (k l b D dT ak av p e R s m args below meth c H locs ls F P L)
theorem z_ishr {x y : Int32} (hd : decode M.2.1 pc = .ok (.ishr, 1)) (k : Zt X M u v (pc + 1) lv (.int (x >>> (y &&& 31)) :: st) h r h') : Zt X M u v pc lv (.int y :: .int x :: st) h r h' := fun l b D dT ak av p e R s m args below meth c H locs ls F P L => lv_ishr F.1 F.2.1 hd (k l b D dT ak av p e R s m args below meth c H locs ls F P L)
def zus (x y : Int32) : Int32 := (x.toUInt32 >>> (y.toUInt32 &&& Int32.toUInt32 31)).toInt32
theorem z_iushr {x y : Int32} (hd : decode M.2.1 pc = .ok (.iushr, 1)) (k : Zt X M u v (pc + 1) lv (.int (zus x y) :: st) h r h') : Zt X M u v pc lv (.int y :: .int x :: st) h r h' := fun l b D dT ak av p e R s m args below meth c H locs ls F P L => lv_iushr F.1 F.2.1 hd rfl (k l b D dT ak av p e R s m args below meth c H locs ls F P L)
theorem z_i2l {x : Int32} (hd : decode M.2.1 pc = .ok (.i2l, 1)) (k : Zt X M u v (pc + 1) lv (.long x.toInt64 :: st) h r h') : Zt X M u v pc lv (.int x :: st) h r h' := fun l b D dT ak av p e R s m args below meth c H locs ls F P L => lv_i2l F.1 F.2.1 hd rfl (k l b D dT ak av p e R s m args below meth c H locs ls F P L)
theorem z_lcmp {x y : Int64} (hd : decode M.2.1 pc = .ok (.lcmp, 1)) (k : Zt X M u v (pc + 1) lv (.int (lg_cmp x y) :: st) h r h') : Zt X M u v pc lv (.long y :: .long x :: st) h r h' := fun l b D dT ak av p e R s m args below meth c H locs ls F P L => W.lcmp F.1 F.2.1 hd (k l b D dT ak av p e R s m args below meth c H locs ls F P L)
theorem z_dup {w : Value} (hd : decode M.2.1 pc = .ok (.dup, 1)) (hw : w.category = 1) (k : Zt X M u v (pc + 1) lv (w :: w :: st) h r h') : Zt X M u v pc lv (w :: st) h r h' := fun l b D dT ak av p e R s m args below meth c H locs ls F P L => lv_dup F.1 F.2.1 hd ((zr_cat _ _ _).trans hw) (k l b D dT ak av p e R s m args below meth c H locs ls F P L)
theorem z_pop {w : Value} (hd : decode M.2.1 pc = .ok (.pop, 1)) (hw : w.category = 1) (k : Zt X M u v (pc + 1) lv (st) h r h') : Zt X M u v pc lv (w :: st) h r h' := fun l b D dT ak av p e R s m args below meth c H locs ls F P L => lv_pop F.1 F.2.1 hd ((zr_cat _ _ _).trans hw) (k l b D dT ak av p e R s m args below meth c H locs ls F P L)
theorem z_dup2 {w w2 : Value} (hd : decode M.2.1 pc = .ok (.dup2, 1)) (hw : w.category = 1) (hw2 : w2.category = 1) (k : Zt X M u v (pc + 1) lv (w :: w2 :: w :: w2 :: st) h r h') : Zt X M u v pc lv (w :: w2 :: st) h r h' := fun l b D dT ak av p e R s m args below meth c H locs ls F P L => lv_dup2_11 F.1 F.2.1 hd ((zr_cat _ _ _).trans hw) ((zr_cat _ _ _).trans hw2) (k l b D dT ak av p e R s m args below meth c H locs ls F P L)
theorem z_lv {b : Nat} {ak : Nat → Option Nat} {ls : Array Slot} {n j i : Nat} {w : Value} (L : lv_has ls n (zLs b ak lv)) (hk : lv[j]? = some (i, w)) : ls[i]? = some (.val (zr b ak w)) := lv_at L j (by simp [zLs, hk])
theorem z_iload {i : Nat} {x : Int32} (j : Nat) (hd : decode M.2.1 pc = .ok (.iload i, 2)) (hk : lv[j]? = some (i, .int x)) (k : Zt X M u v (pc + 2) lv (.int x :: st) h r h') : Zt X M u v pc lv st h r h' := fun l b D dT ak av p e R s m args below meth c H locs ls F P L => lv_iload F.1 F.2.1 hd (z_lv L hk) (k l b D dT ak av p e R s m args below meth c H locs ls F P L)
theorem z_iload_n {n : Fin 4} {x : Int32} (j : Nat) (hd : decode M.2.1 pc = .ok (.iload_n n, 1)) (hk : lv[j]? = some ((n : Nat), .int x)) (k : Zt X M u v (pc + 1) lv (.int x :: st) h r h') : Zt X M u v pc lv st h r h' := fun l b D dT ak av p e R s m args below meth c H locs ls F P L => lv_iload_n F.1 F.2.1 hd rfl (z_lv L hk) (k l b D dT ak av p e R s m args below meth c H locs ls F P L)
theorem z_lload {i : Nat} {x : Int64} (j : Nat) (hd : decode M.2.1 pc = .ok (.lload i, 2)) (hk : lv[j]? = some (i, .long x)) (k : Zt X M u v (pc + 2) lv (.long x :: st) h r h') : Zt X M u v pc lv st h r h' := fun l b D dT ak av p e R s m args below meth c H locs ls F P L => lv_lload F.1 F.2.1 hd (z_lv L hk) (k l b D dT ak av p e R s m args below meth c H locs ls F P L)
theorem z_lload_n {n : Fin 4} {x : Int64} (j : Nat) (hd : decode M.2.1 pc = .ok (.lload_n n, 1)) (hk : lv[j]? = some ((n : Nat), .long x)) (k : Zt X M u v (pc + 1) lv (.long x :: st) h r h') : Zt X M u v pc lv st h r h' := fun l b D dT ak av p e R s m args below meth c H locs ls F P L => lv_lload_n F.1 F.2.1 hd rfl (z_lv L hk) (k l b D dT ak av p e R s m args below meth c H locs ls F P L)
theorem z_aload {i : Nat} {w : Value} (j : Nat) (hd : decode M.2.1 pc = .ok (.aload i, 2)) (hk : lv[j]? = some (i, w)) (hw : zrv w = true) (k : Zt X M u v (pc + 2) lv (w :: st) h r h') : Zt X M u v pc lv st h r h' := by
  intro l b D dT ak av p e R s m args below meth c H locs ls F P L
  have kk := k l b D dT ak av p e R s m args below meth c H locs ls F P L
  have hz := z_lv L hk
  cases w with
  | ref a => exact lv_aload F.1 F.2.1 hd hz kk
  | null => exact lv_aloadN F.1 F.2.1 hd hz kk
  | retAddr a =>
    simp only [List.map_cons, zr] at kk
    simp only [zr] at hz
    cases hq : ak a with
    | none => rw [hq] at kk hz; exact lv_aloadN F.1 F.2.1 hd hz kk
    | some c => rw [hq] at kk hz; exact lv_aload F.1 F.2.1 hd hz kk
  | _ => cases hw
theorem z_aload_n {n : Fin 4} {w : Value} (j : Nat) (hd : decode M.2.1 pc = .ok (.aload_n n, 1)) (hk : lv[j]? = some ((n : Nat), w)) (hw : zrv w = true) (k : Zt X M u v (pc + 1) lv (w :: st) h r h') : Zt X M u v pc lv st h r h' := by
  intro l b D dT ak av p e R s m args below meth c H locs ls F P L
  have kk := k l b D dT ak av p e R s m args below meth c H locs ls F P L
  have hz := z_lv L hk
  cases w with
  | ref a => exact lv_aload_n F.1 F.2.1 hd rfl hz kk
  | null => exact lv_aload_nN F.1 F.2.1 hd rfl hz kk
  | retAddr a =>
    simp only [List.map_cons, zr] at kk
    simp only [zr] at hz
    cases hq : ak a with
    | none => rw [hq] at kk hz; exact lv_aload_nN F.1 F.2.1 hd rfl hz kk
    | some c => rw [hq] at kk hz; exact lv_aload_n F.1 F.2.1 hd rfl hz kk
  | _ => cases hw
def zst1 (lv : List (Nat × Value)) (i : Nat) (w : Value) : List (Nat × Value) := (i, w) :: lv.filter (fun q => !(q.1 == i) && !(q.1 + 1 == i && q.2.category == 2))
def zst2 (lv : List (Nat × Value)) (i : Nat) (w : Value) : List (Nat × Value) := (i, w) :: lv.filter (fun q => !(q.1 == i) && (!(q.1 == i + 1) && !(q.1 + 1 == i && q.2.category == 2)))
theorem zst1_map {b : Nat} {ak : Nat → Option Nat} {i : Nat} {w : Value} : (i, zr b ak w) :: (zLs b ak lv).filter (fun q => !(q.1 == i) && !(q.1 + 1 == i && q.2.category == 2)) = zLs b ak (zst1 lv i w) := by
  simp only [zLs, zst1, List.map_cons, List.filter_map]
  congr 1
  congr 1
  apply List.filter_congr
  intro q _
  simp [zr_cat]
theorem zst2_map {b : Nat} {ak : Nat → Option Nat} {i : Nat} {w : Value} : (i, zr b ak w) :: (zLs b ak lv).filter (fun q => !(q.1 == i) && (!(q.1 == i + 1) && !(q.1 + 1 == i && q.2.category == 2))) = zLs b ak (zst2 lv i w) := by
  simp only [zLs, zst2, List.map_cons, List.filter_map]
  congr 1
  congr 1
  apply List.filter_congr
  intro q _
  simp [zr_cat]
theorem z_istore {i : Nat} {x : Int32} {lv' : List (Nat × Value)} (hd : decode M.2.1 pc = .ok (.istore i, 2)) (hi : i < M.2.2.1) (hl : zst1 lv i (.int x) = lv') (k : Zt X M u v (pc + 2) lv' st h r h') : Zt X M u v pc lv (.int x :: st) h r h' := fun l b D dT ak av p e R s m args below meth c H locs ls F P L => lv_istore F.1 F.2.1 hd L hi (zst1_map (w := .int x)) (fun ls L => k l b D dT ak av p e R s m args below meth c H locs ls F P (hl ▸ L))
theorem z_istore_n {n : Fin 4} {x : Int32} {lv' : List (Nat × Value)} (hd : decode M.2.1 pc = .ok (.istore_n n, 1)) (hi : (n : Nat) < M.2.2.1) (hl : zst1 lv n (.int x) = lv') (k : Zt X M u v (pc + 1) lv' st h r h') : Zt X M u v pc lv (.int x :: st) h r h' := fun l b D dT ak av p e R s m args below meth c H locs ls F P L => lv_istore_n F.1 F.2.1 hd rfl L hi (zst1_map (w := .int x)) (fun ls L => k l b D dT ak av p e R s m args below meth c H locs ls F P (hl ▸ L))
theorem z_lstore {i : Nat} {x : Int64} {lv' : List (Nat × Value)} (hd : decode M.2.1 pc = .ok (.lstore i, 2)) (hi : i + 1 < M.2.2.1) (hl : zst2 lv i (.long x) = lv') (k : Zt X M u v (pc + 2) lv' st h r h') : Zt X M u v pc lv (.long x :: st) h r h' := fun l b D dT ak av p e R s m args below meth c H locs ls F P L => lv_lstore F.1 F.2.1 hd L hi (zst2_map (w := .long x)) (fun ls L => k l b D dT ak av p e R s m args below meth c H locs ls F P (hl ▸ L))
theorem z_lstore_n {n : Fin 4} {x : Int64} {lv' : List (Nat × Value)} (hd : decode M.2.1 pc = .ok (.lstore_n n, 1)) (hi : (n : Nat) + 1 < M.2.2.1) (hl : zst2 lv n (.long x) = lv') (k : Zt X M u v (pc + 1) lv' st h r h') : Zt X M u v pc lv (.long x :: st) h r h' := fun l b D dT ak av p e R s m args below meth c H locs ls F P L => lv_lstore_n F.1 F.2.1 hd rfl L hi (zst2_map (w := .long x)) (fun ls L => k l b D dT ak av p e R s m args below meth c H locs ls F P (hl ▸ L))
theorem z_astore {i : Nat} {w : Value} {lv' : List (Nat × Value)} (hd : decode M.2.1 pc = .ok (.astore i, 2)) (hi : (i : Nat) < M.2.2.1) (hw : zrn w = true) (hl : zst1 lv i w = lv') (k : Zt X M u v (pc + 2) lv' st h r h') : Zt X M u v pc lv (w :: st) h r h' := by
  intro l b D dT ak av p e R s m args below meth c H locs ls F P L
  cases w with
  | ref a => exact lv_astore F.1 F.2.1 hd L hi (zst1_map (w := .ref a)) (fun ls L => k l b D dT ak av p e R s m args below meth c H locs ls F P (hl ▸ L))
  | null => exact lv_astoreN F.1 F.2.1 hd L hi (zst1_map (w := .null)) (fun ls L => k l b D dT ak av p e R s m args below meth c H locs ls F P (hl ▸ L))
  | _ => cases hw
theorem z_astore_n {i : Fin 4} {w : Value} {lv' : List (Nat × Value)} (hd : decode M.2.1 pc = .ok (.astore_n i, 1)) (hi : (i : Nat) < M.2.2.1) (hw : zrn w = true) (hl : zst1 lv i w = lv') (k : Zt X M u v (pc + 1) lv' st h r h') : Zt X M u v pc lv (w :: st) h r h' := by
  intro l b D dT ak av p e R s m args below meth c H locs ls F P L
  cases w with
  | ref a => exact lv_astore_n F.1 F.2.1 hd rfl L hi (zst1_map (w := .ref a)) (fun ls L => k l b D dT ak av p e R s m args below meth c H locs ls F P (hl ▸ L))
  | null => exact lv_astore_nN F.1 F.2.1 hd rfl L hi (zst1_map (w := .null)) (fun ls L => k l b D dT ak av p e R s m args below meth c H locs ls F P (hl ▸ L))
  | _ => cases hw
theorem z_iinc {i : Nat} {n : Int} {x y : Int32} {lv' : List (Nat × Value)} (j : Nat) (hd : decode M.2.1 pc = .ok (.iinc i n, 3)) (hk : lv[j]? = some (i, .int x)) (hv : x + Int32.ofInt n = y) (hi : i < M.2.2.1) (hl : zst1 lv i (.int y) = lv') (k : Zt X M u v (pc + 3) lv' st h r h') : Zt X M u v pc lv st h r h' := fun l b D dT ak av p e R s m args below meth c H locs ls F P L => lv_iinc (k := j) F.1 F.2.1 hd L (by simp [zLs, hk]; rfl) hv hi (zst1_map (w := .int y)) (fun ls L => k l b D dT ak av p e R s m args below meth c H locs ls F P (hl ▸ L))
theorem z_if_eq {x : Int32} {off : Int} {t : Nat} (hd : decode M.2.1 pc = .ok (.ifCond .eq off, 3)) (ht : (pc : Int) + off = (t : Int)) (kt : x = 0 → Zt X M u v t lv st h r h') (kf : ¬ x = 0 → Zt X M u v (pc + 3) lv st h r h') : Zt X M u v pc lv (.int x :: st) h r h' := fun l b D dT ak av p e R s m args below meth c H locs ls F P L => lv_if_eq F.1 F.2.1 hd ht (fun q => kt q l b D dT ak av p e R s m args below meth c H locs ls F P L) (fun q => kf q l b D dT ak av p e R s m args below meth c H locs ls F P L)
theorem z_icmp_eq {x y : Int32} {off : Int} {t : Nat} (hd : decode M.2.1 pc = .ok (.if_icmp .eq off, 3)) (ht : (pc : Int) + off = (t : Int)) (kt : x = y → Zt X M u v t lv st h r h') (kf : ¬ x = y → Zt X M u v (pc + 3) lv st h r h') : Zt X M u v pc lv (.int y :: .int x :: st) h r h' := fun l b D dT ak av p e R s m args below meth c H locs ls F P L => lv_icmp_eq F.1 F.2.1 hd ht (fun q => kt q l b D dT ak av p e R s m args below meth c H locs ls F P L) (fun q => kf q l b D dT ak av p e R s m args below meth c H locs ls F P L)
theorem z_if_ne {x : Int32} {off : Int} {t : Nat} (hd : decode M.2.1 pc = .ok (.ifCond .ne off, 3)) (ht : (pc : Int) + off = (t : Int)) (kt : ¬ x = 0 → Zt X M u v t lv st h r h') (kf : x = 0 → Zt X M u v (pc + 3) lv st h r h') : Zt X M u v pc lv (.int x :: st) h r h' := fun l b D dT ak av p e R s m args below meth c H locs ls F P L => lv_if_ne F.1 F.2.1 hd ht (fun q => kt q l b D dT ak av p e R s m args below meth c H locs ls F P L) (fun q => kf q l b D dT ak av p e R s m args below meth c H locs ls F P L)
theorem z_icmp_ne {x y : Int32} {off : Int} {t : Nat} (hd : decode M.2.1 pc = .ok (.if_icmp .ne off, 3)) (ht : (pc : Int) + off = (t : Int)) (kt : ¬ x = y → Zt X M u v t lv st h r h') (kf : x = y → Zt X M u v (pc + 3) lv st h r h') : Zt X M u v pc lv (.int y :: .int x :: st) h r h' := fun l b D dT ak av p e R s m args below meth c H locs ls F P L => lv_icmp_ne F.1 F.2.1 hd ht (fun q => kt q l b D dT ak av p e R s m args below meth c H locs ls F P L) (fun q => kf q l b D dT ak av p e R s m args below meth c H locs ls F P L)
theorem z_if_lt {x : Int32} {off : Int} {t : Nat} (hd : decode M.2.1 pc = .ok (.ifCond .lt off, 3)) (ht : (pc : Int) + off = (t : Int)) (kt : x < 0 → Zt X M u v t lv st h r h') (kf : ¬ x < 0 → Zt X M u v (pc + 3) lv st h r h') : Zt X M u v pc lv (.int x :: st) h r h' := fun l b D dT ak av p e R s m args below meth c H locs ls F P L => lv_if_lt F.1 F.2.1 hd ht (fun q => kt q l b D dT ak av p e R s m args below meth c H locs ls F P L) (fun q => kf q l b D dT ak av p e R s m args below meth c H locs ls F P L)
theorem z_icmp_lt {x y : Int32} {off : Int} {t : Nat} (hd : decode M.2.1 pc = .ok (.if_icmp .lt off, 3)) (ht : (pc : Int) + off = (t : Int)) (kt : x < y → Zt X M u v t lv st h r h') (kf : ¬ x < y → Zt X M u v (pc + 3) lv st h r h') : Zt X M u v pc lv (.int y :: .int x :: st) h r h' := fun l b D dT ak av p e R s m args below meth c H locs ls F P L => lv_icmp_lt F.1 F.2.1 hd ht (fun q => kt q l b D dT ak av p e R s m args below meth c H locs ls F P L) (fun q => kf q l b D dT ak av p e R s m args below meth c H locs ls F P L)
theorem z_if_ge {x : Int32} {off : Int} {t : Nat} (hd : decode M.2.1 pc = .ok (.ifCond .ge off, 3)) (ht : (pc : Int) + off = (t : Int)) (kt : 0 ≤ x → Zt X M u v t lv st h r h') (kf : ¬ 0 ≤ x → Zt X M u v (pc + 3) lv st h r h') : Zt X M u v pc lv (.int x :: st) h r h' := fun l b D dT ak av p e R s m args below meth c H locs ls F P L => lv_if_ge F.1 F.2.1 hd ht (fun q => kt q l b D dT ak av p e R s m args below meth c H locs ls F P L) (fun q => kf q l b D dT ak av p e R s m args below meth c H locs ls F P L)
theorem z_icmp_ge {x y : Int32} {off : Int} {t : Nat} (hd : decode M.2.1 pc = .ok (.if_icmp .ge off, 3)) (ht : (pc : Int) + off = (t : Int)) (kt : y ≤ x → Zt X M u v t lv st h r h') (kf : ¬ y ≤ x → Zt X M u v (pc + 3) lv st h r h') : Zt X M u v pc lv (.int y :: .int x :: st) h r h' := fun l b D dT ak av p e R s m args below meth c H locs ls F P L => lv_icmp_ge F.1 F.2.1 hd ht (fun q => kt q l b D dT ak av p e R s m args below meth c H locs ls F P L) (fun q => kf q l b D dT ak av p e R s m args below meth c H locs ls F P L)
theorem z_if_gt {x : Int32} {off : Int} {t : Nat} (hd : decode M.2.1 pc = .ok (.ifCond .gt off, 3)) (ht : (pc : Int) + off = (t : Int)) (kt : 0 < x → Zt X M u v t lv st h r h') (kf : ¬ 0 < x → Zt X M u v (pc + 3) lv st h r h') : Zt X M u v pc lv (.int x :: st) h r h' := fun l b D dT ak av p e R s m args below meth c H locs ls F P L => lv_if_gt F.1 F.2.1 hd ht (fun q => kt q l b D dT ak av p e R s m args below meth c H locs ls F P L) (fun q => kf q l b D dT ak av p e R s m args below meth c H locs ls F P L)
theorem z_icmp_gt {x y : Int32} {off : Int} {t : Nat} (hd : decode M.2.1 pc = .ok (.if_icmp .gt off, 3)) (ht : (pc : Int) + off = (t : Int)) (kt : y < x → Zt X M u v t lv st h r h') (kf : ¬ y < x → Zt X M u v (pc + 3) lv st h r h') : Zt X M u v pc lv (.int y :: .int x :: st) h r h' := fun l b D dT ak av p e R s m args below meth c H locs ls F P L => lv_icmp_gt F.1 F.2.1 hd ht (fun q => kt q l b D dT ak av p e R s m args below meth c H locs ls F P L) (fun q => kf q l b D dT ak av p e R s m args below meth c H locs ls F P L)
theorem z_if_le {x : Int32} {off : Int} {t : Nat} (hd : decode M.2.1 pc = .ok (.ifCond .le off, 3)) (ht : (pc : Int) + off = (t : Int)) (kt : x ≤ 0 → Zt X M u v t lv st h r h') (kf : ¬ x ≤ 0 → Zt X M u v (pc + 3) lv st h r h') : Zt X M u v pc lv (.int x :: st) h r h' := fun l b D dT ak av p e R s m args below meth c H locs ls F P L => lv_if_le F.1 F.2.1 hd ht (fun q => kt q l b D dT ak av p e R s m args below meth c H locs ls F P L) (fun q => kf q l b D dT ak av p e R s m args below meth c H locs ls F P L)
theorem z_icmp_le {x y : Int32} {off : Int} {t : Nat} (hd : decode M.2.1 pc = .ok (.if_icmp .le off, 3)) (ht : (pc : Int) + off = (t : Int)) (kt : x ≤ y → Zt X M u v t lv st h r h') (kf : ¬ x ≤ y → Zt X M u v (pc + 3) lv st h r h') : Zt X M u v pc lv (.int y :: .int x :: st) h r h' := fun l b D dT ak av p e R s m args below meth c H locs ls F P L => lv_icmp_le F.1 F.2.1 hd ht (fun q => kt q l b D dT ak av p e R s m args below meth c H locs ls F P L) (fun q => kf q l b D dT ak av p e R s m args below meth c H locs ls F P L)
theorem z_goto {off : Int} {t : Nat} (hd : decode M.2.1 pc = .ok (.goto off, 3)) (ht : (pc : Int) + off = (t : Int)) (k : Zt X M u v t lv st h r h') : Zt X M u v pc lv st h r h' := fun l b D dT ak av p e R s m args below meth c H locs ls F P L => lv_goto F.1 F.2.1 hd ht (k l b D dT ak av p e R s m args below meth c H locs ls F P L)
theorem z_ifnullR {a : Nat} {off : Int} (hd : decode M.2.1 pc = .ok (.ifnull off, 3)) (k : Zt X M u v (pc + 3) lv st h r h') : Zt X M u v pc lv (.ref a :: st) h r h' := fun l b D dT ak av p e R s m args below meth c H locs ls F P L => lv_ifnull F.1 F.2.1 hd (k l b D dT ak av p e R s m args below meth c H locs ls F P L)
theorem z_ifnullN {off : Int} {t : Nat} (hd : decode M.2.1 pc = .ok (.ifnull off, 3)) (ht : (pc : Int) + off = (t : Int)) (k : Zt X M u v t lv st h r h') : Zt X M u v pc lv (.null :: st) h r h' := fun l b D dT ak av p e R s m args below meth c H locs ls F P L => lv_ifnullN F.1 F.2.1 hd ht (k l b D dT ak av p e R s m args below meth c H locs ls F P L)
theorem z_ifnonnullR {a : Nat} {off : Int} {t : Nat} (hd : decode M.2.1 pc = .ok (.ifnonnull off, 3)) (ht : (pc : Int) + off = (t : Int)) (k : Zt X M u v t lv st h r h') : Zt X M u v pc lv (.ref a :: st) h r h' := fun l b D dT ak av p e R s m args below meth c H locs ls F P L => lv_ifnonnull F.1 F.2.1 hd ht (k l b D dT ak av p e R s m args below meth c H locs ls F P L)
theorem z_ifnonnullN {off : Int} (hd : decode M.2.1 pc = .ok (.ifnonnull off, 3)) (k : Zt X M u v (pc + 3) lv st h r h') : Zt X M u v pc lv (.null :: st) h r h' := fun l b D dT ak av p e R s m args below meth c H locs ls F P L => lv_ifnonnullN F.1 F.2.1 hd (k l b D dT ak av p e R s m args below meth c H locs ls F P L)
theorem z_tableOut {dflt lo hi : Int} {offs : Array Int} {len : Nat} {x : Int32} {t : Nat} (hd : decode M.2.1 pc = .ok (.tableswitch dflt lo hi offs, len)) (hx : x.toInt < lo ∨ hi < x.toInt) (ht : (pc : Int) + dflt = (t : Int)) (k : Zt X M u v t lv st h r h') : Zt X M u v pc lv (.int x :: st) h r h' := fun l b D dT ak av p e R s m args below meth c H locs ls F P L => lv_tableOut F.1 F.2.1 hd hx ht (k l b D dT ak av p e R s m args below meth c H locs ls F P L)
theorem z_tableIn {dflt lo hi off : Int} {offs : Array Int} {len : Nat} {x : Int32} {t : Nat} (hd : decode M.2.1 pc = .ok (.tableswitch dflt lo hi offs, len)) (h1 : ¬ x.toInt < lo) (h2 : ¬ hi < x.toInt) (ho : offs[(x.toInt - lo).toNat]? = some off) (ht : (pc : Int) + off = (t : Int)) (k : Zt X M u v t lv st h r h') : Zt X M u v pc lv (.int x :: st) h r h' := fun l b D dT ak av p e R s m args below meth c H locs ls F P L => lv_tableIn F.1 F.2.1 hd h1 h2 ho ht (k l b D dT ak av p e R s m args below meth c H locs ls F P L)
theorem z_lookup {dflt off : Int} {ps : Array (Int × Int)} {len : Nat} {x : Int32} {t : Nat} (hd : decode M.2.1 pc = .ok (.lookupswitch dflt ps, len)) (hp : (ps.toList.zip (ps.toList.drop 1)).all (fun (a, next) => a.1 < next.1) = true) (ho : Op.lookupswitch.offset ps.toList dflt x.toInt = off) (ht : (pc : Int) + off = (t : Int)) (k : Zt X M u v t lv st h r h') : Zt X M u v pc lv (.int x :: st) h r h' := fun l b D dT ak av p e R s m args below meth c H locs ls F P L => lv_lookup F.1 F.2.1 hd hp ho ht (k l b D dT ak av p e R s m args below meth c H locs ls F P L)
theorem z_less {lv' : List (Nat × Value)} (ks : List Nat) (hl : lv_pick lv ks = lv') (k : Zt X M u v pc lv' st h r h') : Zt X M u v pc lv st h r h' := by
  subst hl
  intro l b D dT ak av p e R s m args below meth c H locs ls F P L
  refine k l b D dT ak av p e R s m args below meth c H locs ls F P (lv_sub L ks ?_)
  simp only [lv_pick, zLs, List.getElem?_map, List.map_filterMap]
end ZR
