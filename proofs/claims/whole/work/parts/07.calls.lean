/-! ===== entries and calls ===== -/
theorem z_args (b : Nat) (ak : Nat → Option Nat) (as : List Value) : ∀ i, lv_args i (as.map (zr b ak)) = zLs b ak (lv_args i as) := by
  induction as with
  | nil => intro i; rfl
  | cons w t ih =>
    intro i
    simp only [List.map_cons, lv_args, zr_cat, zLs, ih]
theorem z_sl (b : Nat) (ak : Nat → Option Nat) (as : List Value) : (lg_sl (as.map (zr b ak))).length = (lg_sl as).length := by
  induction as with
  | nil => rfl
  | cons w t ih =>
    simp only [lg_sl, List.map_cons, List.flatMap_cons, List.length_append, zr_cat] at ih ⊢
    rw [ih]
    congr 1
    split <;> rfl
theorem Cl.of {M : zM} {as : List Value} {h : zH} {r : Option Value} {h' : zH} (hy : plainName M.1.cls = true) (hn : (lg_sl as).length ≤ M.2.2.1) (k : Zt none M 0 0 0 (lv_args 0 as) [] h r h') : Cl M as h r h' := by
  intro l b D dT ak av
  refine Met.ofW (cc := M.2.1) (maxL := M.2.2.1) (ret := M.2.2.2.1) hy rfl ?_
  intro p e s m args below meth c s₁ B hml hv
  obtain ⟨rfl, hb0, hsz, hP, hV⟩ := hv
  have hl := lv_entry (as.map (zr b ak)) (n := M.2.2.1) (by rw [z_sl]; exact hn)
  rw [lg_entry_eq]
  generalize (lg_sl (as.map (zr b ak)) ++ List.replicate (M.2.2.1 - (lg_sl (as.map (zr b ak))).length) Slot.unset).toArray = ls at hl ⊢
  rw [z_args] at hl
  exact k l b D dT ak av p e _ s m _ below meth c s.heap [] ls ⟨B.exec, B.bytes, hml, B.returns, B.notSynchronized, (name_of_methodNamed B.named B.method).1, findClass_of_methodNamed B.named, hV, hb0, ⟨Nat.le_refl _, Nat.le_refl _, rfl, rfl⟩, fun x hx => by cases hx⟩ ⟨hsz, hP, va_S.rf⟩ hl
/-- what the tables say of a callee -/
def zcF (M' : zM) (n : Nat) : Prop := Cond.code M'.1 M'.2.1 M'.2.2.1 M'.2.2.2.1 ∈ zGW ∧ Cond.initialized M'.1.cls ∈ zGW ∧ M'.1.cls ≠ "java/lang/invoke/MethodHandle" ∧ M'.1.cls ≠ "java/lang/invoke/VarHandle" ∧ (parseMethodDescriptor M'.1.desc).map (fun d => d.parameters.length) = some n
def zcV (M' : zM) (n c : Nat) : Prop := zcF M' n ∧ Cond.instanceMethod M'.1 ∈ zGW ∧ Cond.selects M'.1.cls M'.1 M'.1 ∈ zGW ∧ c < 13 ∧ zRn c = M'.1.cls
def zcS (M' : zM) (n : Nat) : Prop := zcF M' n ∧ Cond.static M'.1 ∈ zGW
def zcI (M' : zM) (n : Nat) : Prop := zcF M' n ∧ M'.1.name = "<init>" ∧ Cond.instanceMethod M'.1 ∈ zGW ∧ M'.2.2.2.1 = none
def zln (own : String) (idx : Nat) (y : MethodName) : Prop := Cond.methodLink own idx y ∈ zGW ∨ ∃ host, Cond.methodLinkNest own idx y host ∈ zGW
def zfr (M M' : zM) : Prop := M'.2.2.2.2.1 + 1 ≤ M.2.2.2.2.1 ∧ M'.2.2.1 ≤ 60
theorem zPc_blind {b : Nat} {D : va_G} {dT : Nat → ClassId} {ak : Nat → Option Nat} {av : Nat → Nat} {as : List Value} {h : zH} : FrameBlind (zPc b D dT ak av as h) := fun _ _ _ _ q => ⟨q.1, q.2.1, q.2.2.1, q.2.2.2.1, zV_calling q.2.2.2.2⟩
section ZC
variable {X : Option (Nat × (Nat → Int32))} {M : zM} {u v pc : Nat} {lv : List (Nat × Value)} {st : List Value} {h : zH} {r : Option Value} {h' : zH}
theorem z_run {p : Program} {l : Launch} {e : Env} {R : Room} {s : State} {m : MethodId} {args : Array Value} {below : List Frame} {meth : Method} {c0 : Code} {H : Heap} {locs : List Loc} {b : Nat} {D : va_G} {dT : Nat → ClassId} {ak : Nat → Option Nat} {av : Nat → Nat} {ls : Array Slot} {st0 : List Value} {mc ms : Nat} {r1 : Option Value} {h1 : zH} {a : Array Value} (hr : va_Run p l e R s m args below meth c0 H locs u v mc ms (F0 m pc ls st0) (st.map (zr b ak)) (zQc b D dT ak r1 h1 a) (fun q => b ≤ q)) (F : zFx X M R b D dT ak av p s m args meth c0) (P : zHp b D dT s H locs h) (L : lv_has ls M.2.2.1 (zLs b ak lv)) (k : Zt X M (u + mc) (v + ms) (pc + 3) lv (r1.toList ++ st) h1 r h') : W p l e R s m args below meth c0 H locs u v (MQ below (zQc b D dT ak r h') args s M.2.2.2.2.2.1 M.2.2.2.2.2.2 (fun q => b ≤ q)) (F0 m pc ls st0) := by
  intro T hT X1
  obtain ⟨w, st₀, t, T', L1, h0, X', hL, e1, e2, ⟨hv, hsz, hP, hF1, hF2⟩, go⟩ := hr T hT X1
  cases hv
  have hS := P.2.2
  rw [h0] at hF1 hF2
  have P1 : zHp b D dT s T'.heap (locs ++ L1) h1 := by
    refine ⟨by rw [e1]; exact hsz, by rw [e1]; exact hP, ?_⟩
    refine ⟨Nat.le_trans hS.1 (by rw [e1]; exact hF1), fun q g1 g2 => ?_, fun q hq => ?_⟩
    · rw [e1, hF2 q (Nat.lt_of_lt_of_le g1 hS.1) g2]
      exact hS.2.1 q g1 g2
    · rcases List.mem_append.mp hq with g | g
      · exact hS.2.2 q g
      · exact hL q g
  obtain ⟨t2, a1, b1⟩ := k l b D dT ak av p e R s m args below meth c0 T'.heap (locs ++ L1) ls F P1 L T' rfl X'
  refine ⟨t2, go t2 ?_, b1⟩
  have hstk : List.map (zr b ak) (r1.toList ++ st) = (r1.map (zr b ak)).toList ++ List.map (zr b ak) st := by cases r1 <;> rfl
  rw [hstk] at a1
  exact a1
theorem z_words {M' : zM} {n : Nat} {R : Room} {s : State} {args : Array Value} {b : Nat} {D : va_G} {dT : Nat → ClassId} {ak : Nat → Option Nat} {av : Nat → Nat} (hV : zV b D dT ak av s) (hcf : zcF M' n) : ∀ w ∈ [Cond.code M'.1 M'.2.1 M'.2.2.1 M'.2.2.2.1], ∀ (a' : Array Value) (U : State), s.WarmedH U.vm → w.before a' U = true := by
  intro w hw a' U hW
  rw [List.mem_singleton] at hw
  subst hw
  exact word_at hW (Or.inl rfl) (z_hts hV (args := args) _ hcf.1)
theorem z_callB {M' : zM} {n idx : Nat} {R : Room} {s : State} {args : Array Value} {b : Nat} {D : va_G} {dT : Nat → ClassId} {ak : Nat → Option Nat} {av : Nat → Nat} {own : String} (hV : zV b D dT ak av s) (hcf : zcF M' n) (hroom : M.2.2.2.2.1 ≤ R.frames ∧ 80 * M.2.2.2.2.1 ≤ R.locals) (hfr : zfr M M') (hl : Cond.methodLink own idx M'.1 ∈ zGW) : CallB R s args own idx M'.1 M'.2.1 M'.2.2.1 M'.2.2.2.1 [Cond.code M'.1 M'.2.1 M'.2.2.1 M'.2.2.2.1] (zRm M') M'.2.2.2.2.2.1 M'.2.2.2.2.2.2 n := by
  obtain ⟨f1, f2⟩ := hfr
  refine ⟨rfl, rfl, Nat.le_trans f1 hroom.1, ?_, z_words (R := R) (args := args) hV hcf, List.mem_cons_self, z_hts hV _ hcf.1, z_hts hV _ hcf.2.1, ⟨hcf.2.2.1, hcf.2.2.2.1⟩, fun sig hs => ?_, z_hts hV _ hl⟩
  · show 8 + (M'.2.2.1 + 11) + 80 * M'.2.2.2.2.1 ≤ R.locals
    have := hroom.2
    omega
  · have h2 := hcf.2.2.2.2
    rw [hs] at h2
    exact (Option.some.inj h2).symm
theorem z_callN {M' : zM} {n idx : Nat} {R : Room} {s : State} {args : Array Value} {b : Nat} {D : va_G} {dT : Nat → ClassId} {ak : Nat → Option Nat} {av : Nat → Nat} {own host : String} (hV : zV b D dT ak av s) (hcf : zcF M' n) (hroom : M.2.2.2.2.1 ≤ R.frames ∧ 80 * M.2.2.2.2.1 ≤ R.locals) (hfr : zfr M M') (hl : Cond.methodLinkNest own idx M'.1 host ∈ zGW) : va_CN R s args own idx M'.1 host M'.2.1 M'.2.2.1 M'.2.2.2.1 [Cond.code M'.1 M'.2.1 M'.2.2.1 M'.2.2.2.1] (zRm M') M'.2.2.2.2.2.1 M'.2.2.2.2.2.2 n := by
  obtain ⟨f1, f2⟩ := hfr
  refine ⟨⟨rfl, rfl, Nat.le_trans f1 hroom.1, ?_, z_words (R := R) (args := args) hV hcf, List.mem_cons_self⟩, z_hts hV _ hcf.1, z_hts hV _ hcf.2.1, ⟨hcf.2.2.1, hcf.2.2.2.1⟩, fun sig hs => ?_, z_hts hV _ hl⟩
  · show 8 + (M'.2.2.1 + 11) + 80 * M'.2.2.2.2.1 ≤ R.locals
    have := hroom.2
    omega
  · have h2 := hcf.2.2.2.2
    rw [hs] at h2
    exact (Option.some.inj h2).symm
theorem z_cats (b : Nat) (ak : Nat → Option Nat) (st : List Value) : ((st.map (zr b ak)).map fun v => v.category) = st.map fun v => v.category := by
  rw [List.map_map]
  apply List.map_congr_left
  intro w _
  exact zr_cat b ak w
theorem z_stk (b : Nat) (ak : Nat → Option Nat) (As st : List Value) : (As.reverse ++ st).map (zr b ak) = (As.map (zr b ak)).reverse ++ st.map (zr b ak) := by simp
theorem z_room {m : MethodId} {ls : Array Slot} {st0 : List Value} (b : Nat) (ak : Nat → Option Nat) (hst : (st.map fun v => v.category).sum ≤ 8) : 2 * (F0 m pc ls st0).monitorRoom + ((st.map (zr b ak)).map fun v => v.category).sum ≤ 8 := lv_room (by rw [z_cats]; exact hst)
theorem z_virt {M' : zM} {a c n idx : Nat} {As stk : List Value} {r1 : Option Value} {h1 : zH} (hd : decode M.2.1 pc = .ok (.invokevirtual idx, 3)) (hcv : zcV M' n c) (hl : zln M.1.cls idx M'.1) (hfr : zfr M M') (hn : As.length = n) (hstk : stk = As.reverse ++ .ref a :: st) (hst : (st.map fun v => v.category).sum ≤ 8) (hu : u + M'.2.2.2.2.2.1 ≤ M.2.2.2.2.2.1) (hv : v + M'.2.2.2.2.2.2 ≤ M.2.2.2.2.2.2) (ha : zo h a c) (hc : Cl M' (.ref a :: As) h r1 h1) (k : Zt X M (u + M'.2.2.2.2.2.1) (v + M'.2.2.2.2.2.2) (pc + 3) lv (r1.toList ++ st) h1 r h') : Zt X M u v pc lv stk h r h' := by
  subst hstk
  intro l b D dT ak av p e R s m args below meth c0 H locs ls F P L
  obtain ⟨hx, hb, hml, hret, hlocks, hname, hown, hV, hbs, hroom, hX⟩ := id F
  obtain ⟨hcf, hin, hse, hc13, hcn⟩ := hcv
  have hrec := va_recv hV.1 P.2.1 (zCl_at hc13) (zE_obj (dT := dT) (b := b) ha hc13)
  rw [hcn] at hrec
  have hpre : PreV s H M'.1.cls (b + a) (zPc b D dT ak av (.ref a :: As) h) (As.map (zr b ak)) := ⟨zPc_blind, hrec, fun U hU hW => ⟨rfl, by rw [hU]; have := P.2.2.1; omega, by rw [hU]; exact P.1, by rw [hU]; exact P.2.1, zV_go hV hW hU P.2.2⟩⟩
  have hstk2 : (As.reverse ++ .ref a :: st).map (zr b ak) = (As.map (zr b ak)).reverse ++ .ref (b + a) :: st.map (zr b ak) := z_stk b ak As (.ref a :: st)
  rw [hstk2]
  have hn2 : (As.map (zr b ak)).length = n := by rw [List.length_map]; exact hn
  have hcr : u + M'.2.2.2.2.2.1 ≤ R.cells ∧ v + M'.2.2.2.2.2.2 ≤ R.slots := ⟨by rw [hroom.2.2.1]; exact hu, by rw [hroom.2.2.2]; exact hv⟩
  rcases hl with hl | ⟨host, hl⟩
  · exact z_run (va_runV ⟨hx, hb, hml, hown, z_hts hV⟩ (hc l b D dT ak av) ⟨z_callB hV hcf ⟨hroom.1, hroom.2.1⟩ hfr hl, z_hts hV _ hin, z_hts hV _ hse⟩ hpre rfl hn2 L.1 rfl (z_room b ak hst) hd hcr) F P L k
  · exact z_run (va_runVN ⟨hx, hb, hml, hown, z_hts hV⟩ (hc l b D dT ak av) ⟨z_callN hV hcf ⟨hroom.1, hroom.2.1⟩ hfr hl, z_hts hV _ hin, z_hts hV _ hse⟩ hpre rfl hn2 L.1 rfl (z_room b ak hst) hd hcr) F P L k
theorem z_stat {M' : zM} {n idx : Nat} {As stk : List Value} {r1 : Option Value} {h1 : zH} (hd : decode M.2.1 pc = .ok (.invokestatic idx, 3)) (hcs : zcS M' n) (hl : zln M.1.cls idx M'.1) (hfr : zfr M M') (hn : As.length = n) (hstk : stk = As.reverse ++ st) (hst : (st.map fun v => v.category).sum ≤ 8) (hu : u + M'.2.2.2.2.2.1 ≤ M.2.2.2.2.2.1) (hv : v + M'.2.2.2.2.2.2 ≤ M.2.2.2.2.2.2) (hc : Cl M' As h r1 h1) (k : Zt X M (u + M'.2.2.2.2.2.1) (v + M'.2.2.2.2.2.2) (pc + 3) lv (r1.toList ++ st) h1 r h') : Zt X M u v pc lv stk h r h' := by
  subst hstk
  intro l b D dT ak av p e R s m args below meth c0 H locs ls F P L
  obtain ⟨hx, hb, hml, hret, hlocks, hname, hown, hV, hbs, hroom, hX⟩ := id F
  obtain ⟨hcf, hstt⟩ := hcs
  have hpre : PreS s H (zPc b D dT ak av As h) (As.map (zr b ak)) := ⟨zPc_blind, fun U hU hW => ⟨rfl, by rw [hU]; have := P.2.2.1; omega, by rw [hU]; exact P.1, by rw [hU]; exact P.2.1, zV_go hV hW hU P.2.2⟩⟩
  rw [z_stk b ak As st]
  have hn2 : (As.map (zr b ak)).length = n := by rw [List.length_map]; exact hn
  have hcr : u + M'.2.2.2.2.2.1 ≤ R.cells ∧ v + M'.2.2.2.2.2.2 ≤ R.slots := ⟨by rw [hroom.2.2.1]; exact hu, by rw [hroom.2.2.2]; exact hv⟩
  rcases hl with hl | ⟨host, hl⟩
  · exact z_run (va_runS ⟨hx, hb, hml, hown, z_hts hV⟩ (hc l b D dT ak av) ⟨z_callB hV hcf ⟨hroom.1, hroom.2.1⟩ hfr hl, z_hts hV _ hstt⟩ hpre rfl hn2 L.1 rfl (z_room b ak hst) hd hcr) F P L k
  · exact z_run (va_runSN ⟨hx, hb, hml, hown, z_hts hV⟩ (hc l b D dT ak av) ⟨z_callN hV hcf ⟨hroom.1, hroom.2.1⟩ hfr hl, z_hts hV _ hstt, trivial⟩ hpre rfl hn2 L.1 rfl (z_room b ak hst) hd hcr) F P L k
theorem z_init {M' : zM} {a n idx : Nat} {As stk : List Value} {h1 : zH} (hd : decode M.2.1 pc = .ok (.invokespecial idx, 3)) (hci : zcI M' n) (hl : zln M.1.cls idx M'.1) (hfr : zfr M M') (hn : As.length = n) (hstk : stk = As.reverse ++ .ref a :: st) (hst : (st.map fun v => v.category).sum ≤ 8) (hu : u + M'.2.2.2.2.2.1 ≤ M.2.2.2.2.2.1) (hv : v + M'.2.2.2.2.2.2 ≤ M.2.2.2.2.2.2) (hc : Cl M' (.ref a :: As) h none h1) (k : Zt X M (u + M'.2.2.2.2.2.1) (v + M'.2.2.2.2.2.2) (pc + 3) lv st h1 r h') : Zt X M u v pc lv stk h r h' := by
  subst hstk
  intro l b D dT ak av p e R s m args below meth c0 H locs ls F P L
  obtain ⟨hx, hb, hml, hret, hlocks, hname, hown, hV, hbs, hroom, hX⟩ := id F
  obtain ⟨hcf, hnm, hin, hrn⟩ := hci
  have hpre : PreS s H (zPc b D dT ak av (.ref a :: As) h) (.ref (b + a) :: As.map (zr b ak)) := ⟨zPc_blind, fun U hU hW => ⟨rfl, by rw [hU]; have := P.2.2.1; omega, by rw [hU]; exact P.1, by rw [hU]; exact P.2.1, zV_go hV hW hU P.2.2⟩⟩
  have hstk2 : (As.reverse ++ .ref a :: st).map (zr b ak) = (As.map (zr b ak)).reverse ++ .ref (b + a) :: st.map (zr b ak) := z_stk b ak As (.ref a :: st)
  rw [hstk2]
  have hn2 : (As.map (zr b ak)).length = n := by rw [List.length_map]; exact hn
  have hcr : u + M'.2.2.2.2.2.1 ≤ R.cells ∧ v + M'.2.2.2.2.2.2 ≤ R.slots := ⟨by rw [hroom.2.2.1]; exact hu, by rw [hroom.2.2.2]; exact hv⟩
  have hcw := hc l b D dT ak av
  rcases hl with hl | ⟨host, hl⟩
  · have hB := z_callB (M := M) (R := R) (args := args) (own := M.1.cls) hV hcf ⟨hroom.1, hroom.2.1⟩ hfr hl
    rw [hrn] at hB hcw
    exact z_run (r1 := none) (va_runI ⟨hx, hb, hml, hown, z_hts hV⟩ hcw ⟨hB, hnm, z_hts hV _ hin⟩ hpre rfl hn2 L.1 rfl (z_room b ak hst) hd hcr) F P L k
  · have hB := z_callN (M := M) (R := R) (args := args) (own := M.1.cls) hV hcf ⟨hroom.1, hroom.2.1⟩ hfr hl
    rw [hrn] at hB hcw
    exact z_run (r1 := none) (va_runIN ⟨hx, hb, hml, hown, z_hts hV⟩ hcw ⟨hB, hnm, z_hts hV _ hin⟩ hpre rfl hn2 L.1 rfl (z_room b ak hst) hd hcr) F P L k
theorem z_objInit {a idx : Nat} (hd : decode M.2.1 pc = .ok (.invokespecial idx, 3)) (hl : Cond.methodLink M.1.cls idx Lib.objectInit ∈ zGW) (hi : Cond.instanceMethod Lib.objectInit ∈ zGW) (hc : Cond.code Lib.objectInit ⟨#[0xb1]⟩ 1 none ∈ zGW) (hdep : 1 ≤ M.2.2.2.2.1) (hst : (st.map fun v => v.category).sum ≤ 8) (k : Zt X M u v (pc + 3) lv st h r h') : Zt X M u v pc lv (.ref a :: st) h r h' := by
  intro l b D dT ak av p e R s m args below meth c0 H locs ls F P L
  obtain ⟨hx, hb, hml, hret, hlocks, hname, hown, hV, hbs, hroom, hX⟩ := id F
  have hrm := z_room (m := m) (ls := ls) (pc := pc) (st0 := List.map (zr b ak) (.ref a :: st)) b ak hst
  exact W.objInit hx hb hown (z_hts hV _ hl) (z_hts hV _ hi) (z_hts hV _ hc) rfl (L.1.trans hml.symm) rfl hd (Nat.le_trans hdep hroom.1) (by have := hroom.2.1; omega) (k l b D dT ak av p e R s m args below meth c0 H locs ls F P L)
theorem z_ldc {idx : Nat} {w : Int32} (hd : decode M.2.1 pc = .ok (.ldc idx, 2)) (hl : Cond.constant M.1.cls idx w ∈ zGW) (k : Zt X M u v (pc + 2) lv (.int w :: st) h r h') : Zt X M u v pc lv st h r h' := by
  intro l b D dT ak av p e R s m args below meth c0 H locs ls F P L
  obtain ⟨hx, hb, hml, hret, hlocks, hname, hown, hV, hbs, hroom, hX⟩ := id F
  exact lv_ldc hx hb hown (z_hts hV _ hl) hd (k l b D dT ak av p e R s m args below meth c0 H locs ls F P L)
theorem z_ldcw {idx : Nat} {w : Int32} (hd : decode M.2.1 pc = .ok (.ldc_w idx, 3)) (hl : Cond.constant M.1.cls idx w ∈ zGW) (k : Zt X M u v (pc + 3) lv (.int w :: st) h r h') : Zt X M u v pc lv st h r h' := by
  intro l b D dT ak av p e R s m args below meth c0 H locs ls F P L
  obtain ⟨hx, hb, hml, hret, hlocks, hname, hown, hV, hbs, hroom, hX⟩ := id F
  exact lv_ldcw hx hb hown (z_hts hV _ hl) hd (k l b D dT ak av p e R s m args below meth c0 H locs ls F P L)
theorem z_ldc2 {idx : Nat} {w : Int64} (hd : decode M.2.1 pc = .ok (.ldc2_w idx, 3)) (hl : Cond.constantLong M.1.cls idx w ∈ zGW) (k : Zt X M u v (pc + 3) lv (.long w :: st) h r h') : Zt X M u v pc lv st h r h' := by
  intro l b D dT ak av p e R s m args below meth c0 H locs ls F P L
  obtain ⟨hx, hb, hml, hret, hlocks, hname, hown, hV, hbs, hroom, hX⟩ := id F
  exact lv_ldc2 hx hb hown (z_hts hV _ hl) hd (k l b D dT ak av p e R s m args below meth c0 H locs ls F P L)
theorem z_ldcS {idx j : Nat} {tx : String} (hd : decode M.2.1 pc = .ok (.ldc idx, 2)) (ho : M.1.cls = RX6) (hj : zTx[j]? = some (idx, tx)) (k : Zt X M u v (pc + 2) lv (.retAddr j :: st) h r h') : Zt X M u v pc lv st h r h' := by
  intro l b D dT ak av p e R s m args below meth c0 H locs ls F P L
  obtain ⟨hx, hb, hml, hret, hlocks, hname, hown, hV, hbs, hroom, hX⟩ := id F
  have kk := k l b D dT ak av p e R s m args below meth c0 H locs ls F P L
  have hj11 : j < 11 := by
    have h1 := (List.getElem?_eq_some_iff.mp hj).1
    exact h1
  simp only [List.map_cons, zr] at kk
  rw [(hV.2.2.2.2.2.2.2 j hj11).1] at kk
  exact va_ldcS hx hb (by rw [← ho]; exact hown) (hV.2.2.2.2.1 j _ hj) hd kk
theorem z_sld {Ls : Nat} {xs : Nat → Int32} {i : Int32} (hX : X = some (Ls, xs)) (hd : decode M.2.1 pc = .ok (.iaload, 1)) (hi : vp_in i Ls) (k : Zt X M u v (pc + 1) lv (.int (xs i.toNatClampNeg) :: st) h r h') : Zt X M u v pc lv (.int i :: .retAddr 1000 :: st) h r h' := by
  intro l b D dT ak av p e R s m args below meth c0 H locs ls F P L
  obtain ⟨hx, hb, hml, hret, hlocks, hname, hown, hV, hbs, hroom, hX2⟩ := id F
  obtain ⟨bs, g0, g1, g2⟩ := hX2 _ hX
  simp only [List.map_cons, zr, g0]
  exact va_sld hx hb g1 (Nat.lt_of_lt_of_le g2 hbs) (Nat.not_le.mpr g2) P.2.2 hi hd (k l b D dT ak av p e R s m args below meth c0 H locs ls F P L)
theorem z_slen {Ls : Nat} {xs : Nat → Int32} (hX : X = some (Ls, xs)) (hd : decode M.2.1 pc = .ok (.arraylength, 1)) (k : Zt X M u v (pc + 1) lv (.int (Int32.ofNat Ls) :: st) h r h') : Zt X M u v pc lv (.retAddr 1000 :: st) h r h' := by
  intro l b D dT ak av p e R s m args below meth c0 H locs ls F P L
  obtain ⟨hx, hb, hml, hret, hlocks, hname, hown, hV, hbs, hroom, hX2⟩ := id F
  obtain ⟨bs, g0, g1, g2⟩ := hX2 _ hX
  simp only [List.map_cons, zr, g0]
  exact va_slen hx hb g1 (Nat.lt_of_lt_of_le g2 hbs) (Nat.not_le.mpr g2) P.2.2 hd (k l b D dT ak av p e R s m args below meth c0 H locs ls F P L)
end ZC
