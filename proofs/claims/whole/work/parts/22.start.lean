/-! ===== the start: the skeleton's words, then what holds at the law's entry ===== -/
def R_law : String := "FrostRepliesLaw"
def lw_P (b : Addr) (xs : List Int32) (args : Array Value) (s : State) : Prop := args = #[.ref b] ∧ s.IntsAt b xs ∧ xs.length ≤ 3072 ∧ (Jvm.Cond.and given_1 narrow_1).before args s = true
def lw_Q (_ : Array Value) (s : State) (o : Outcome) (t : State) : Prop := o = .returned (some (.int 1)) ∧ Framed s o t [] 600000 7302250
def lw_Z (below : List Frame) (a : Array Value) (s : State) : State → Prop := fun t => ∃ o, t.status = .running ∧ Ended t below o ∧ lw_Q a s o t
/-- the law's own end, with 1 on the stack, nothing written that was there before, its room as the claim has it -/
theorem lw_ret {p : Program} {l : Launch} {e : Env} {s : State} {m : MethodId} {below : List Frame} {meth : Method} {c : Code} {b : Nat} (hx : p.tables.exec = Jvm.exec) (hb : c.code = code) (hr : meth.sig.returnType = ret) (hlocks : meth.locks = false) {pc : Nat} {H : Heap} {ls : Array Slot} (hdg : decode code pc = .ok (.ireturn, 1)) : W p l e room_1 s m #[Value.ref b] below meth c H [] 600000 7302250 (lw_Z below #[Value.ref b] s) (F0 m pc ls [.int 1]) := by
  intro T hT X
  obtain ⟨fs, hret, hrun, hended, hW, hframe⟩ := X.leave (v := some (.int 1)) (hlocks := hlocks) (fun h => by rw [hr] at h; cases h)
  have hmeth' : T.vm.method? m = some meth := X.method'
  refine ⟨T.setFrames fs, ?_, .returned (some (.int 1)), hrun, hended, rfl, ⟨_, rfl⟩, hW, hframe⟩
  jvm_step X.here [X.here.top, hx, hb, hdg, hmeth', hr, ret, narrow_b1]
  (try refine ⟨rfl, ?_⟩); (try refine ⟨rfl, ?_⟩)
  first | (intro acts; rw [hret _ acts rfl rfl rfl]) | rw [hret _ _ rfl rfl rfl]
  exact Steps.refl _
/-- what holds at the law's entry: the machine, the code, the tables' words (any of lw_tbl by 'hts w (by decide +kernel)'), the script of L ints xs at the cell b, what the Statement gives of the start (any of its parts by flat_of_before) -/
def lw_At (p : Program) (s : State) (m : MethodId) (meth : Method) (c : Code) (b L : Nat) (xs : Nat → Int32) : Prop :=
  p.tables.exec = Jvm.exec ∧ c.code = code ∧ meth.sig.returnType = ret ∧ c.maxLocals = 4 ∧ s.vm.findClass R_law = some m.cls ∧ (∀ w ∈ lw_tbl, w.before #[Value.ref b] s = true) ∧ va_X b L xs s s.heap ∧ b < s.heap.size ∧ meth.locks = false ∧ (Jvm.Cond.and given_1 narrow_1).before #[Value.ref b] s = true ∧ meth.name = x.name
theorem wo_0 : Cond.arrayOver (.object RX0) ∈ lw_tbl := z_tA (List.mem_of_getElem? (i := 39) rfl)
theorem wo_3 : Cond.arrayOver (.object RX3) ∈ lw_tbl := z_tA (List.mem_of_getElem? (i := 37) rfl)
theorem wo_4 : Cond.arrayOver (.object RX4) ∈ lw_tbl := z_tA (List.mem_of_getElem? (i := 41) rfl)
theorem wo_5 : Cond.arrayOver (.object RX5) ∈ lw_tbl := z_tA (List.mem_of_getElem? (i := 43) rfl)
theorem wo_9 : Cond.arrayOver (.object RX9) ∈ lw_tbl := z_tA (List.mem_of_getElem? (i := 192) rfl)
theorem wo_cs : Cond.laysStatic "java/lang/String" "COMPACT_STRINGS" "Z" ∈ lw_tbl := z_tC (List.mem_of_getElem? (i := 36) rfl)
theorem wo_sf : Cond.laysStatic "jdk/internal/util/Preconditions" "SIOOBE_FORMATTER" "Ljava/util/function/BiFunction;" ∈ lw_tbl := z_tC (List.mem_of_getElem? (i := 52) rfl)
theorem wo_si : Cond.initialized "java/lang/String" ∈ lw_tbl := z_tA (List.mem_of_getElem? (i := 15) rfl)
theorem wo_pi : Cond.initialized "jdk/internal/util/Preconditions" ∈ lw_tbl := z_tA (List.mem_of_getElem? (i := 17) rfl)
theorem wo_t0 : Cond.stringRef RX6 143 "word" ∈ lw_tbl := z_tC (List.mem_of_getElem? (i := 22) rfl)
theorem wo_t1 : Cond.stringRef RX6 145 "follows" ∈ lw_tbl := z_tC (List.mem_of_getElem? (i := 75) rfl)
theorem wo_t2 : Cond.stringRef RX6 147 "asks" ∈ lw_tbl := z_tC (List.mem_of_getElem? (i := 76) rfl)
theorem wo_t3 : Cond.stringRef RX6 149 "stones" ∈ lw_tbl := z_tC (List.mem_of_getElem? (i := 77) rfl)
theorem wo_t4 : Cond.stringRef RX6 157 "frost" ∈ lw_tbl := z_tC (List.mem_of_getElem? (i := 86) rfl)
theorem wo_t5 : Cond.stringRef RX6 159 "forge" ∈ lw_tbl := z_tC (List.mem_of_getElem? (i := 87) rfl)
theorem wo_t6 : Cond.stringRef RX6 161 "moss" ∈ lw_tbl := z_tC (List.mem_of_getElem? (i := 88) rfl)
theorem wo_t7 : Cond.stringRef RX6 163 "chip" ∈ lw_tbl := z_tC (List.mem_of_getElem? (i := 89) rfl)
theorem wo_t8 : Cond.stringRef RX6 165 "split" ∈ lw_tbl := z_tC (List.mem_of_getElem? (i := 90) rfl)
theorem wo_t9 : Cond.stringRef RX6 135 "line" ∈ lw_tbl := z_tC (List.mem_of_getElem? (i := 91) rfl)
theorem wo_t10 : Cond.stringRef RX6 141 "depth" ∈ lw_tbl := z_tC (List.mem_of_getElem? (i := 92) rfl)
def zIx (j : Nat) : Nat := (zTx.getD j (0, "")).1
def zTm (j : Nat) : Term := .string RX6 (zIx j)
/-- what the Statement says of the String constants, as a list -/
def zNeed : List Cond := (List.range 11).flatMap (fun i => [Cond.exactly (zTm i) "java/lang/String", Cond.eq (.field (zTm i) "java/lang/String" "coder" "B") (.int 0), Cond.arrayOf (.field (zTm i) "java/lang/String" "value" "[B") .byte, Cond.eq (.length (.field (zTm i) "java/lang/String" "value" "[B")) (.int (Int32.ofNat (zLen.getD i 0)))] ++ (List.range (zLen.getD i 0)).map (fun j => Cond.eq (.elem (.field (zTm i) "java/lang/String" "value" "[B") (.int (Int32.ofNat j))) (.int ((zByt.getD i []).getD j 0)))) ++ [Cond.eq (.static "java/lang/String" "COMPACT_STRINGS" "Z") (.int 1), Cond.isRef (.static "jdk/internal/util/Preconditions" "SIOOBE_FORMATTER" "Ljava/util/function/BiFunction;")]
theorem zNeed_in : zNeed.all (fun w => decide (w ∈ flatC narrow_1)) = true := by decide +kernel
theorem zPair_in : (List.range 11).all (fun i => (List.range 11).all (fun j => decide (i = j) || decide (Cond.not (Cond.eq (zTm i) (zTm j)) ∈ flatC narrow_1) || decide (Cond.not (Cond.eq (zTm j) (zTm i)) ∈ flatC narrow_1))) = true := by decide +kernel
theorem zNeed_at {args : Array Value} {s : State} (h : (Jvm.Cond.and given_1 narrow_1).before args s = true) : ∀ w ∈ zNeed, w.before args s = true := by
  intro w hw
  have h1 := flat_of_before _ h
  have h2 := List.all_eq_true.mp zNeed_in w hw
  rw [decide_eq_true_eq] at h2
  exact h1 w (List.mem_append_right _ h2)
theorem zNeed_s {i : Nat} (hi : i < 11) {w : Cond} (hw : w ∈ [Cond.exactly (zTm i) "java/lang/String", Cond.eq (.field (zTm i) "java/lang/String" "coder" "B") (.int 0), Cond.arrayOf (.field (zTm i) "java/lang/String" "value" "[B") .byte, Cond.eq (.length (.field (zTm i) "java/lang/String" "value" "[B")) (.int (Int32.ofNat (zLen.getD i 0)))] ++ (List.range (zLen.getD i 0)).map (fun j => Cond.eq (.elem (.field (zTm i) "java/lang/String" "value" "[B") (.int (Int32.ofNat j))) (.int ((zByt.getD i []).getD j 0)))) : w ∈ zNeed := by
  unfold zNeed
  refine List.mem_append_left _ (List.mem_flatMap.mpr ⟨i, List.mem_range.mpr hi, hw⟩)
theorem zw_of {w : Cond} {A : Array Value} {s : State} (hg : zGood w = true) (h : w.before A s = true) : zw w s := by
  intro A'
  cases w <;> first | exact va_tabs rfl (rfl : s.vm = s.vm) h | (simp [zGood, Cond.onTables, Cond.keeps, Cond.steady] at hg; done) | exact h
/-- the empty heap -/
def zh0 : zH := ((0, fun _ => 0, fun _ => 0), fun _ _ => 0, fun _ _ => none)
theorem z_fresh {s : State} {o : Outcome} {t : State} {L : List Loc} {k n : Nat} (h : FrameEnd s o t L k n) (hL : ∀ q ∈ L, s.heap.size ≤ q.base) : Framed s o t [] k n := by
  obtain ⟨h1, h2, h3, h4, h5, h6, h7, h8⟩ := h
  refine ⟨h1, h2, h3, h4, h5, h6, h7, fun a c hc => ?_⟩
  obtain ⟨c', g1, g2, g3, g4⟩ := h8 a c hc
  refine ⟨c', g1, g2, g3, fun i _ => g4 i (fun hm => ?_)⟩
  have h9 := hL _ hm
  have h10 : a < s.heap.size := (Array.getElem?_eq_some_iff.mp hc).1
  exact absurd h10 (Nat.not_lt.mpr h9)
theorem z_arr {A : Array Value} {s : State} {ty : FieldType} (h : (Cond.arrayClass ty).before A s = true) (hty : ∀ C, ty ≠ .object C) : ∃ cA : ClassId, ArrOfT s cA ty ∧ va_RA s cA ty := by
  obtain ⟨cA, kA, comp, h1, h2, h3⟩ := Cond.arrayClass_spec h
  refine ⟨cA, fun n z => ⟨fun k h => (by cases h), kA, h2, comp, h3⟩, ?_⟩
  cases ty <;> first | exact h1 | (rename_i C; exact absurd rfl (hty C))
theorem z_arrO {A : Array Value} {s : State} {C : String} (h : (Cond.arrayOver (.object C)).before A s = true) : ∃ cA : ClassId, ArrOfT s cA (.object C) ∧ va_RA s cA (.object C) := by
  obtain ⟨comp, c, k, h1, h2, h3, h4, h5⟩ := Cond.arrayOver_spec h
  exact ⟨c, fun n z => ⟨fun k h => (by cases h), k, h3, comp, h4⟩, k, comp, h3, h4, h1, h5⟩
set_option maxHeartbeats 4000000 in
set_option maxRecDepth 20000 in
/-- what holds at the law's entry, in the words of the layer -/
theorem z_entry {p : Program} {s : State} {m : MethodId} {meth : Method} {c : Code} {b L : Nat} {xs : Nat → Int32} (C0 : lw_At p s m meth c b L xs) : ∃ (D : va_G) (dT : Nat → ClassId) (ak : Nat → Option Nat) (av : Nat → Nat), ak 1000 = some b ∧ zFx (some (L, xs)) mL_law room_1 s.heap.size D dT ak av p s m #[Value.ref b] meth c := by
  obtain ⟨hx, hb, hr, hml, hown, hts, hX, hbl, hlocks, hgv, hname⟩ := C0
  have hK0 : ∀ k : Nat, ∃ q : ClassId × (Nat → Nat), k < 13 → u_Kn s (zRn k) (zTb k) (zN k) q.1 q.2 := by
    intro k
    by_cases hk : k < 13
    · have hi : (Cond.instantiable (zRn k) (zN k)).before #[Value.ref b] s = true := hts _ (z_sub (z_c13 (P := fun k => Cond.instantiable (zRn k) (zN k) ∈ zGW) ⟨wn_0, wn_1, wn_2, wn_3, wn_4, wn_5, wn_6, wn_7, wn_8, wn_9, wn_10, wn_11, wn_12⟩ hk))
      obtain ⟨cC, iS, h⟩ := u_known (C := zRn k) (T := zTb k) (N := zN k) (n := zN k) hts (zWs_ok hk) hi
      exact ⟨(cC, iS), fun _ => h⟩
    · exact ⟨(0, fun _ => 0), fun h => absurd h hk⟩
  obtain ⟨dK, hdK⟩ := Classical.axiomOfChoice hK0
  have hT0 : ∀ t : Nat, ∃ cA : ClassId, 13 ≤ t → t < 20 → ArrOfT s cA (zTy t) ∧ va_RA s cA (zTy t) := by
    intro t
    by_cases ht : 13 ≤ t ∧ t < 20
    · rcases (show t = 13 ∨ t = 14 ∨ t = 15 ∨ t = 16 ∨ t = 17 ∨ t = 18 ∨ t = 19 by omega) with rfl | rfl | rfl | rfl | rfl | rfl | rfl
      · obtain ⟨cA, h⟩ := z_arr (hts _ (z_sub w_arrI)) (fun C h => by cases h); exact ⟨cA, fun _ _ => h⟩
      · obtain ⟨cA, h⟩ := z_arr (hts _ (z_sub w_arrZ)) (fun C h => by cases h); exact ⟨cA, fun _ _ => h⟩
      · obtain ⟨cA, h⟩ := z_arrO (hts _ wo_0); exact ⟨cA, fun _ _ => h⟩
      · obtain ⟨cA, h⟩ := z_arrO (hts _ wo_3); exact ⟨cA, fun _ _ => h⟩
      · obtain ⟨cA, h⟩ := z_arrO (hts _ wo_4); exact ⟨cA, fun _ _ => h⟩
      · obtain ⟨cA, h⟩ := z_arrO (hts _ wo_5); exact ⟨cA, fun _ _ => h⟩
      · obtain ⟨cA, h⟩ := z_arrO (hts _ wo_9); exact ⟨cA, fun _ _ => h⟩
    · exact ⟨0, fun h1 h2 => absurd ⟨h1, h2⟩ ht⟩
  obtain ⟨dT, hdT⟩ := Classical.axiomOfChoice hT0
  have hn := zNeed_at hgv
  have hA : ∀ a : Nat, a < s.heap.size → ¬ (fun q : Nat => s.heap.size ≤ q) a := fun a h => Nat.not_le.mpr h
  obtain ⟨adK, adV, hS, hev⟩ := vk_Sof (args := #[Value.ref b]) (s := s) (N := 11) (tm := zTm) (len := zLen) (byt := zByt) (A := fun q => s.heap.size ≤ q)
    (fun i hi => by have := s_lenlt i hi; omega)
    (fun i hi => hn _ (zNeed_s hi (by simp)))
    (fun i hi => hn _ (zNeed_s hi (by simp)))
    (fun i hi => hn _ (zNeed_s hi (by simp)))
    (fun i hi => hn _ (zNeed_s hi (by simp)))
    (fun i hi j hj => hn _ (zNeed_s hi (List.mem_append_right _ (List.mem_map.mpr ⟨j, List.mem_range.mpr hj, rfl⟩))))
    (fun i j hi hj hij => by
      have h1 := flat_of_before _ hgv
      have h2 := List.all_eq_true.mp (List.all_eq_true.mp zPair_in i (List.mem_range.mpr hi)) j (List.mem_range.mpr hj)
      simp only [Bool.or_eq_true, decide_eq_true_eq] at h2
      rcases h2 with (h2 | h2) | h2
      · exact absurd h2 hij
      · exact Or.inl (h1 _ (List.mem_append_right _ h2))
      · exact Or.inr (h1 _ (List.mem_append_right _ h2)))
    hA
  have hC : va_Z "java/lang/String" "COMPACT_STRINGS" "Z" (.int 1) (fun q => s.heap.size ≤ q) s s.heap := va_Zof (hts _ wo_cs) (hts _ wo_si) (va_eqt (hn _ (by unfold zNeed; exact List.mem_append_right _ (by simp)))) hA
  have hF : va_Zq "jdk/internal/util/Preconditions" "SIOOBE_FORMATTER" "Ljava/util/function/BiFunction;" (fun q => s.heap.size ≤ q) s s.heap := va_Zqof (hts _ wo_sf) (hts _ wo_pi) (hn _ (by unfold zNeed; exact List.mem_append_right _ (by simp))) hA
  obtain ⟨fm, hfm⟩ : ∃ fm : Option Nat, va_Z "jdk/internal/util/Preconditions" "SIOOBE_FORMATTER" "Ljava/util/function/BiFunction;" (va_rf fm) (fun q => s.heap.size ≤ q) s s.heap := by
    rcases hF with h | ⟨t, h⟩
    · exact ⟨none, h⟩
    · exact ⟨some t, h⟩
  let av : Nat → Nat := fun j => if j < 11 then adK j else adV (j - 100)
  let ak : Nat → Option Nat := fun j => if j = 1000 then some b else if j = 200 then fm else some (av j)
  have e1 : ∀ j, j < 11 → av j = adK j := fun j hj => by show (if j < 11 then adK j else adV (j - 100)) = adK j; rw [if_pos hj]
  have e2 : ∀ j, av (100 + j) = adV j := fun j => by show (if 100 + j < 11 then adK (100 + j) else adV (100 + j - 100)) = adV j; rw [if_neg (by omega), Nat.add_sub_cancel_left]
  refine ⟨(fun k => (dK k).1, fun k => (dK k).2), dT, ak, av, by show (if (1000 : Nat) = 1000 then some b else _) = some b; rw [if_pos rfl], hx, hb, hml, hr, hlocks, hname, hown, ⟨⟨?_, ?_⟩, ?_, ?_, ⟨?_, ?_⟩, ?_, hC, ?_, ?_⟩, Nat.le_refl _, ⟨by decide, by decide, rfl, rfl⟩, ?_⟩
  · intro k q hq
    by_cases hk : k < 13
    · rw [zCl_at hk] at hq
      cases hq
      exact hdK k hk
    · have : vwCl.length = 13 := rfl
      rw [List.getElem?_eq_none (by omega)] at hq
      cases hq
  · intro k q hq
    have hk : k < 7 := (List.getElem?_eq_some_iff.mp hq).1
    have h1 := zTys_at dT (t := 13 + k) (by omega) (by omega)
    rw [Nat.add_sub_cancel_left] at h1
    rw [h1] at hq
    cases hq
    exact hdT (13 + k) (by omega) (by omega)
  · exact fun w hw => zw_of (List.mem_filter.mp hw).2 (hts w (z_sub hw))
  · intro C hC
    simp only [List.mem_cons, List.not_mem_nil, or_false] at hC
    rcases hC with rfl | rfl | rfl | rfl | rfl
    · exact va_AO.of (hts _ wo_0)
    · exact va_AO.of (hts _ wo_3)
    · exact va_AO.of (hts _ wo_4)
    · exact va_AO.of (hts _ wo_5)
    · exact va_AO.of (hts _ wo_9)
  · intro i hi
    have e3 : (fun j => av (100 + j)) i = adV i := e2 i
    rw [e1 i hi, e3]
    exact hS.1 i hi
  · intro i j hi hj h
    rw [e1 i hi, e1 j hj] at h
    exact hS.2 i j hi hj h
  · intro j q hq
    have hj : j < 11 := (List.getElem?_eq_some_iff.mp hq).1
    rw [e1 j hj]
    have hv := hev j hj
    have hz : zTm j = Term.string RX6 q.1 := by unfold zTm zIx; rw [List.getD_eq_getElem?_getD, hq]; rfl
    rw [hz] at hv
    refine vk_R.of (A := #[Value.ref b]) ?_ hv
    have hst : Cond.stringRef RX6 q.1 q.2 ∈ lw_tbl := by
      rcases (show j = 0 ∨ j = 1 ∨ j = 2 ∨ j = 3 ∨ j = 4 ∨ j = 5 ∨ j = 6 ∨ j = 7 ∨ j = 8 ∨ j = 9 ∨ j = 10 by omega) with rfl | rfl | rfl | rfl | rfl | rfl | rfl | rfl | rfl | rfl | rfl <;> cases hq
      · exact wo_t0
      · exact wo_t1
      · exact wo_t2
      · exact wo_t3
      · exact wo_t4
      · exact wo_t5
      · exact wo_t6
      · exact wo_t7
      · exact wo_t8
      · exact wo_t9
      · exact wo_t10
    exact hts _ hst
  · show va_Z _ _ _ (va_rf (if (200 : Nat) = 1000 then some b else if (200 : Nat) = 200 then fm else _)) _ _ _
    rw [if_neg (by decide), if_pos rfl]
    exact hfm
  · intro j hj
    refine ⟨?_, ?_⟩
    · show (if j = 1000 then some b else if j = 200 then fm else some (av j)) = some (av j)
      rw [if_neg (by omega), if_neg (by omega)]
    · show (if 100 + j = 1000 then some b else if 100 + j = 200 then fm else some (av (100 + j))) = some (av (100 + j))
      rw [if_neg (by omega), if_neg (by omega)]
  · intro y hy
    cases hy
    exact ⟨b, by show (if (1000 : Nat) = 1000 then some b else _) = some b; rw [if_pos rfl], hX, hbl⟩
theorem z_law {p : Program} {e : Env} {s : State} {m : MethodId} {below : List Frame} {meth : Method} {c : Code} (l : Launch) {b L : Nat} {xs : Nat → Int32} (C0 : lw_At p s m meth c b L xs) {h' : zH} (Z : Zt (some (L, xs)) mL_law 0 0 0 [(0, .retAddr 1000)] [] zh0 (some (.int 1)) h') : W p l e room_1 s m #[Value.ref b] below meth c s.heap [] 0 0 (lw_Z below #[Value.ref b] s) (entryFrame m ([Value.ref b] : List Value).toArray 4) := by
  obtain ⟨D, dT, ak, av, hak, F⟩ := z_entry C0
  have hl := lv_entry ([.ref b]) (n := 4) (Nat.le_of_ble_eq_true rfl)
  rw [lg_entry_eq]
  generalize (lg_sl ([.ref b]) ++ List.replicate (4 - (lg_sl ([.ref b])).length) Slot.unset).toArray = ls at hl ⊢
  have hl2 : lv_has ls mL_law.2.2.1 (zLs s.heap.size ak [(0, .retAddr 1000)]) := by
    have e0 : zLs s.heap.size ak [(0, .retAddr 1000)] = [(0, .ref b)] := by simp [zLs, zr, hak, va_rf]
    rw [e0]
    exact hl
  have K := Z l s.heap.size D dT ak av p e room_1 s m #[Value.ref b] below meth c s.heap [] ls F ⟨rfl, fun k q h => by simp [zWs, zh0] at h, va_S.rf⟩ hl2
  intro T hT X
  obtain ⟨t, a1, o, b1, b2, ⟨b3, -⟩, Lc, b4, b5⟩ := K T hT X
  have b3 : o = .returned (some (.int 1)) := b3
  exact ⟨t, a1, o, b1, b2, b3, z_fresh b4 b5⟩
