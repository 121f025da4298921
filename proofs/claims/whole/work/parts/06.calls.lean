/-! ===== making cells, returns, entries, calls ===== -/
theorem zDf {c : Nat} (hc : c < 13) : ∀ k, k < zN c → defaultValue (zTyF c k) = (if zRef c k = true then Value.null else .int 0) := z_c13 (P := fun c => ∀ k, k < zN c → defaultValue (zTyF c k) = (if zRef c k = true then Value.null else .int 0)) ⟨by decide +kernel, by decide +kernel, by decide +kernel, by decide +kernel, by decide +kernel, by decide +kernel, by decide +kernel, by decide +kernel, by decide +kernel, by decide +kernel, by decide +kernel, by decide +kernel, by decide +kernel⟩ hc
section ZN
variable {X : Option (Nat × (Nat → Int32))} {M : zM} {u v pc : Nat} {lv : List (Nat × Value)} {st : List Value} {h : zH} {r : Option Value} {h' : zH}
theorem z_grow {b : Nat} {D : va_G} {dT : Nat → ClassId} {s : State} {H H1 : Heap} {locs : List Loc} {c n : Nat} (P : zHp b D dT s H locs h) (z1 : H1.size = H.size + 1) (o1 : ∀ q, q < H.size → H1[q]? = H[q]?) (he : va_at D vwCl (b + h.1.1, zE dT b (zNew h c n) h.1.1) H1) : zHp b D dT s H1 locs (zNew h c n) := by
  obtain ⟨hs, hP, hS⟩ := P
  refine ⟨by rw [z1, hs]; rfl, ?_, Nat.le_trans hS.1 (by omega), fun x h1 h2 => (o1 x (Nat.lt_of_lt_of_le h1 hS.1)).trans (hS.2.1 x h1 h2), hS.2.2⟩
  rw [← zWs_new (c := c) (n := n) rfl]
  have hk : ∀ (k : Nat) (x : Nat × va_E), (zWs dT b h)[k]? = some x → H1[x.1]? = H[x.1]? := fun k x hx => o1 x.1 ((hP k x hx).lt)
  refine (hP.kept hk).app (fun k x hx => ?_)
  have hz : k < 1 := (List.getElem?_eq_some_iff.mp hx).1
  rw [show k = 0 by omega] at hx
  cases hx
  exact he
theorem zNew_tag (h : zH) (c n : Nat) : (zNew h c n).1.2.1 h.1.1 = c := by simp [zNew]
theorem zNew_len (h : zH) (c n : Nat) : (zNew h c n).1.2.2 h.1.1 = n := by simp [zNew]
theorem zNew_I (h : zH) (c n k : Nat) : (zNew h c n).2.1 h.1.1 k = 0 := by simp [zNew]
theorem zNew_P (h : zH) (c n k : Nat) : (zNew h c n).2.2 h.1.1 k = none := by simp [zNew]
theorem z_new {c idx : Nat} (hd : decode M.2.1 pc = .ok (.new idx, 3)) (hl : Cond.classLink M.1.cls idx (zRn c) ∈ zGW) (hi : Cond.instantiable (zRn c) (zN c) ∈ zGW) (hn : Cond.initialized (zRn c) ∈ zGW) (hc : c < 13) (hu : u + 1 ≤ M.2.2.2.2.2.1) (hv : v + zN c ≤ M.2.2.2.2.2.2) (kk : Zt X M (u + 1) (v + zN c) (pc + 3) lv (.ref h.1.1 :: st) (zNew h c 0) r h') : Zt X M u v pc lv st h r h' := by
  intro l b D dT ak av p e R s m args below meth c0 H locs ls F P L
  obtain ⟨hx, hb, hml, hret, hlocks, hname, hown, hV, hbs, hroom, hX⟩ := id F
  have hKn := hV.1.1 c _ (zCl_at hc)
  refine W.newcK hx hb hown (z_hts hV _ hl) (z_hts hV _ hi) (z_hts hV _ hn) rfl hd (by rw [hroom.2.2.1]; exact hu) (by rw [hroom.2.2.2]; exact hv) hKn.2.1 rfl fun H1 kC hkC e1 z1 o1 => ?_
  have he : va_at D vwCl (b + h.1.1, zE dT b (zNew h c 0) h.1.1) H1 := by
    rw [show zE dT b (zNew h c 0) h.1.1 = .inr (c, zFs b (zNew h c 0) h.1.1) by unfold zE; rw [zNew_tag]; simp [hc]]
    refine ⟨_, zCl_at hc, ?_⟩
    rw [← P.1]
    refine (u_born (args := args) (zTyF c) (z_hts hV) (zWs_in hc) hKn hkC e1 (zTyF_ok hc)).to (fun j hj => ?_)
    rw [zDf hc j hj]
    have hj : j < zN c := hj
    simp only [vp_V, zFs, zNew_tag, zNew_I, zNew_P]
    rw [List.getD_eq_getElem?_getD]
    simp only [List.getElem?_map, List.getElem?_range hj, Option.map_some, Option.getD_some, Option.map_none, va_rf]
  have P1 := z_grow P z1 o1 he
  have k1 := kk l b D dT ak av p e R s m args below meth c0 H1 locs ls F P1 L
  rw [show (List.map (zr b ak) (Value.ref h.1.1 :: st)) = Value.ref H.size :: List.map (zr b ak) st by rw [P.1]; rfl] at k1
  exact k1
theorem z_newI {n : Int32} {N : Nat} (hd : decode M.2.1 pc = .ok (.newarray .int, 2)) (ha : Cond.arrayClass .int ∈ zGW) (hn : ¬ n < 0) (hN : n.toNatClampNeg = N) (hb2 : N * 4 ≤ 536870912) (hu : u + 1 ≤ M.2.2.2.2.2.1) (hv : v + N ≤ M.2.2.2.2.2.2) (kk : Zt X M (u + 1) (v + N) (pc + 2) lv (.ref h.1.1 :: st) (zNew h 13 N) r h') : Zt X M u v pc lv (.int n :: st) h r h' := by
  intro l b D dT ak av p e R s m args below meth c0 H locs ls F P L
  obtain ⟨hx, hb, hml, hret, hlocks, hname, hown, hV, hbs, hroom, hX⟩ := id F
  refine va_newaK (atype := .int) hx hb (z_hts hV _ ha) rfl hd rfl hn hN hb2 (by rw [hroom.2.2.1]; exact hu) (by rw [hroom.2.2.2]; exact hv) rfl fun H1 cA e1 z1 o1 hAr hNm => ?_
  have hcA : cA = dT 13 := Option.some.inj (hNm.symm.trans (hV.1.2 0 _ (zTys_at dT (t := 13) (by decide) (by decide))).2)
  subst hcA
  have he : va_at D vwCl (b + h.1.1, zE dT b (zNew h 13 N) h.1.1) H1 := by
    rw [show zE dT b (zNew h 13 N) h.1.1 = .inl (dT 13, N, .inl (fun _ => 0)) by unfold zE; rw [zNew_tag, zNew_len]; simp [zNew]]
    rw [← P.1]
    exact e1
  have P1 := z_grow P z1 o1 he
  have k1 := kk l b D dT ak av p e R s m args below meth c0 H1 locs ls F P1 L
  rw [show (List.map (zr b ak) (Value.ref h.1.1 :: st)) = Value.ref H.size :: List.map (zr b ak) st by rw [P.1]; rfl] at k1
  exact k1
theorem z_newZ {n : Int32} {N : Nat} (hd : decode M.2.1 pc = .ok (.newarray .boolean, 2)) (ha : Cond.arrayClass .boolean ∈ zGW) (hn : ¬ n < 0) (hN : n.toNatClampNeg = N) (hb2 : N * 1 ≤ 536870912) (hu : u + 1 ≤ M.2.2.2.2.2.1) (hv : v + N ≤ M.2.2.2.2.2.2) (kk : Zt X M (u + 1) (v + N) (pc + 2) lv (.ref h.1.1 :: st) (zNew h 14 N) r h') : Zt X M u v pc lv (.int n :: st) h r h' := by
  intro l b D dT ak av p e R s m args below meth c0 H locs ls F P L
  obtain ⟨hx, hb, hml, hret, hlocks, hname, hown, hV, hbs, hroom, hX⟩ := id F
  refine va_newaK (atype := .boolean) hx hb (z_hts hV _ ha) rfl hd rfl hn hN hb2 (by rw [hroom.2.2.1]; exact hu) (by rw [hroom.2.2.2]; exact hv) rfl fun H1 cA e1 z1 o1 hAr hNm => ?_
  have hcA : cA = dT 14 := Option.some.inj (hNm.symm.trans (hV.1.2 1 _ (zTys_at dT (t := 14) (by decide) (by decide))).2)
  subst hcA
  have he : va_at D vwCl (b + h.1.1, zE dT b (zNew h 14 N) h.1.1) H1 := by
    rw [show zE dT b (zNew h 14 N) h.1.1 = .inl (dT 14, N, .inl (fun _ => 0)) by unfold zE; rw [zNew_tag, zNew_len]; simp [zNew]]
    rw [← P.1]
    exact e1
  have P1 := z_grow P z1 o1 he
  have k1 := kk l b D dT ak av p e R s m args below meth c0 H1 locs ls F P1 L
  rw [show (List.map (zr b ak) (Value.ref h.1.1 :: st)) = Value.ref H.size :: List.map (zr b ak) st by rw [P.1]; rfl] at k1
  exact k1
theorem z_anew {n : Int32} {N t idx : Nat} {C : String} (hd : decode M.2.1 pc = .ok (.anewarray idx, 3)) (hl : Cond.classLink M.1.cls idx C ∈ zGW) (ht : 15 ≤ t ∧ t < 20) (hC : zTy t = .object C) (hCm : C ∈ [RX0, RX3, RX4, RX5, RX9]) (hn : ¬ n < 0) (hN : n.toNatClampNeg = N) (hb2 : N * 4 ≤ 536870912) (hu : u + 1 ≤ M.2.2.2.2.2.1) (hv : v + N ≤ M.2.2.2.2.2.2) (kk : Zt X M (u + 1) (v + N) (pc + 3) lv (.ref h.1.1 :: st) (zNew h t N) r h') : Zt X M u v pc lv (.int n :: st) h r h' := by
  subst hN
  intro l b D dT ak av p e R s m args below meth c0 H locs ls F P L
  obtain ⟨hx, hb, hml, hret, hlocks, hname, hown, hV, hbs, hroom, hX⟩ := id F
  refine W.anew hx hb hown (z_hts hV _ hl) (va_AO.use (hV.2.2.1 C hCm)) rfl hd rfl hn hb2 (by rw [hroom.2.2.1]; exact hu) (by rw [hroom.2.2.2]; exact hv) fun cA kA comp f1 f2 f3 f4 => ?_
  generalize hH1 : H.push ({ cls := cA, slots := Array.replicate n.toNatClampNeg .null, vm := .none } : Cell) = H1
  have z1 : H1.size = H.size + 1 := by rw [← hH1, Array.size_push]
  have e1 : H1[H.size]? = some (arrV cA n.toNatClampNeg (fun _ => .null)) := by rw [← hH1, Array.getElem?_push_size, ← arrV_new]
  have o1 : ∀ q : Nat, q < H.size → H1[q]? = H[q]? := fun q hq => by rw [← hH1, Array.getElem?_push, if_neg (Nat.ne_of_lt hq)]
  have hcA : cA = dT t := by
    have hq := (hV.1.2 (t - 13) _ (zTys_at dT (t := t) (by omega) ht.2)).2
    rw [hC] at hq
    obtain ⟨_, _, -, -, -, g4⟩ := hq
    exact Option.some.inj (f1.symm.trans g4)
  subst hcA
  have he : va_at D vwCl (b + h.1.1, zE dT b (zNew h t n.toNatClampNeg) h.1.1) H1 := by
    have a1 : ¬ t < 13 := by omega
    have a2 : ¬ t < 15 := by omega
    rw [show zE dT b (zNew h t n.toNatClampNeg) h.1.1 = .inl (dT t, n.toNatClampNeg, .inr (.inr (.inr (.inr (fun _ => none))))) by unfold zE; rw [zNew_tag, zNew_len]; simp [zNew, a1, a2]]
    rw [← P.1]
    exact e1
  have P1 := z_grow P z1 o1 he
  have k1 := kk l b D dT ak av p e R s m args below meth c0 H1 locs ls F P1 L
  rw [show (List.map (zr b ak) (Value.ref h.1.1 :: st)) = Value.ref H.size :: List.map (zr b ak) st by rw [P.1]; rfl] at k1
  exact k1
-- returns
theorem z_end {b : Nat} {D : va_G} {dT : Nat → ClassId} {ak : Nat → Option Nat} {s t : State} {H : Heap} {locs : List Loc} {args : Array Value} (P : zHp b D dT s H locs h) (ht : t.heap = H) (w : Option Value) : zQc b D dT ak w h args s (.returned (w.map (zr b ak))) t := ⟨rfl, by rw [ht]; exact P.1, by rw [ht]; exact P.2.1, P.2.2.F ht⟩
theorem z_iret {x : Int32} (hd : decode M.2.1 pc = .ok (.ireturn, 1)) (hr : M.2.2.2.1 = some .int) (hu : u ≤ M.2.2.2.2.2.1) (hv : v ≤ M.2.2.2.2.2.2) : Zt X M u v pc lv [.int x] h (some (.int x)) h := by
  intro l b D dT ak av p e R s m args below meth c0 H locs ls F P L
  exact W.widen hu hv (W.iret F.1 F.2.1 (F.2.2.2.1.trans hr) (fun t ht _ => z_end P ht (some (.int x))) P.2.2.2.2 hd F.2.2.2.2.1)
theorem z_zret {x : Int32} (hd : decode M.2.1 pc = .ok (.ireturn, 1)) (hr : M.2.2.2.1 = some .boolean) (hx : x = 0 ∨ x = 1) (hu : u ≤ M.2.2.2.2.2.1) (hv : v ≤ M.2.2.2.2.2.2) : Zt X M u v pc lv [.int x] h (some (.int x)) h := by
  intro l b D dT ak av p e R s m args below meth c0 H locs ls F P L
  exact W.widen hu hv (W.zret F.1 F.2.1 (F.2.2.2.1.trans hr) (by rcases hx with rfl | rfl <;> decide) (fun t ht _ => z_end P ht (some (.int x))) P.2.2.2.2 hd F.2.2.2.2.1)
theorem z_lret {x : Int64} (hd : decode M.2.1 pc = .ok (.lreturn, 1)) (hr : M.2.2.2.1 = some .long) (hu : u ≤ M.2.2.2.2.2.1) (hv : v ≤ M.2.2.2.2.2.2) : Zt X M u v pc lv [.long x] h (some (.long x)) h := by
  intro l b D dT ak av p e R s m args below meth c0 H locs ls F P L
  exact W.widen hu hv (W.lret F.1 F.2.1 (F.2.2.2.1.trans hr) (fun t ht _ => z_end P ht (some (.long x))) P.2.2.2.2 hd F.2.2.2.2.1)
theorem z_aret {w : Value} {C : String} (hd : decode M.2.1 pc = .ok (.areturn, 1)) (hr : M.2.2.2.1 = some (.object C)) (hw : zrn w = true) (hu : u ≤ M.2.2.2.2.2.1) (hv : v ≤ M.2.2.2.2.2.2) : Zt X M u v pc lv [w] h (some w) h := by
  intro l b D dT ak av p e R s m args below meth c0 H locs ls F P L
  refine W.widen hu hv (W.aret F.1 F.2.1 (F.2.2.2.1.trans hr) (Or.inl ⟨C, rfl⟩) ?_ (fun t ht _ => z_end P ht (some w)) P.2.2.2.2 hd F.2.2.2.2.1)
  cases w <;> first | exact Or.inl rfl | exact Or.inr ⟨_, rfl⟩ | cases hw
theorem z_vret (hd : decode M.2.1 pc = .ok (.return_, 1)) (hr : M.2.2.2.1 = none) (hu : u ≤ M.2.2.2.2.2.1) (hv : v ≤ M.2.2.2.2.2.2) : Zt X M u v pc lv [] h none h := by
  intro l b D dT ak av p e R s m args below meth c0 H locs ls F P L
  exact W.widen hu hv (W.vret F.1 F.2.1 (F.2.2.2.1.trans hr) (fun t ht _ => z_end P ht none) P.2.2.2.2 hd F.2.2.2.2.1)
end ZN
