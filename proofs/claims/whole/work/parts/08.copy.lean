/-! ===== System.arraycopy between int arrays ===== -/
/-- n elements of the array a0 from sp on come into the array a from dp on -/
def zCp (I : Nat → Nat → Int32) (a0 sp a dp n : Nat) : Nat → Nat → Int32 := fun q k => if q = a then va_cpy (I a0) (I a) sp dp n k else I q k
theorem zWs_setCp {dT : Nat → ClassId} {b : Nat} {g : zG} {I : Nat → Nat → Int32} {P : Nat → Nat → Option Nat} {a0 a sp dp n : Nat} (hc : g.2.1 a = 13) : (zWs dT b (g, I, P)).set a (b + a, .inl (dT 13, g.2.2 a, .inl (va_cpy (I a0) (I a) sp dp n))) = zWs dT b (g, zCp I a0 sp a dp n, P) := by
  refine z_map_set _ _ _ _ _ ?_ ?_
  · have e : zCp I a0 sp a dp n a = va_cpy (I a0) (I a) sp dp n := by funext j; simp [zCp]
    simp [zE, hc, e]
  · intro i hi
    have e : zCp I a0 sp a dp n i = I i := by funext j; simp [zCp, hi]
    simp only [zE, zFs, e]
theorem z_nn (z : Int32) (hz : ¬ z < 0) : z.toInt = (z.toNatClampNeg : Int) := by
  have hz0 : (0 : Int) ≤ z.toInt := by
    have := Int32.not_lt.mp hz
    simpa using Int32.le_iff_toInt_le.mp this
  show z.toInt = ((z.toInt.toNat : Nat) : Int)
  omega
theorem z_copy {X : Option (Nat × (Nat → Int32))} {M : zM} {u v pc : Nat} {lv : List (Nat × Value)} {st : List Value} {g : zG} {I : Nat → Nat → Int32} {Q : Nat → Nat → Option Nat} {r : Option Value} {h' : zH} {a0 a idx : Nat} {sp dp n : Int32} (hd : decode M.2.1 pc = .ok (.invokestatic idx, 3)) (hl : Cond.methodLink M.1.cls idx arraycopyName ∈ zGW) (hnat : Cond.native arraycopyName ∈ zGW) (hstat : Cond.static arraycopyName ∈ zGW) (hini : Cond.initialized "java/lang/System" ∈ zGW) (hdep : 1 ≤ M.2.2.2.2.1) (hst : (st.map fun v => v.category).sum ≤ 8) (ha0 : zo (g, I, Q) a0 13) (ha : zo (g, I, Q) a 13) (h1 : ¬ sp < 0) (h2 : ¬ dp < 0) (h3 : ¬ n < 0) (h4 : sp.toNatClampNeg + n.toNatClampNeg ≤ g.2.2 a0) (h5 : dp.toNatClampNeg + n.toNatClampNeg ≤ g.2.2 a) (kk : Zt X M u v (pc + 3) lv st (g, zCp I a0 sp.toNatClampNeg a dp.toNatClampNeg n.toNatClampNeg, Q) r h') : Zt X M u v pc lv (.int n :: .int dp :: .ref a :: .int sp :: .ref a0 :: st) (g, I, Q) r h' := by
  intro l b D dT ak av p e R s m args below meth c0 H locs ls F P L T hT X1
  obtain ⟨hx, hb, hml, hret, hlocks, hname, hown, hV, hbs, hroom, hX⟩ := id F
  have hsl : ls.size = c0.maxLocals := L.1.trans hml.symm
  have e0 := zE_ints (dT := dT) (b := b) ha0 (by decide) (by decide)
  have ee := zE_ints (dT := dT) (b := b) ha (by decide) (by decide)
  have hty := hV.1.2 0 _ (zTys_at dT (t := 13) (by decide) (by decide))
  have q0 : H[b + a0]? = some (vp_cell (dT 13) (g.2.2 a0, .inl (I a0))) := P.2.1 a0 _ e0
  have q1 : H[b + a]? = some (vp_cell (dT 13) (g.2.2 a, .inl (I a))) := P.2.1 a _ ee
  obtain ⟨-, k0, hk0, cm0, hkk0⟩ := hty.1 (g.2.2 a0) (fun j => .int (I a0 j))
  have hrm : (((st.map (zr b ak))).map fun v => v.category).sum ≤ 8 := by rw [z_cats]; exact hst
  obtain ⟨vm', X', step⟩ := X1.arraycopy hx hown (z_hts hV _ hl) (z_hts hV _ hnat) (z_hts hV _ hstat) (z_hts hV _ hini) (src := b + a0) (dst := b + a) (cs := vp_cell (dT 13) (g.2.2 a0, .inl (I a0))) (cd := vp_cell (dT 13) (g.2.2 a, .inl (I a))) (srcPos := sp) (destPos := dp) (n := n) (by rw [hT]; exact q0) (by rw [hT]; exact q1)
    (fun _ h => by cases h) (fun _ h => by cases h) (fun h => by cases h) (fun h => by cases h) hk0 hk0 hkk0 hkk0 (by simp [zTy, refKind]) h1 h2 h3
    (by rw [z_nn sp h1, z_nn n h3]; show ¬ _ > ((arrV (dT 13) (g.2.2 a0) (fun j => .int (I a0 j))).slots.size : Int); rw [arrV_size]; omega)
    (by rw [z_nn dp h2, z_nn n h3]; show ¬ _ > ((arrV (dT 13) (g.2.2 a) (fun j => .int (I a j))).slots.size : Int); rw [arrV_size]; omega)
    (fun vm₁ _ i hi => by
      have e : (vp_cell (dT 13) (g.2.2 a0, .inl (I a0))).slots.getD (sp.toNatClampNeg + i) .null = .int (I a0 (sp.toNatClampNeg + i)) := by
        show (arrV (dT 13) (g.2.2 a0) (fun j => .int (I a0 j))).slots.getD _ _ = _
        rw [Array.getD_eq_getD_getElem?, arrV_read _ _ (by omega)]
        rfl
      refine ⟨?_, ?_⟩
      · rw [e]
        rfl
      · rw [e]
        exact trivial)
    (g := F0 m pc ls (.int n :: .int dp :: .ref (b + a) :: .int sp :: .ref (b + a0) :: st.map (zr b ak))) rfl hsl (rest := st.map (zr b ak)) rfl (by rw [hb]; exact hd) (Nat.le_trans hdep hroom.1) (by show 2 * 0 + _ + (nativeFrameWords "java/lang/System" "arraycopy" 5 + 11) ≤ _; have := hroom.2.1; have hnw : nativeFrameWords "java/lang/System" "arraycopy" 5 ≤ 40 := (by decide); have hrm2 := hrm; omega)
  have e1 : copied (vp_cell (dT 13) (g.2.2 a0, .inl (I a0))) (vp_cell (dT 13) (g.2.2 a, .inl (I a))) sp dp n = vp_cell (dT 13) (g.2.2 a, .inl (va_cpy (I a0) (I a) sp.toNatClampNeg dp.toNatClampNeg n.toNatClampNeg)) := va_copied (fun z => .int z) (dT 13) (dT 13) (I a0) (I a) h4
  rw [e1] at X' step
  have hla : b + a < H.size := (Array.getElem?_eq_some_iff.mp q1).1
  generalize hnc : vp_cell (dT 13) (g.2.2 a, .inl (va_cpy (I a0) (I a) sp.toNatClampNeg dp.toNatClampNeg n.toNatClampNeg)) = nc at X' step
  have hheap : ((T.setVm vm').setCell (b + a) nc).heap = H.setIfInBounds (b + a) nc := by rw [← hT]; rfl
  have oq : ∀ q : Nat, q ≠ b + a → (H.setIfInBounds (b + a) nc)[q]? = H[q]? := fun q hq => by simp [Array.getElem?_setIfInBounds, Ne.symm hq]
  have hP1 : va_P D vwCl ((zWs dT b (g, I, Q)).set a (b + a, .inl (dT 13, g.2.2 a, .inl (va_cpy (I a0) (I a) sp.toNatClampNeg dp.toNatClampNeg n.toNatClampNeg)))) (H.setIfInBounds (b + a) nc) := by
    refine P.2.1.set (zWs_D dT b _) ee ?_ oq
    show (H.setIfInBounds (b + a) nc)[b + a]? = some (vp_cell (dT 13) (g.2.2 a, .inl (va_cpy (I a0) (I a) sp.toNatClampNeg dp.toNatClampNeg n.toNatClampNeg)))
    rw [hnc]
    simp [Array.getElem?_setIfInBounds, hla]
  rw [zWs_setCp ha.2] at hP1
  have hS1 : ∀ L1 : List Loc, (∀ q ∈ L1, b ≤ q.base) → va_S (fun q => b ≤ q) s.heap (H.setIfInBounds (b + a) nc) (locs ++ L1) := by
    intro L1 hL1
    refine ⟨by simp; exact P.2.2.1, fun q g1 g2 => ?_, fun q hq => ?_⟩
    · rw [oq q (fun e => g2 (by rw [e]; exact Nat.le_add_right b a))]
      exact P.2.2.2.1 q g1 g2
    · rcases List.mem_append.mp hq with h | h
      · exact P.2.2.2.2 q h
      · exact hL1 q h
  obtain ⟨t, a1, b1⟩ := kk l b D dT ak av p e R s m args below meth c0 (H.setIfInBounds (b + a) nc) _ ls F ⟨by rw [Array.size_setIfInBounds]; exact P.1, hP1, hS1 _ (fun q hq => by
      obtain ⟨z, -, hz⟩ := List.mem_map.mp hq
      rw [← hz]
      exact Nat.le_add_right b a)⟩ L _ hheap X'
  exact ⟨t, step t a1, b1⟩
/-! ===== Math.max, Math.min ===== -/
def zmmax (x y : Int32) : Int32 := if x < y then y else x
def zmmin (x y : Int32) : Int32 := if y < x then y else x
section ZM
variable {X : Option (Nat × (Nat → Int32))} {M : zM} {u v pc : Nat} {lv : List (Nat × Value)} {st : List Value} {h : zH} {r : Option Value} {h' : zH}
theorem z_mmax {idx : Nat} {x y : Int32} (hd : decode M.2.1 pc = .ok (.invokestatic idx, 3)) (hl : Cond.methodLink M.1.cls idx Lib.Math.max.name ∈ zGW) (hdep : 1 ≤ M.2.2.2.2.1) (hst : (st.map fun v => v.category).sum ≤ 8) (hu : u ≤ M.2.2.2.2.2.1) (hv : v ≤ M.2.2.2.2.2.2) (hS : Cond.static Lib.Math.max.name ∈ zGW) (hI : Cond.initialized "java/lang/Math" ∈ zGW) (hC : Cond.code Lib.Math.max.name Lib.Math.max.code 2 (some .int) ∈ zGW) (k : Zt X M u v (pc + 3) lv (.int (zmmax x y) :: st) h r h') : Zt X M u v pc lv (.int y :: .int x :: st) h r h' := by
  intro l b D dT ak av p e R s m args below meth c0 H locs ls F P L
  obtain ⟨hx, hb, hml, hret, hlocks, hname, hown, hV, hbs, hroom, hX⟩ := id F
  have hrm : ((st.map (zr b ak)).map fun v => v.category).sum ≤ 8 := by rw [z_cats]; exact hst
  exact va_mmax hx hb (hml.trans L.1.symm) hown (z_hts hV _ hl) (z_hts hV _ hS) (z_hts hV _ hI) (z_hts hV _ hC) (Nat.le_trans hdep hroom.1) (by have := hroom.2.1; omega) (by rw [hroom.2.2.1]; exact hu) (by rw [hroom.2.2.2]; exact hv) hd (k l b D dT ak av p e R s m args below meth c0 H locs ls F P L)
theorem z_mmin {idx : Nat} {x y : Int32} (hd : decode M.2.1 pc = .ok (.invokestatic idx, 3)) (hl : Cond.methodLink M.1.cls idx Lib.Math.min.name ∈ zGW) (hdep : 1 ≤ M.2.2.2.2.1) (hst : (st.map fun v => v.category).sum ≤ 8) (hu : u ≤ M.2.2.2.2.2.1) (hv : v ≤ M.2.2.2.2.2.2) (hS : Cond.static Lib.Math.min.name ∈ zGW) (hI : Cond.initialized "java/lang/Math" ∈ zGW) (hC : Cond.code Lib.Math.min.name Lib.Math.min.code 2 (some .int) ∈ zGW) (k : Zt X M u v (pc + 3) lv (.int (zmmin x y) :: st) h r h') : Zt X M u v pc lv (.int y :: .int x :: st) h r h' := by
  intro l b D dT ak av p e R s m args below meth c0 H locs ls F P L
  obtain ⟨hx, hb, hml, hret, hlocks, hname, hown, hV, hbs, hroom, hX⟩ := id F
  have hrm : ((st.map (zr b ak)).map fun v => v.category).sum ≤ 8 := by rw [z_cats]; exact hst
  exact va_mmin hx hb (hml.trans L.1.symm) hown (z_hts hV _ hl) (z_hts hV _ hS) (z_hts hV _ hI) (z_hts hV _ hC) (Nat.le_trans hdep hroom.1) (by have := hroom.2.1; omega) (by rw [hroom.2.2.1]; exact hu) (by rw [hroom.2.2.2]; exact hv) hd (k l b D dT ak av p e R s m args below meth c0 H locs ls F P L)
end ZM
