/-! ===== String.length(), String.charAt(int) of the constants: number j < 11 is .retAddr j, its bytes .retAddr (100 + j) ===== -/
def zcT (M' : zM) (n : Nat) : Prop := zcF M' n ∧ Cond.instanceMethod M'.1 ∈ zGW ∧ Cond.selects M'.1.cls M'.1 M'.1 ∈ zGW ∧ M'.1.cls = "java/lang/String"
section ZQ
variable {X : Option (Nat × (Nat → Int32))} {M : zM} {u v pc : Nat} {lv : List (Nat × Value)} {st : List Value} {h : zH} {r : Option Value} {h' : zH}
theorem z_sval {j idx : Nat} (hd : decode M.2.1 pc = .ok (.getfield idx, 3)) (hj : j < 11) (hl : Cond.fieldLink M.1.cls idx "java/lang/String" "value" "[B" ∈ zGW) (k : Zt X M u v (pc + 3) lv (.retAddr (100 + j) :: st) h r h') : Zt X M u v pc lv (.retAddr j :: st) h r h' := by
  intro l b D dT ak av p e R s m args below meth c0 H locs ls F P L
  obtain ⟨hx, hb, hml, hret, hlocks, hname, hown, hV, hbs, hroom, hX⟩ := id F
  obtain ⟨-, -, -, hS, -, -, -, hk8⟩ := id hV
  have kk := k l b D dT ak av p e R s m args below meth c0 H locs ls F P L
  simp only [List.map_cons, zr, (hk8 j hj).1, (hk8 j hj).2, va_rf] at kk ⊢
  exact vk_getf hx hb ((hS.1 j hj).2.2.1) P.2.2 hown (z_hts hV _ hl) (fun _ q => q) hd kk
theorem z_scod {j idx : Nat} (hd : decode M.2.1 pc = .ok (.getfield idx, 3)) (hj : j < 11) (hl : Cond.fieldLink M.1.cls idx "java/lang/String" "coder" "B" ∈ zGW) (k : Zt X M u v (pc + 3) lv (.int 0 :: st) h r h') : Zt X M u v pc lv (.retAddr j :: st) h r h' := by
  intro l b D dT ak av p e R s m args below meth c0 H locs ls F P L
  obtain ⟨hx, hb, hml, hret, hlocks, hname, hown, hV, hbs, hroom, hX⟩ := id F
  obtain ⟨-, -, -, hS, -, -, -, hk8⟩ := id hV
  have kk := k l b D dT ak av p e R s m args below meth c0 H locs ls F P L
  simp only [List.map_cons, zr, (hk8 j hj).1, va_rf] at kk ⊢
  exact vk_getf hx hb ((hS.1 j hj).2.1) P.2.2 hown (z_hts hV _ hl) (fun _ q => q) hd kk
theorem z_gcs {idx : Nat} (hd : decode M.2.1 pc = .ok (.getstatic idx, 3)) (hl : Cond.fieldLink M.1.cls idx "java/lang/String" "COMPACT_STRINGS" "Z" ∈ zGW) (k : Zt X M u v (pc + 3) lv (.int 1 :: st) h r h') : Zt X M u v pc lv st h r h' := by
  intro l b D dT ak av p e R s m args below meth c0 H locs ls F P L
  obtain ⟨hx, hb, hml, hret, hlocks, hname, hown, hV, hbs, hroom, hX⟩ := id F
  obtain ⟨-, -, -, hS, -, hC, -, hk8⟩ := id hV
  exact va_gets hx hb hC P.2.2 hown (z_hts hV _ hl) (fun _ q => q) hd (k l b D dT ak av p e R s m args below meth c0 H locs ls F P L)
theorem z_gfm {idx : Nat} (hd : decode M.2.1 pc = .ok (.getstatic idx, 3)) (hl : Cond.fieldLink M.1.cls idx "jdk/internal/util/Preconditions" "SIOOBE_FORMATTER" "Ljava/util/function/BiFunction;" ∈ zGW) (k : Zt X M u v (pc + 3) lv (.retAddr 200 :: st) h r h') : Zt X M u v pc lv st h r h' := by
  intro l b D dT ak av p e R s m args below meth c0 H locs ls F P L
  obtain ⟨hx, hb, hml, hret, hlocks, hname, hown, hV, hbs, hroom, hX⟩ := id F
  obtain ⟨-, -, -, hS, -, -, hC, hk8⟩ := id hV
  exact va_gets hx hb hC P.2.2 hown (z_hts hV _ hl) (fun _ q => q) hd (k l b D dT ak av p e R s m args below meth c0 H locs ls F P L)
theorem z_blen {j : Nat} (hd : decode M.2.1 pc = .ok (.arraylength, 1)) (hj : j < 11) (k : Zt X M u v (pc + 1) lv (.int (Int32.ofNat (zLen.getD j 0)) :: st) h r h') : Zt X M u v pc lv (.retAddr (100 + j) :: st) h r h' := by
  intro l b D dT ak av p e R s m args below meth c0 H locs ls F P L
  obtain ⟨hx, hb, hml, hret, hlocks, hname, hown, hV, hbs, hroom, hX⟩ := id F
  obtain ⟨-, -, -, hS, -, -, -, hk8⟩ := id hV
  have kk := k l b D dT ak av p e R s m args below meth c0 H locs ls F P L
  simp only [List.map_cons, zr, (hk8 j hj).2, va_rf] at kk ⊢
  exact va_tlen hx hb ((hS.1 j hj).2.2.2) P.2.2 rfl hd kk
theorem z_bald {j : Nat} {i : Int32} (hd : decode M.2.1 pc = .ok (.baload, 1)) (hj : j < 11) (hi : vp_in i (zLen.getD j 0)) (k : Zt X M u v (pc + 1) lv (.int ((zByt.getD j []).getD i.toNatClampNeg 0) :: st) h r h') : Zt X M u v pc lv (.int i :: .retAddr (100 + j) :: st) h r h' := by
  intro l b D dT ak av p e R s m args below meth c0 H locs ls F P L
  obtain ⟨hx, hb, hml, hret, hlocks, hname, hown, hV, hbs, hroom, hX⟩ := id F
  obtain ⟨-, -, -, hS, -, -, -, hk8⟩ := id hV
  have kk := k l b D dT ak av p e R s m args below meth c0 H locs ls F P L
  simp only [List.map_cons, zr, (hk8 j hj).2, va_rf] at kk ⊢
  exact va_tb hx hb ((hS.1 j hj).2.2.2) P.2.2 hi rfl hd kk
theorem z_i2c {x : Int32} (hd : decode M.2.1 pc = .ok (.i2c, 1)) (k : Zt X M u v (pc + 1) lv (.int (x.toUInt32 % 65536).toInt32 :: st) h r h') : Zt X M u v pc lv (.int x :: st) h r h' := fun l b D dT ak av p e R s m args below meth c H locs ls F P L => lv_i2c F.1 F.2.1 hd rfl (k l b D dT ak av p e R s m args below meth c H locs ls F P L)
theorem z_tret {x : Int32} {ty : FieldType} (hd : decode M.2.1 pc = .ok (.ireturn, 1)) (hr : M.2.2.2.1 = some ty) (hx : narrow ty (.int x) = .int x) (hu : u ≤ M.2.2.2.2.2.1) (hv : v ≤ M.2.2.2.2.2.2) : Zt X M u v pc lv [.int x] h (some (.int x)) h := by
  intro l b D dT ak av p e R s m args below meth c0 H locs ls F P L
  exact W.widen hu hv (W.zret F.1 F.2.1 (F.2.2.2.1.trans hr) hx (fun t ht _ => z_end P ht (some (.int x))) P.2.2.2.2 hd F.2.2.2.2.1)
theorem z_virtT {M' : zM} {j n idx : Nat} {As stk : List Value} {r1 : Option Value} {h1 : zH} (hd : decode M.2.1 pc = .ok (.invokevirtual idx, 3)) (hj : j < 11) (hcv : zcT M' n) (hl : zln M.1.cls idx M'.1) (hfr : zfr M M') (hn : As.length = n) (hstk : stk = As.reverse ++ .retAddr j :: st) (hst : (st.map fun v => v.category).sum ≤ 8) (hu : u + M'.2.2.2.2.2.1 ≤ M.2.2.2.2.2.1) (hv : v + M'.2.2.2.2.2.2 ≤ M.2.2.2.2.2.2) (hc : Cl M' (.retAddr j :: As) h r1 h1) (k : Zt X M (u + M'.2.2.2.2.2.1) (v + M'.2.2.2.2.2.2) (pc + 3) lv (r1.toList ++ st) h1 r h') : Zt X M u v pc lv stk h r h' := by
  subst hstk
  intro l b D dT ak av p e R s m args below meth c0 H locs ls F P L
  obtain ⟨hx, hb, hml, hret, hlocks, hname, hown, hV, hbs, hroom, hX⟩ := id F
  obtain ⟨hcf, hin, hse, hcn⟩ := hcv
  obtain ⟨-, -, -, hS, -, -, -, hk8⟩ := id hV
  have hzr : zr b ak (.retAddr j) = .ref (av j) := by simp only [zr, (hk8 j hj).1, va_rf]
  have hrec := vk_recv hS hj P.2.2
  rw [← hcn] at hrec
  have hpre : PreV s H M'.1.cls (av j) (zPc b D dT ak av (.retAddr j :: As) h) (As.map (zr b ak)) := ⟨zPc_blind, hrec, fun U hU hW => ⟨by rw [List.map_cons, hzr], by rw [hU]; have := P.2.2.1; omega, by rw [hU]; exact P.1, by rw [hU]; exact P.2.1, zV_go hV hW hU P.2.2⟩⟩
  have hstk2 : (As.reverse ++ .retAddr j :: st).map (zr b ak) = (As.map (zr b ak)).reverse ++ .ref (av j) :: st.map (zr b ak) := by rw [z_stk b ak As (.retAddr j :: st), List.map_cons, hzr]
  rw [hstk2]
  have hn2 : (As.map (zr b ak)).length = n := by rw [List.length_map]; exact hn
  have hcr : u + M'.2.2.2.2.2.1 ≤ R.cells ∧ v + M'.2.2.2.2.2.2 ≤ R.slots := ⟨by rw [hroom.2.2.1]; exact hu, by rw [hroom.2.2.2]; exact hv⟩
  rcases hl with hl | ⟨host, hl⟩
  · exact z_run (va_runV ⟨hx, hb, hml, hown, z_hts hV⟩ (hc l b D dT ak av) ⟨z_callB hV hcf ⟨hroom.1, hroom.2.1⟩ hfr hl, z_hts hV _ hin, z_hts hV _ hse⟩ hpre rfl hn2 L.1 rfl (z_room b ak hst) hd hcr) F P L k
  · exact z_run (va_runVN ⟨hx, hb, hml, hown, z_hts hV⟩ (hc l b D dT ak av) ⟨z_callN hV hcf ⟨hroom.1, hroom.2.1⟩ hfr hl, z_hts hV _ hin, z_hts hV _ hse⟩ hpre rfl hn2 L.1 rfl (z_room b ak hst) hd hcr) F P L k
end ZQ
def RJ0 : String := "java/lang/String"
def RJ1 : String := "java/lang/StringLatin1"
def RJ3 : String := "jdk/internal/util/Preconditions"
abbrev cJ0_length_8abf5 : ByteArray := prog_17_method_54_code
def yJ0_length_8abf5 : MethodName := ⟨RJ0, "length", "()I"⟩
theorem dJ0_length_8abf5_0 : decode cJ0_length_8abf5 0 = .ok (.aload_n 0, 1) := by decide +kernel
theorem dJ0_length_8abf5_1 : decode cJ0_length_8abf5 1 = .ok (.getfield 9, 3) := by decide +kernel
theorem dJ0_length_8abf5_4 : decode cJ0_length_8abf5 4 = .ok (.arraylength, 1) := by decide +kernel
theorem dJ0_length_8abf5_5 : decode cJ0_length_8abf5 5 = .ok (.aload_n 0, 1) := by decide +kernel
theorem dJ0_length_8abf5_6 : decode cJ0_length_8abf5 6 = .ok (.invokevirtual 335, 3) := by decide +kernel
theorem dJ0_length_8abf5_9 : decode cJ0_length_8abf5 9 = .ok (.ishr, 1) := by decide +kernel
theorem dJ0_length_8abf5_10 : decode cJ0_length_8abf5 10 = .ok (.ireturn, 1) := by decide +kernel
abbrev cJ0_charAt_5068e : ByteArray := prog_17_method_56_code
def yJ0_charAt_5068e : MethodName := ⟨RJ0, "charAt", "(I)C"⟩
theorem dJ0_charAt_5068e_0 : decode cJ0_charAt_5068e 0 = .ok (.aload_n 0, 1) := by decide +kernel
theorem dJ0_charAt_5068e_1 : decode cJ0_charAt_5068e 1 = .ok (.invokevirtual 492, 3) := by decide +kernel
theorem dJ0_charAt_5068e_4 : decode cJ0_charAt_5068e 4 = .ok (.ifCond .eq 12, 3) := by decide +kernel
theorem dJ0_charAt_5068e_7 : decode cJ0_charAt_5068e 7 = .ok (.aload_n 0, 1) := by decide +kernel
theorem dJ0_charAt_5068e_8 : decode cJ0_charAt_5068e 8 = .ok (.getfield 9, 3) := by decide +kernel
theorem dJ0_charAt_5068e_11 : decode cJ0_charAt_5068e 11 = .ok (.iload_n 1, 1) := by decide +kernel
theorem dJ0_charAt_5068e_12 : decode cJ0_charAt_5068e 12 = .ok (.invokestatic 495, 3) := by decide +kernel
theorem dJ0_charAt_5068e_15 : decode cJ0_charAt_5068e 15 = .ok (.ireturn, 1) := by decide +kernel
theorem dJ0_charAt_5068e_16 : decode cJ0_charAt_5068e 16 = .ok (.aload_n 0, 1) := by decide +kernel
theorem dJ0_charAt_5068e_17 : decode cJ0_charAt_5068e 17 = .ok (.getfield 9, 3) := by decide +kernel
theorem dJ0_charAt_5068e_20 : decode cJ0_charAt_5068e 20 = .ok (.iload_n 1, 1) := by decide +kernel
theorem dJ0_charAt_5068e_21 : decode cJ0_charAt_5068e 21 = .ok (.invokestatic 498, 3) := by decide +kernel
theorem dJ0_charAt_5068e_24 : decode cJ0_charAt_5068e 24 = .ok (.ireturn, 1) := by decide +kernel
abbrev cJ0_coder_7d493 : ByteArray := prog_17_method_152_code
def yJ0_coder_7d493 : MethodName := ⟨RJ0, "coder", "()B"⟩
theorem dJ0_coder_7d493_0 : decode cJ0_coder_7d493 0 = .ok (.getstatic 38, 3) := by decide +kernel
theorem dJ0_coder_7d493_3 : decode cJ0_coder_7d493 3 = .ok (.ifCond .eq 10, 3) := by decide +kernel
theorem dJ0_coder_7d493_6 : decode cJ0_coder_7d493 6 = .ok (.aload_n 0, 1) := by decide +kernel
theorem dJ0_coder_7d493_7 : decode cJ0_coder_7d493 7 = .ok (.getfield 15, 3) := by decide +kernel
theorem dJ0_coder_7d493_10 : decode cJ0_coder_7d493 10 = .ok (.goto 4, 3) := by decide +kernel
theorem dJ0_coder_7d493_13 : decode cJ0_coder_7d493 13 = .ok (.iconst 1, 1) := by decide +kernel
theorem dJ0_coder_7d493_14 : decode cJ0_coder_7d493 14 = .ok (.ireturn, 1) := by decide +kernel
abbrev cJ0_isLatin1_aae02 : ByteArray := prog_17_method_154_code
def yJ0_isLatin1_aae02 : MethodName := ⟨RJ0, "isLatin1", "()Z"⟩
theorem dJ0_isLatin1_aae02_0 : decode cJ0_isLatin1_aae02 0 = .ok (.getstatic 38, 3) := by decide +kernel
theorem dJ0_isLatin1_aae02_3 : decode cJ0_isLatin1_aae02 3 = .ok (.ifCond .eq 14, 3) := by decide +kernel
theorem dJ0_isLatin1_aae02_6 : decode cJ0_isLatin1_aae02 6 = .ok (.aload_n 0, 1) := by decide +kernel
theorem dJ0_isLatin1_aae02_7 : decode cJ0_isLatin1_aae02 7 = .ok (.getfield 15, 3) := by decide +kernel
theorem dJ0_isLatin1_aae02_10 : decode cJ0_isLatin1_aae02 10 = .ok (.ifCond .ne 7, 3) := by decide +kernel
theorem dJ0_isLatin1_aae02_13 : decode cJ0_isLatin1_aae02 13 = .ok (.iconst 1, 1) := by decide +kernel
theorem dJ0_isLatin1_aae02_14 : decode cJ0_isLatin1_aae02 14 = .ok (.goto 4, 3) := by decide +kernel
theorem dJ0_isLatin1_aae02_17 : decode cJ0_isLatin1_aae02 17 = .ok (.iconst 0, 1) := by decide +kernel
theorem dJ0_isLatin1_aae02_18 : decode cJ0_isLatin1_aae02 18 = .ok (.ireturn, 1) := by decide +kernel
abbrev cJ0_checkIndex_df160 : ByteArray := prog_17_method_155_code
def yJ0_checkIndex_df160 : MethodName := ⟨RJ0, "checkIndex", "(II)V"⟩
theorem dJ0_checkIndex_df160_0 : decode cJ0_checkIndex_df160 0 = .ok (.iload_n 0, 1) := by decide +kernel
theorem dJ0_checkIndex_df160_1 : decode cJ0_checkIndex_df160 1 = .ok (.iload_n 1, 1) := by decide +kernel
theorem dJ0_checkIndex_df160_2 : decode cJ0_checkIndex_df160 2 = .ok (.getstatic 1053, 3) := by decide +kernel
theorem dJ0_checkIndex_df160_5 : decode cJ0_checkIndex_df160 5 = .ok (.invokestatic 1059, 3) := by decide +kernel
theorem dJ0_checkIndex_df160_8 : decode cJ0_checkIndex_df160 8 = .ok (.pop, 1) := by decide +kernel
theorem dJ0_checkIndex_df160_9 : decode cJ0_checkIndex_df160 9 = .ok (.return_, 1) := by decide +kernel
abbrev cJ1_charAt_3b067 : ByteArray := prog_18_method_2_code
def yJ1_charAt_3b067 : MethodName := ⟨RJ1, "charAt", "([BI)C"⟩
theorem dJ1_charAt_3b067_0 : decode cJ1_charAt_3b067 0 = .ok (.iload_n 1, 1) := by decide +kernel
theorem dJ1_charAt_3b067_1 : decode cJ1_charAt_3b067 1 = .ok (.aload_n 0, 1) := by decide +kernel
theorem dJ1_charAt_3b067_2 : decode cJ1_charAt_3b067 2 = .ok (.arraylength, 1) := by decide +kernel
theorem dJ1_charAt_3b067_3 : decode cJ1_charAt_3b067 3 = .ok (.invokestatic 9, 3) := by decide +kernel
theorem dJ1_charAt_3b067_6 : decode cJ1_charAt_3b067 6 = .ok (.aload_n 0, 1) := by decide +kernel
theorem dJ1_charAt_3b067_7 : decode cJ1_charAt_3b067 7 = .ok (.iload_n 1, 1) := by decide +kernel
theorem dJ1_charAt_3b067_8 : decode cJ1_charAt_3b067 8 = .ok (.baload, 1) := by decide +kernel
theorem dJ1_charAt_3b067_9 : decode cJ1_charAt_3b067 9 = .ok (.sipush 255, 3) := by decide +kernel
theorem dJ1_charAt_3b067_12 : decode cJ1_charAt_3b067 12 = .ok (.iand, 1) := by decide +kernel
theorem dJ1_charAt_3b067_13 : decode cJ1_charAt_3b067 13 = .ok (.i2c, 1) := by decide +kernel
theorem dJ1_charAt_3b067_14 : decode cJ1_charAt_3b067 14 = .ok (.ireturn, 1) := by decide +kernel
abbrev cJ3_checkIndex_8e157 : ByteArray := prog_22_method_11_code
def yJ3_checkIndex_8e157 : MethodName := ⟨RJ3, "checkIndex", "(IILjava/util/function/BiFunction;)I"⟩
theorem dJ3_checkIndex_8e157_0 : decode cJ3_checkIndex_8e157 0 = .ok (.iload_n 0, 1) := by decide +kernel
theorem dJ3_checkIndex_8e157_1 : decode cJ3_checkIndex_8e157 1 = .ok (.ifCond .lt 8, 3) := by decide +kernel
theorem dJ3_checkIndex_8e157_4 : decode cJ3_checkIndex_8e157 4 = .ok (.iload_n 0, 1) := by decide +kernel
theorem dJ3_checkIndex_8e157_5 : decode cJ3_checkIndex_8e157 5 = .ok (.iload_n 1, 1) := by decide +kernel
theorem dJ3_checkIndex_8e157_6 : decode cJ3_checkIndex_8e157 6 = .ok (.if_icmp .lt 10, 3) := by decide +kernel
theorem dJ3_checkIndex_8e157_9 : decode cJ3_checkIndex_8e157 9 = .ok (.aload_n 2, 1) := by decide +kernel
theorem dJ3_checkIndex_8e157_10 : decode cJ3_checkIndex_8e157 10 = .ok (.iload_n 0, 1) := by decide +kernel
theorem dJ3_checkIndex_8e157_11 : decode cJ3_checkIndex_8e157 11 = .ok (.iload_n 1, 1) := by decide +kernel
theorem dJ3_checkIndex_8e157_12 : decode cJ3_checkIndex_8e157 12 = .ok (.invokestatic 95, 3) := by decide +kernel
theorem dJ3_checkIndex_8e157_15 : decode cJ3_checkIndex_8e157 15 = .ok (.athrow, 1) := by decide +kernel
theorem dJ3_checkIndex_8e157_16 : decode cJ3_checkIndex_8e157 16 = .ok (.iload_n 0, 1) := by decide +kernel
theorem dJ3_checkIndex_8e157_17 : decode cJ3_checkIndex_8e157 17 = .ok (.ireturn, 1) := by decide +kernel
abbrev mJ0_length_8abf5 : zM := (yJ0_length_8abf5, cJ0_length_8abf5, 1, (some .int), 4, 0, 0)
abbrev mJ0_charAt_5068e : zM := (yJ0_charAt_5068e, cJ0_charAt_5068e, 2, (some .char), 4, 0, 0)
abbrev mJ0_coder_7d493 : zM := (yJ0_coder_7d493, cJ0_coder_7d493, 1, (some .byte), 1, 0, 0)
abbrev mJ0_isLatin1_aae02 : zM := (yJ0_isLatin1_aae02, cJ0_isLatin1_aae02, 1, (some .boolean), 1, 0, 0)
abbrev mJ0_checkIndex_df160 : zM := (yJ0_checkIndex_df160, cJ0_checkIndex_df160, 2, none, 2, 0, 0)
abbrev mJ1_charAt_3b067 : zM := (yJ1_charAt_3b067, cJ1_charAt_3b067, 2, (some .char), 3, 0, 0)
abbrev mJ3_checkIndex_8e157 : zM := (yJ3_checkIndex_8e157, cJ3_checkIndex_8e157, 3, (some .int), 1, 0, 0)
theorem kfJ0_length_8abf5 : zcF mJ0_length_8abf5 0 := ⟨z_mem (z_tC (List.mem_of_getElem? (i := 30) rfl)) rfl, z_mem (z_tA (List.mem_of_getElem? (i := 15) rfl)) rfl, by decide, by decide, by decide +kernel⟩
theorem kJ0_length_8abf5 : zcT mJ0_length_8abf5 0 := ⟨kfJ0_length_8abf5, z_mem (z_tC (List.mem_of_getElem? (i := 28) rfl)) rfl, z_mem (z_tC (List.mem_of_getElem? (i := 29) rfl)) rfl, rfl⟩
theorem kfJ0_charAt_5068e : zcF mJ0_charAt_5068e 1 := ⟨z_mem (z_tC (List.mem_of_getElem? (i := 40) rfl)) rfl, z_mem (z_tA (List.mem_of_getElem? (i := 15) rfl)) rfl, by decide, by decide, by decide +kernel⟩
theorem kJ0_charAt_5068e : zcT mJ0_charAt_5068e 1 := ⟨kfJ0_charAt_5068e, z_mem (z_tC (List.mem_of_getElem? (i := 38) rfl)) rfl, z_mem (z_tC (List.mem_of_getElem? (i := 39) rfl)) rfl, rfl⟩
theorem kfJ0_coder_7d493 : zcF mJ0_coder_7d493 0 := ⟨z_mem (z_tC (List.mem_of_getElem? (i := 34) rfl)) rfl, z_mem (z_tA (List.mem_of_getElem? (i := 15) rfl)) rfl, by decide, by decide, by decide +kernel⟩
theorem kJ0_coder_7d493 : zcT mJ0_coder_7d493 0 := ⟨kfJ0_coder_7d493, z_mem (z_tC (List.mem_of_getElem? (i := 32) rfl)) rfl, z_mem (z_tC (List.mem_of_getElem? (i := 33) rfl)) rfl, rfl⟩
theorem kfJ0_isLatin1_aae02 : zcF mJ0_isLatin1_aae02 0 := ⟨z_mem (z_tC (List.mem_of_getElem? (i := 44) rfl)) rfl, z_mem (z_tA (List.mem_of_getElem? (i := 15) rfl)) rfl, by decide, by decide, by decide +kernel⟩
theorem kJ0_isLatin1_aae02 : zcT mJ0_isLatin1_aae02 0 := ⟨kfJ0_isLatin1_aae02, z_mem (z_tC (List.mem_of_getElem? (i := 42) rfl)) rfl, z_mem (z_tC (List.mem_of_getElem? (i := 43) rfl)) rfl, rfl⟩
theorem kfJ0_checkIndex_df160 : zcF mJ0_checkIndex_df160 2 := ⟨z_mem (z_tC (List.mem_of_getElem? (i := 50) rfl)) rfl, z_mem (z_tA (List.mem_of_getElem? (i := 15) rfl)) rfl, by decide, by decide, by decide +kernel⟩
theorem kJ0_checkIndex_df160 : zcS mJ0_checkIndex_df160 2 := ⟨kfJ0_checkIndex_df160, z_mem (z_tC (List.mem_of_getElem? (i := 49) rfl)) rfl⟩
theorem kfJ1_charAt_3b067 : zcF mJ1_charAt_3b067 2 := ⟨z_mem (z_tC (List.mem_of_getElem? (i := 47) rfl)) rfl, z_mem (z_tA (List.mem_of_getElem? (i := 16) rfl)) rfl, by decide, by decide, by decide +kernel⟩
theorem kJ1_charAt_3b067 : zcS mJ1_charAt_3b067 2 := ⟨kfJ1_charAt_3b067, z_mem (z_tC (List.mem_of_getElem? (i := 46) rfl)) rfl⟩
theorem kfJ3_checkIndex_8e157 : zcF mJ3_checkIndex_8e157 3 := ⟨z_mem (z_tC (List.mem_of_getElem? (i := 55) rfl)) rfl, z_mem (z_tA (List.mem_of_getElem? (i := 17) rfl)) rfl, by decide, by decide, by decide +kernel⟩
theorem kJ3_checkIndex_8e157 : zcS mJ3_checkIndex_8e157 3 := ⟨kfJ3_checkIndex_8e157, z_mem (z_tC (List.mem_of_getElem? (i := 54) rfl)) rfl⟩
theorem wm_J0_335 : zln RJ0 335 yJ0_coder_7d493 := Or.inl (z_mem (z_tC (List.mem_of_getElem? (i := 31) rfl)) rfl)
theorem wm_J0_492 : zln RJ0 492 yJ0_isLatin1_aae02 := Or.inl (z_mem (z_tC (List.mem_of_getElem? (i := 41) rfl)) rfl)
theorem wm_J0_495 : zln RJ0 495 yJ1_charAt_3b067 := Or.inl (z_mem (z_tC (List.mem_of_getElem? (i := 45) rfl)) rfl)
theorem wm_J1_9 : zln RJ1 9 yJ0_checkIndex_df160 := Or.inl (z_mem (z_tC (List.mem_of_getElem? (i := 48) rfl)) rfl)
theorem wm_J0_1059 : zln RJ0 1059 yJ3_checkIndex_8e157 := Or.inl (z_mem (z_tC (List.mem_of_getElem? (i := 53) rfl)) rfl)
theorem wm_X8_54 : zln RX8 54 yJ0_length_8abf5 := Or.inl (z_mem (z_tC (List.mem_of_getElem? (i := 27) rfl)) rfl)
theorem wm_X8_59 : zln RX8 59 yJ0_charAt_5068e := Or.inl (z_mem (z_tC (List.mem_of_getElem? (i := 37) rfl)) rfl)
theorem wf_J0_38 : Cond.fieldLink RJ0 38 "java/lang/String" "COMPACT_STRINGS" "Z" ∈ zGW := z_mem (z_tC (List.mem_of_getElem? (i := 35) rfl)) rfl
theorem wf_J0_1053 : Cond.fieldLink RJ0 1053 "jdk/internal/util/Preconditions" "SIOOBE_FORMATTER" "Ljava/util/function/BiFunction;" ∈ zGW := z_mem (z_tC (List.mem_of_getElem? (i := 51) rfl)) rfl
theorem wf_J0_9 : Cond.fieldLink RJ0 9 "java/lang/String" "value" "[B" ∈ zGW := z_mem (z_tH (List.mem_of_getElem? (i := 185) rfl)) rfl
theorem wf_J0_15 : Cond.fieldLink RJ0 15 "java/lang/String" "coder" "B" ∈ zGW := z_mem (z_tH (List.mem_of_getElem? (i := 186) rfl)) rfl
theorem z_nh {X : Option (Nat × (Nat → Int32))} {M : zM} {u v pc : Nat} {lv : List (Nat × Value)} {st : List Value} {h : zH} {r : Option Value} {h' : zH} (k : ∀ y : zH, y = h → Zt X M u v pc lv st y r h') : Zt X M u v pc lv st h r h' := k h rfl
theorem s_coder {j : Nat} {h : zH} (hj : j < 11) : Cl mJ0_coder_7d493 [.retAddr j] h (some (.int 0)) h := by
  refine Cl.of (by decide) (Nat.le_of_ble_eq_true rfl) ?_
  refine z_gcs dJ0_coder_7d493_0 wf_J0_38 (z_if_eq (t := 13) dJ0_coder_7d493_3 (by decide) (fun q => absurd q (by decide)) (fun _ => ?_))
  exact z_aload_n 0 dJ0_coder_7d493_6 rfl rfl (z_scod dJ0_coder_7d493_7 hj wf_J0_15 (z_goto (t := 14) dJ0_coder_7d493_10 (by decide) (z_tret dJ0_coder_7d493_14 rfl (by decide) (by decide) (by decide))))
theorem s_latin {j : Nat} {h : zH} (hj : j < 11) : Cl mJ0_isLatin1_aae02 [.retAddr j] h (some (.int 1)) h := by
  refine Cl.of (by decide) (Nat.le_of_ble_eq_true rfl) ?_
  refine z_gcs dJ0_isLatin1_aae02_0 wf_J0_38 (z_if_eq (t := 17) dJ0_isLatin1_aae02_3 (by decide) (fun q => absurd q (by decide)) (fun _ => ?_))
  refine z_aload_n 0 dJ0_isLatin1_aae02_6 rfl rfl (z_scod dJ0_isLatin1_aae02_7 hj wf_J0_15 (z_if_ne (t := 17) dJ0_isLatin1_aae02_10 (by decide) (fun q => absurd rfl q) (fun _ => ?_)))
  exact z_iconst (w := 1) dJ0_isLatin1_aae02_13 (by decide) (z_goto (t := 18) dJ0_isLatin1_aae02_14 (by decide) (z_zret dJ0_isLatin1_aae02_18 rfl (Or.inr rfl) (by decide) (by decide)))
theorem s_len {j : Nat} {h : zH} (hj : j < 11) : Cl mJ0_length_8abf5 [.retAddr j] h (some (.int (Int32.ofNat (zLen.getD j 0) >>> (0 &&& 31)))) h := by
  refine Cl.of (by decide) (Nat.le_of_ble_eq_true rfl) ?_
  refine z_aload_n 0 dJ0_length_8abf5_0 rfl rfl (z_sval dJ0_length_8abf5_1 hj wf_J0_9 (z_blen dJ0_length_8abf5_4 hj (z_aload_n 0 dJ0_length_8abf5_5 rfl rfl ?_)))
  refine z_virtT (As := []) (r1 := some (.int 0)) (h1 := h) dJ0_length_8abf5_6 hj kJ0_coder_7d493 wm_J0_335 ⟨by decide, by decide⟩ rfl rfl (Nat.le_of_ble_eq_true rfl) (by decide) (by decide) (s_coder hj) ?_
  exact z_ishr dJ0_length_8abf5_9 (z_iret dJ0_length_8abf5_10 rfl (by decide) (by decide))
theorem s_pre {i n : Int32} {h : zH} (h0 : ¬ i < 0) (hn : i < n) : Cl mJ3_checkIndex_8e157 [.int i, .int n, .retAddr 200] h (some (.int i)) h := by
  refine Cl.of (by decide) (Nat.le_of_ble_eq_true rfl) ?_
  refine z_iload_n 0 dJ3_checkIndex_8e157_0 rfl (z_if_lt (t := 9) dJ3_checkIndex_8e157_1 (by decide) (fun q => absurd q h0) (fun _ => ?_))
  refine z_iload_n 0 dJ3_checkIndex_8e157_4 rfl (z_iload_n 1 dJ3_checkIndex_8e157_5 rfl (z_icmp_lt (t := 16) dJ3_checkIndex_8e157_6 (by decide) (fun _ => ?_) (fun q => absurd hn q)))
  exact z_iload_n 0 dJ3_checkIndex_8e157_16 rfl (z_iret dJ3_checkIndex_8e157_17 rfl (by decide) (by decide))
theorem s_chk {i n : Int32} {h : zH} (h0 : ¬ i < 0) (hn : i < n) : Cl mJ0_checkIndex_df160 [.int i, .int n] h none h := by
  refine Cl.of (by decide) (Nat.le_of_ble_eq_true rfl) ?_
  refine z_iload_n 0 dJ0_checkIndex_df160_0 rfl (z_iload_n 1 dJ0_checkIndex_df160_1 rfl (z_gfm dJ0_checkIndex_df160_2 wf_J0_1053 ?_))
  refine z_stat (As := [.int i, .int n, .retAddr 200]) (st := []) (r1 := some (.int i)) (h1 := h) dJ0_checkIndex_df160_5 kJ3_checkIndex_8e157 wm_J0_1059 ⟨by decide, by decide⟩ rfl rfl (Nat.le_of_ble_eq_true rfl) (by decide) (by decide) (s_pre h0 hn) ?_
  exact z_pop dJ0_checkIndex_df160_8 rfl (z_vret dJ0_checkIndex_df160_9 rfl (by decide) (by decide))
theorem s_bytes : ∀ j, j < 11 → ∀ i, i < zLen.getD j 0 → ((((zByt.getD j []).getD i 0) &&& 255).toUInt32 % 65536).toInt32 = (zByt.getD j []).getD i 0 ∧ narrow .char (.int ((zByt.getD j []).getD i 0)) = .int ((zByt.getD j []).getD i 0) := by decide +kernel
theorem s_lenlt : ∀ j, j < 11 → zLen.getD j 0 < 8 := by decide
theorem s_lat {j i : Nat} {h : zH} (hj : j < 11) (hi : i < zLen.getD j 0) : Cl mJ1_charAt_3b067 [.retAddr (100 + j), .int (nI i)] h (some (.int ((zByt.getD j []).getD i 0))) h := by
  have hl := s_lenlt j hj
  obtain ⟨b1, b2⟩ := s_bytes j hj i hi
  have hlt : nI i < Int32.ofNat (zLen.getD j 0) := nI_lt hi (by omega)
  have hin : vp_in (nI i) (zLen.getD j 0) := vp_in_nI hi (by omega)
  have hcl : (nI i).toNatClampNeg = i := nI_clamp (by omega)
  refine Cl.of (by decide) (Nat.le_of_ble_eq_true rfl) ?_
  refine z_iload_n 1 dJ1_charAt_3b067_0 rfl (z_aload_n 0 dJ1_charAt_3b067_1 rfl rfl (z_blen dJ1_charAt_3b067_2 hj ?_))
  refine z_stat (As := [.int (nI i), .int (Int32.ofNat (zLen.getD j 0))]) (st := []) (r1 := none) (h1 := h) dJ1_charAt_3b067_3 kJ0_checkIndex_df160 wm_J1_9 ⟨by decide, by decide⟩ rfl rfl (Nat.le_of_ble_eq_true rfl) (by decide) (by decide) (s_chk (nI_pos (by omega)) hlt) ?_
  refine z_aload_n 0 dJ1_charAt_3b067_6 rfl rfl (z_iload_n 1 dJ1_charAt_3b067_7 rfl (z_bald dJ1_charAt_3b067_8 hj hin (z_sipush (w := 255) dJ1_charAt_3b067_9 (by decide) (z_iand dJ1_charAt_3b067_12 (z_i2c dJ1_charAt_3b067_13 ?_)))))
  rw [hcl, b1]
  exact z_tret dJ1_charAt_3b067_14 rfl b2 (by decide) (by decide)
theorem s_char {j i : Nat} {h : zH} (hj : j < 11) (hi : i < zLen.getD j 0) : Cl mJ0_charAt_5068e [.retAddr j, .int (nI i)] h (some (.int ((zByt.getD j []).getD i 0))) h := by
  refine Cl.of (by decide) (Nat.le_of_ble_eq_true rfl) ?_
  refine z_aload_n 0 dJ0_charAt_5068e_0 rfl rfl ?_
  refine z_virtT (As := []) (r1 := some (.int 1)) (h1 := h) dJ0_charAt_5068e_1 hj kJ0_isLatin1_aae02 wm_J0_492 ⟨by decide, by decide⟩ rfl rfl (Nat.le_of_ble_eq_true rfl) (by decide) (by decide) (s_latin hj) ?_
  refine z_if_eq (t := 16) dJ0_charAt_5068e_4 (by decide) (fun q => absurd q (by decide)) (fun _ => ?_)
  refine z_aload_n 0 dJ0_charAt_5068e_7 rfl rfl (z_sval dJ0_charAt_5068e_8 hj wf_J0_9 (z_iload_n 1 dJ0_charAt_5068e_11 rfl ?_))
  refine z_stat (As := [.retAddr (100 + j), .int (nI i)]) (st := []) (r1 := some (.int ((zByt.getD j []).getD i 0))) (h1 := h) dJ0_charAt_5068e_12 kJ1_charAt_3b067 wm_J0_495 ⟨by decide, by decide⟩ rfl rfl (Nat.le_of_ble_eq_true rfl) (by decide) (by decide) (s_lat hj hi) ?_
  exact z_tret dJ0_charAt_5068e_15 rfl (s_bytes j hj i hi).2 (by decide) (by decide)
