theorem dX12_isCentury_0 : decode cX12_isCentury 0 = .ok (.aload_n 0, 1) := by decide +kernel
theorem dX12_isCentury_1 : decode cX12_isCentury 1 = .ok (.iconst 1, 1) := by decide +kernel
theorem dX12_isCentury_2 : decode cX12_isCentury 2 = .ok (.iload_n 1, 1) := by decide +kernel
theorem dX12_isCentury_3 : decode cX12_isCentury 3 = .ok (.invokevirtual 158, 3) := by decide +kernel
theorem dX12_isCentury_6 : decode cX12_isCentury 6 = .ok (.ifCond .ne 5, 3) := by decide +kernel
theorem dX12_isCentury_9 : decode cX12_isCentury 9 = .ok (.iconst 0, 1) := by decide +kernel
theorem dX12_isCentury_10 : decode cX12_isCentury 10 = .ok (.ireturn, 1) := by decide +kernel
theorem dX12_isCentury_11 : decode cX12_isCentury 11 = .ok (.aload_n 0, 1) := by decide +kernel
theorem dX12_isCentury_12 : decode cX12_isCentury 12 = .ok (.iconst 1, 1) := by decide +kernel
theorem dX12_isCentury_13 : decode cX12_isCentury 13 = .ok (.iload_n 1, 1) := by decide +kernel
theorem dX12_isCentury_14 : decode cX12_isCentury 14 = .ok (.invokestatic 181, 3) := by decide +kernel
theorem dX12_isCentury_17 : decode cX12_isCentury 17 = .ok (.putfield 217, 3) := by decide +kernel
theorem dX12_isCentury_20 : decode cX12_isCentury 20 = .ok (.iconst 1, 1) := by decide +kernel
theorem dX12_isCentury_21 : decode cX12_isCentury 21 = .ok (.ireturn, 1) := by decide +kernel
set_option maxRecDepth 10000 in
theorem wX12_isCentury_0 {g : zG} {I : Nat → Nat → Int32} {P : Nat → Nat → Option Nat} {r : Option Value} {h' : zH} {a0 : Nat} {x1 : Int32} (H : zk g a0 12 ∧ ∃ (w1 : Int32), Cl mX12_isOf [.ref a0, .int 1, .int x1] (g, I, P) (some (.int w1)) (g, I, P) ∧ ((¬ w1 = 0) → ∃ (w5 : Int32), Cl mX12_placeOf [.int 1, .int x1] (g, I, P) (some (.int w5)) (g, I, P) ∧ zk g a0 12 ∧ r = some (.int 1) ∧ h' = (g, zU I a0 16 w5, P)) ∧ ((w1 = 0) → r = some (.int 0) ∧ h' = (g, I, P))) : Zt none mX12_isCentury 0 0 0 [(0, .ref a0), (1, .int x1)] [] (g, I, P) r h' := by
  refine z_aload_n 0 dX12_isCentury_0 rfl rfl (z_iconst (w := 1) dX12_isCentury_1 (by decide) (z_iload_n 1 dX12_isCentury_2 rfl ?_))
  obtain ⟨oc2, w1, c2, H3⟩ := H
  refine z_virt (As := [.int 1, .int x1]) (st := []) (r1 := (some (.int w1))) (h1 := (g, I, P)) dX12_isCentury_3 kX12_isOf wm_X12_158 ⟨by decide, by decide⟩ rfl rfl (Nat.le_of_ble_eq_true rfl) (by decide) (by decide) oc2 c2 ?_
  refine z_if_ne (t := 11) dX12_isCentury_6 (by decide) (fun q => ?_) (fun q => ?_)
  · have H4 := H3.1 q
    refine z_aload_n 0 dX12_isCentury_11 rfl rfl (z_iconst (w := 1) dX12_isCentury_12 (by decide) (z_iload_n 1 dX12_isCentury_13 rfl ?_))
    obtain ⟨w5, c6, H7⟩ := H4
    refine z_stat (As := [.int 1, .int x1]) (st := [.ref a0]) (r1 := (some (.int w5))) (h1 := (g, I, P)) dX12_isCentury_14 kX12_placeOf wm_X12_181 ⟨by decide, by decide⟩ rfl rfl (Nat.le_of_ble_eq_true rfl) (by decide) (by decide) c6 ?_
    refine z_putI (g := g) (I := I) (Q := P) dX12_isCentury_17 wf_X12_217 (by decide) (by decide) rfl (Or.inl rfl) (zfit_int rfl) H7.1 (z_iconst (w := 1) dX12_isCentury_20 (by decide) ?_)
    obtain ⟨rfl, rfl⟩ := H7.2
    exact z_zret dX12_isCentury_21 rfl (Or.inr rfl) (by decide) (by decide)
  · have H8 := H3.2 q
    refine z_iconst (w := 0) dX12_isCentury_9 (by decide) ?_
    obtain ⟨rfl, rfl⟩ := H8
    exact z_zret dX12_isCentury_10 rfl (Or.inl rfl) (by decide) (by decide)
theorem eX12_isCentury {g : zG} {I : Nat → Nat → Int32} {P : Nat → Nat → Option Nat} {r : Option Value} {h' : zH} {a0 : Nat} {x1 : Int32} (H : Zt none mX12_isCentury 0 0 0 [(0, .ref a0), (1, .int x1)] [] (g, I, P) r h') : Cl mX12_isCentury [.ref a0, .int x1] (g, I, P) r h' := Cl.of (by decide) (Nat.le_of_ble_eq_true rfl) H
theorem dX12_deed_0 : decode cX12_deed 0 = .ok (.aload_n 0, 1) := by decide +kernel
theorem dX12_deed_1 : decode cX12_deed 1 = .ok (.iload_n 1, 1) := by decide +kernel
theorem dX12_deed_2 : decode cX12_deed 2 = .ok (.invokevirtual 220, 3) := by decide +kernel
theorem dX12_deed_5 : decode cX12_deed 5 = .ok (.ifCond .ne 6, 3) := by decide +kernel
theorem dX12_deed_8 : decode cX12_deed 8 = .ok (.bipush (-2), 2) := by decide +kernel
theorem dX12_deed_10 : decode cX12_deed 10 = .ok (.ireturn, 1) := by decide +kernel
theorem dX12_deed_11 : decode cX12_deed 11 = .ok (.iload_n 2, 1) := by decide +kernel
theorem dX12_deed_12 : decode cX12_deed 12 = .ok (.iconst (-1), 1) := by decide +kernel
theorem dX12_deed_13 : decode cX12_deed 13 = .ok (.if_icmp .ne 22, 3) := by decide +kernel
theorem dX12_deed_16 : decode cX12_deed 16 = .ok (.iload_n 3, 1) := by decide +kernel
theorem dX12_deed_17 : decode cX12_deed 17 = .ok (.ifCond .ne 15, 3) := by decide +kernel
theorem dX12_deed_20 : decode cX12_deed 20 = .ok (.aload_n 0, 1) := by decide +kernel
theorem dX12_deed_21 : decode cX12_deed 21 = .ok (.getfield 7, 3) := by decide +kernel
theorem dX12_deed_24 : decode cX12_deed 24 = .ok (.aload_n 0, 1) := by decide +kernel
theorem dX12_deed_25 : decode cX12_deed 25 = .ok (.getfield 217, 3) := by decide +kernel
theorem dX12_deed_28 : decode cX12_deed 28 = .ok (.iaload, 1) := by decide +kernel
theorem dX12_deed_29 : decode cX12_deed 29 = .ok (.goto 5, 3) := by decide +kernel
theorem dX12_deed_32 : decode cX12_deed 32 = .ok (.bipush (-2), 2) := by decide +kernel
theorem dX12_deed_34 : decode cX12_deed 34 = .ok (.ireturn, 1) := by decide +kernel
theorem dX12_deed_35 : decode cX12_deed 35 = .ok (.iload_n 2, 1) := by decide +kernel
theorem dX12_deed_36 : decode cX12_deed 36 = .ok (.iconst 0, 1) := by decide +kernel
theorem dX12_deed_37 : decode cX12_deed 37 = .ok (.aload_n 0, 1) := by decide +kernel
theorem dX12_deed_38 : decode cX12_deed 38 = .ok (.getfield 7, 3) := by decide +kernel
theorem dX12_deed_41 : decode cX12_deed 41 = .ok (.aload_n 0, 1) := by decide +kernel
theorem dX12_deed_42 : decode cX12_deed 42 = .ok (.getfield 217, 3) := by decide +kernel
theorem dX12_deed_45 : decode cX12_deed 45 = .ok (.iaload, 1) := by decide +kernel
theorem dX12_deed_46 : decode cX12_deed 46 = .ok (.iconst 1, 1) := by decide +kernel
theorem dX12_deed_47 : decode cX12_deed 47 = .ok (.isub, 1) := by decide +kernel
theorem dX12_deed_48 : decode cX12_deed 48 = .ok (.invokestatic 120, 3) := by decide +kernel
theorem dX12_deed_51 : decode cX12_deed 51 = .ok (.ifCond .eq 32, 3) := by decide +kernel
theorem dX12_deed_54 : decode cX12_deed 54 = .ok (.iload_n 3, 1) := by decide +kernel
theorem dX12_deed_55 : decode cX12_deed 55 = .ok (.iconst 0, 1) := by decide +kernel
theorem dX12_deed_56 : decode cX12_deed 56 = .ok (.iconst 2, 1) := by decide +kernel
theorem dX12_deed_57 : decode cX12_deed 57 = .ok (.invokestatic 120, 3) := by decide +kernel
theorem dX12_deed_60 : decode cX12_deed 60 = .ok (.ifCond .eq 23, 3) := by decide +kernel
theorem dX12_deed_63 : decode cX12_deed 63 = .ok (.aload_n 0, 1) := by decide +kernel
theorem dX12_deed_64 : decode cX12_deed 64 = .ok (.getfield 7, 3) := by decide +kernel
theorem dX12_deed_67 : decode cX12_deed 67 = .ok (.aload_n 0, 1) := by decide +kernel
theorem dX12_deed_68 : decode cX12_deed 68 = .ok (.getfield 217, 3) := by decide +kernel
theorem dX12_deed_71 : decode cX12_deed 71 = .ok (.iconst 1, 1) := by decide +kernel
theorem dX12_deed_72 : decode cX12_deed 72 = .ok (.iadd, 1) := by decide +kernel
theorem dX12_deed_73 : decode cX12_deed 73 = .ok (.iconst 3, 1) := by decide +kernel
theorem dX12_deed_74 : decode cX12_deed 74 = .ok (.iload_n 2, 1) := by decide +kernel
theorem dX12_deed_75 : decode cX12_deed 75 = .ok (.imul, 1) := by decide +kernel
theorem dX12_deed_76 : decode cX12_deed 76 = .ok (.iadd, 1) := by decide +kernel
theorem dX12_deed_77 : decode cX12_deed 77 = .ok (.iload_n 3, 1) := by decide +kernel
theorem dX12_deed_78 : decode cX12_deed 78 = .ok (.iadd, 1) := by decide +kernel
theorem dX12_deed_79 : decode cX12_deed 79 = .ok (.iaload, 1) := by decide +kernel
theorem dX12_deed_80 : decode cX12_deed 80 = .ok (.goto 5, 3) := by decide +kernel
theorem dX12_deed_83 : decode cX12_deed 83 = .ok (.bipush (-2), 2) := by decide +kernel
theorem dX12_deed_85 : decode cX12_deed 85 = .ok (.ireturn, 1) := by decide +kernel
set_option maxRecDepth 10000 in
theorem wX12_deed_0 {g : zG} {I : Nat → Nat → Int32} {P : Nat → Nat → Option Nat} {r : Option Value} {h' : zH} {a0 : Nat} {x1 : Int32} {x2 : Int32} {x3 : Int32} (H : zk g a0 12 ∧ ∃ (w1 : Int32) (I2 : Nat → Nat → Int32), Cl mX12_isCentury [.ref a0, .int x1] (g, I, P) (some (.int w1)) (g, I2, P) ∧ ((¬ w1 = 0) → ((¬ x2 = (-1)) → zk g a0 12 ∧ ∃ b7, P a0 0 = some b7 ∧ zk g a0 12 ∧ zk g b7 13 ∧ vp_in (I2 a0 16) (g.2.2 b7) ∧ ∃ (w10 : Int32), Cl mX12_isIn [.int x2, .int 0, .int ((I2 b7 (I2 a0 16).toNatClampNeg) - 1)] (g, I2, P) (some (.int w10)) (g, I2, P) ∧ ((w10 = 0) → r = some (.int (-2)) ∧ h' = (g, I2, P)) ∧ ((¬ w10 = 0) → ∃ (w15 : Int32), Cl mX12_isIn [.int x3, .int 0, .int 2] (g, I2, P) (some (.int w15)) (g, I2, P) ∧ ((w15 = 0) → r = some (.int (-2)) ∧ h' = (g, I2, P)) ∧ ((¬ w15 = 0) → zk g a0 12 ∧ ∃ b20, P a0 0 = some b20 ∧ zk g a0 12 ∧ zk g b20 13 ∧ vp_in ((((I2 a0 16) + 1) + (3 * x2)) + x3) (g.2.2 b20) ∧ r = some (.int (I2 b20 ((((I2 a0 16) + 1) + (3 * x2)) + x3).toNatClampNeg)) ∧ h' = (g, I2, P)))) ∧ ((x2 = (-1)) → ((¬ x3 = 0) → r = some (.int (-2)) ∧ h' = (g, I2, P)) ∧ ((x3 = 0) → zk g a0 12 ∧ ∃ b26, P a0 0 = some b26 ∧ zk g a0 12 ∧ zk g b26 13 ∧ vp_in (I2 a0 16) (g.2.2 b26) ∧ r = some (.int (I2 b26 (I2 a0 16).toNatClampNeg)) ∧ h' = (g, I2, P)))) ∧ ((w1 = 0) → r = some (.int (-2)) ∧ h' = (g, I2, P))) : Zt none mX12_deed 0 0 0 [(0, .ref a0), (1, .int x1), (2, .int x2), (3, .int x3)] [] (g, I, P) r h' := by
  refine z_aload_n 0 dX12_deed_0 rfl rfl (z_iload_n 1 dX12_deed_1 rfl ?_)
  obtain ⟨oc3, w1, I2, c3, H4⟩ := H
  refine z_virt (As := [.int x1]) (st := []) (r1 := (some (.int w1))) (h1 := (g, I2, P)) dX12_deed_2 kX12_isCentury wm_X12_220 ⟨by decide, by decide⟩ rfl rfl (Nat.le_of_ble_eq_true rfl) (by decide) (by decide) oc3 c3 ?_
  refine z_if_ne (t := 11) dX12_deed_5 (by decide) (fun q => ?_) (fun q => ?_)
  · have H5 := H4.1 q
    refine z_iload_n 2 dX12_deed_11 rfl (z_iconst (w := (-1)) dX12_deed_12 (by decide) ?_)
    refine z_icmp_ne (t := 35) dX12_deed_13 (by decide) (fun q => ?_) (fun q => ?_)
    · have H6 := H5.1 q
      refine z_iload_n 2 dX12_deed_35 rfl (z_iconst (w := 0) dX12_deed_36 (by decide) (z_aload_n 0 dX12_deed_37 rfl rfl ?_))
      obtain ⟨oe9, b7, e9, H8⟩ := H6
      refine z_getP dX12_deed_38 wf_X12_7 (by decide) (by decide) rfl oe9 (fun q => (by cases q.symm.trans e9)) (fun j q => ?_)
      cases q.symm.trans e9
      refine z_aload_n 0 dX12_deed_41 rfl rfl (z_getI dX12_deed_42 wf_X12_217 (by decide) (by decide) rfl H8.1 (z_iald dX12_deed_45 H8.2.1 H8.2.2.1 (z_iconst (w := 1) dX12_deed_46 (by decide) (z_isub dX12_deed_47 ?_))))
      obtain ⟨w10, c11, H12⟩ := H8.2.2.2
      refine z_stat (As := [.int x2, .int 0, .int ((I2 b7 (I2 a0 16).toNatClampNeg) - 1)]) (st := []) (r1 := (some (.int w10))) (h1 := (g, I2, P)) dX12_deed_48 kX12_isIn wm_X12_120 ⟨by decide, by decide⟩ rfl rfl (Nat.le_of_ble_eq_true rfl) (by decide) (by decide) c11 ?_
      refine z_if_eq (t := 83) dX12_deed_51 (by decide) (fun q => ?_) (fun q => ?_)
      · have H13 := H12.1 q
        refine z_bipush (w := (-2)) dX12_deed_83 (by decide) ?_
        obtain ⟨rfl, rfl⟩ := H13
        exact z_iret dX12_deed_85 rfl (by decide) (by decide)
      · have H14 := H12.2 q
        refine z_iload_n 3 dX12_deed_54 rfl (z_iconst (w := 0) dX12_deed_55 (by decide) (z_iconst (w := 2) dX12_deed_56 (by decide) ?_))
        obtain ⟨w15, c16, H17⟩ := H14
        refine z_stat (As := [.int x3, .int 0, .int 2]) (st := []) (r1 := (some (.int w15))) (h1 := (g, I2, P)) dX12_deed_57 kX12_isIn wm_X12_120 ⟨by decide, by decide⟩ rfl rfl (Nat.le_of_ble_eq_true rfl) (by decide) (by decide) c16 ?_
        refine z_if_eq (t := 83) dX12_deed_60 (by decide) (fun q => ?_) (fun q => ?_)
        · have H18 := H17.1 q
          refine z_bipush (w := (-2)) dX12_deed_83 (by decide) ?_
          obtain ⟨rfl, rfl⟩ := H18
          exact z_iret dX12_deed_85 rfl (by decide) (by decide)
        · have H19 := H17.2 q
          refine z_aload_n 0 dX12_deed_63 rfl rfl ?_
          obtain ⟨oe22, b20, e22, H21⟩ := H19
          refine z_getP dX12_deed_64 wf_X12_7 (by decide) (by decide) rfl oe22 (fun q => (by cases q.symm.trans e22)) (fun j q => ?_)
          cases q.symm.trans e22
          refine z_aload_n 0 dX12_deed_67 rfl rfl (z_getI dX12_deed_68 wf_X12_217 (by decide) (by decide) rfl H21.1 (z_iconst (w := 1) dX12_deed_71 (by decide) (z_iadd dX12_deed_72 (z_iconst (w := 3) dX12_deed_73 (by decide) (z_iload_n 2 dX12_deed_74 rfl (z_imul dX12_deed_75 (z_iadd dX12_deed_76 (z_iload_n 3 dX12_deed_77 rfl (z_iadd dX12_deed_78 (z_iald dX12_deed_79 H21.2.1 H21.2.2.1 (z_goto (t := 85) dX12_deed_80 (by decide) ?_)))))))))))
          obtain ⟨rfl, rfl⟩ := H21.2.2.2
          exact z_iret dX12_deed_85 rfl (by decide) (by decide)
    · have H23 := H5.2 q
      refine z_iload_n 3 dX12_deed_16 rfl ?_
      refine z_if_ne (t := 32) dX12_deed_17 (by decide) (fun q => ?_) (fun q => ?_)
      · have H24 := H23.1 q
        refine z_bipush (w := (-2)) dX12_deed_32 (by decide) ?_
        obtain ⟨rfl, rfl⟩ := H24
        exact z_iret dX12_deed_34 rfl (by decide) (by decide)
      · have H25 := H23.2 q
        refine z_aload_n 0 dX12_deed_20 rfl rfl ?_
        obtain ⟨oe28, b26, e28, H27⟩ := H25
        refine z_getP dX12_deed_21 wf_X12_7 (by decide) (by decide) rfl oe28 (fun q => (by cases q.symm.trans e28)) (fun j q => ?_)
        cases q.symm.trans e28
        refine z_aload_n 0 dX12_deed_24 rfl rfl (z_getI dX12_deed_25 wf_X12_217 (by decide) (by decide) rfl H27.1 (z_iald dX12_deed_28 H27.2.1 H27.2.2.1 (z_goto (t := 34) dX12_deed_29 (by decide) ?_)))
        obtain ⟨rfl, rfl⟩ := H27.2.2.2
        exact z_iret dX12_deed_34 rfl (by decide) (by decide)
  · have H29 := H4.2 q
    refine z_bipush (w := (-2)) dX12_deed_8 (by decide) ?_
    obtain ⟨rfl, rfl⟩ := H29
    exact z_iret dX12_deed_10 rfl (by decide) (by decide)
theorem eX12_deed {g : zG} {I : Nat → Nat → Int32} {P : Nat → Nat → Option Nat} {r : Option Value} {h' : zH} {a0 : Nat} {x1 : Int32} {x2 : Int32} {x3 : Int32} (H : Zt none mX12_deed 0 0 0 [(0, .ref a0), (1, .int x1), (2, .int x2), (3, .int x3)] [] (g, I, P) r h') : Cl mX12_deed [.ref a0, .int x1, .int x2, .int x3] (g, I, P) r h' := Cl.of (by decide) (Nat.le_of_ble_eq_true rfl) H
theorem dX12_begins_0 : decode cX12_begins 0 = .ok (.aload_n 0, 1) := by decide +kernel
theorem dX12_begins_1 : decode cX12_begins 1 = .ok (.iconst 0, 1) := by decide +kernel
theorem dX12_begins_2 : decode cX12_begins 2 = .ok (.putfield 223, 3) := by decide +kernel
theorem dX12_begins_5 : decode cX12_begins 5 = .ok (.aload_n 0, 1) := by decide +kernel
theorem dX12_begins_6 : decode cX12_begins 6 = .ok (.iconst 0, 1) := by decide +kernel
theorem dX12_begins_7 : decode cX12_begins 7 = .ok (.putfield 226, 3) := by decide +kernel
theorem dX12_begins_10 : decode cX12_begins 10 = .ok (.iconst 0, 1) := by decide +kernel
theorem dX12_begins_11 : decode cX12_begins 11 = .ok (.istore_n 1, 1) := by decide +kernel
theorem dX12_begins_12 : decode cX12_begins 12 = .ok (.iload_n 1, 1) := by decide +kernel
theorem dX12_begins_13 : decode cX12_begins 13 = .ok (.iconst 4, 1) := by decide +kernel
theorem dX12_begins_14 : decode cX12_begins 14 = .ok (.if_icmp .ge 37, 3) := by decide +kernel
theorem dX12_begins_17 : decode cX12_begins 17 = .ok (.aload_n 0, 1) := by decide +kernel
theorem dX12_begins_18 : decode cX12_begins 18 = .ok (.getfield 32, 3) := by decide +kernel
theorem dX12_begins_21 : decode cX12_begins 21 = .ok (.iload_n 1, 1) := by decide +kernel
theorem dX12_begins_22 : decode cX12_begins 22 = .ok (.iconst 0, 1) := by decide +kernel
theorem dX12_begins_23 : decode cX12_begins 23 = .ok (.iastore, 1) := by decide +kernel
theorem dX12_begins_24 : decode cX12_begins 24 = .ok (.aload_n 0, 1) := by decide +kernel
theorem dX12_begins_25 : decode cX12_begins 25 = .ok (.getfield 35, 3) := by decide +kernel
theorem dX12_begins_28 : decode cX12_begins 28 = .ok (.iload_n 1, 1) := by decide +kernel
theorem dX12_begins_29 : decode cX12_begins 29 = .ok (.iconst 0, 1) := by decide +kernel
theorem dX12_begins_30 : decode cX12_begins 30 = .ok (.iastore, 1) := by decide +kernel
theorem dX12_begins_31 : decode cX12_begins 31 = .ok (.aload_n 0, 1) := by decide +kernel
theorem dX12_begins_32 : decode cX12_begins 32 = .ok (.getfield 38, 3) := by decide +kernel
theorem dX12_begins_35 : decode cX12_begins 35 = .ok (.iload_n 1, 1) := by decide +kernel
theorem dX12_begins_36 : decode cX12_begins 36 = .ok (.iconst 0, 1) := by decide +kernel
theorem dX12_begins_37 : decode cX12_begins 37 = .ok (.iastore, 1) := by decide +kernel
theorem dX12_begins_38 : decode cX12_begins 38 = .ok (.aload_n 0, 1) := by decide +kernel
theorem dX12_begins_39 : decode cX12_begins 39 = .ok (.getfield 41, 3) := by decide +kernel
theorem dX12_begins_42 : decode cX12_begins 42 = .ok (.iload_n 1, 1) := by decide +kernel
theorem dX12_begins_43 : decode cX12_begins 43 = .ok (.iconst (-1), 1) := by decide +kernel
theorem dX12_begins_44 : decode cX12_begins 44 = .ok (.iastore, 1) := by decide +kernel
theorem dX12_begins_45 : decode cX12_begins 45 = .ok (.iinc 1 1, 3) := by decide +kernel
theorem dX12_begins_48 : decode cX12_begins 48 = .ok (.goto (-36), 3) := by decide +kernel
theorem dX12_begins_51 : decode cX12_begins 51 = .ok (.return_, 1) := by decide +kernel
set_option maxRecDepth 10000 in
theorem wX12_begins_0 {g : zG} {I : Nat → Nat → Int32} {P : Nat → Nat → Option Nat} {r : Option Value} {h' : zH} {a0 : Nat} (H : zk g a0 12 ∧ zk g a0 12 ∧ Zt none mX12_begins 0 0 12 [(0, .ref a0), (1, .int 0)] [] (g, zU (zU I a0 17 0) a0 25 0, P) r h') : Zt none mX12_begins 0 0 0 [(0, .ref a0)] [] (g, I, P) r h' := by
  refine z_aload_n 0 dX12_begins_0 rfl rfl (z_iconst (w := 0) dX12_begins_1 (by decide) (z_putI (g := g) (I := I) (Q := P) dX12_begins_2 wf_X12_223 (by decide) (by decide) rfl (Or.inl rfl) (zfit_int rfl) H.1 (z_aload_n 0 dX12_begins_5 rfl rfl (z_iconst (w := 0) dX12_begins_6 (by decide) (z_putI (g := g) (I := zU I a0 17 0) (Q := P) dX12_begins_7 wf_X12_226 (by decide) (by decide) rfl (Or.inl rfl) (zfit_int rfl) H.2.1 (z_iconst (w := 0) dX12_begins_10 (by decide) (z_istore_n (lv' := [(1, .int 0), (0, .ref a0)]) dX12_begins_11 (by decide) rfl ?_)))))))
  exact z_less [1, 0] rfl H.2.2
theorem eX12_begins {g : zG} {I : Nat → Nat → Int32} {P : Nat → Nat → Option Nat} {r : Option Value} {h' : zH} {a0 : Nat} (H : Zt none mX12_begins 0 0 0 [(0, .ref a0)] [] (g, I, P) r h') : Cl mX12_begins [.ref a0] (g, I, P) r h' := Cl.of (by decide) (Nat.le_of_ble_eq_true rfl) H
set_option maxRecDepth 10000 in
theorem wX12_begins_12 {g : zG} {I : Nat → Nat → Int32} {P : Nat → Nat → Option Nat} {r : Option Value} {h' : zH} {a0 : Nat} {x1 : Int32} (H : ((4 ≤ x1) → r = none ∧ h' = (g, I, P)) ∧ ((¬ 4 ≤ x1) → zk g a0 12 ∧ ∃ b3, P a0 21 = some b3 ∧ zk g b3 13 ∧ vp_in x1 (g.2.2 b3) ∧ zk g a0 12 ∧ ∃ b6, P a0 22 = some b6 ∧ zk g b6 13 ∧ vp_in x1 (g.2.2 b6) ∧ zk g a0 12 ∧ ∃ b9, P a0 23 = some b9 ∧ zk g b9 13 ∧ vp_in x1 (g.2.2 b9) ∧ zk g a0 12 ∧ ∃ b12, P a0 24 = some b12 ∧ zk g b12 13 ∧ vp_in x1 (g.2.2 b12) ∧ Zt none mX12_begins 0 0 12 [(0, .ref a0), (1, .int (x1 + 1))] [] (g, zU (zU (zU (zU I b3 x1.toNatClampNeg 0) b6 x1.toNatClampNeg 0) b9 x1.toNatClampNeg 0) b12 x1.toNatClampNeg (-1), P) r h')) : Zt none mX12_begins 0 0 12 [(0, .ref a0), (1, .int x1)] [] (g, I, P) r h' := by
  refine z_iload_n 1 dX12_begins_12 rfl (z_iconst (w := 4) dX12_begins_13 (by decide) ?_)
  refine z_icmp_ge (t := 51) dX12_begins_14 (by decide) (fun q => ?_) (fun q => ?_)
  · have H1 := H.1 q
    obtain ⟨rfl, rfl⟩ := H1
    exact z_vret dX12_begins_51 rfl (by decide) (by decide)
  · have H2 := H.2 q
    refine z_aload_n 0 dX12_begins_17 rfl rfl ?_
    obtain ⟨oe5, b3, e5, H4⟩ := H2
    refine z_getP dX12_begins_18 wf_X12_32 (by decide) (by decide) rfl oe5 (fun q => (by cases q.symm.trans e5)) (fun j q => ?_)
    cases q.symm.trans e5
    refine z_iload_n 1 dX12_begins_21 rfl (z_iconst (w := 0) dX12_begins_22 (by decide) (z_iast (g := g) (I := I) (Q := P) dX12_begins_23 H4.1 H4.2.1 (z_aload_n 0 dX12_begins_24 rfl rfl ?_)))
    obtain ⟨oe8, b6, e8, H7⟩ := H4.2.2
    refine z_getP dX12_begins_25 wf_X12_35 (by decide) (by decide) rfl oe8 (fun q => (by cases q.symm.trans e8)) (fun j q => ?_)
    cases q.symm.trans e8
    refine z_iload_n 1 dX12_begins_28 rfl (z_iconst (w := 0) dX12_begins_29 (by decide) (z_iast (g := g) (I := zU I b3 x1.toNatClampNeg 0) (Q := P) dX12_begins_30 H7.1 H7.2.1 (z_aload_n 0 dX12_begins_31 rfl rfl ?_)))
    obtain ⟨oe11, b9, e11, H10⟩ := H7.2.2
    refine z_getP dX12_begins_32 wf_X12_38 (by decide) (by decide) rfl oe11 (fun q => (by cases q.symm.trans e11)) (fun j q => ?_)
    cases q.symm.trans e11
    refine z_iload_n 1 dX12_begins_35 rfl (z_iconst (w := 0) dX12_begins_36 (by decide) (z_iast (g := g) (I := zU (zU I b3 x1.toNatClampNeg 0) b6 x1.toNatClampNeg 0) (Q := P) dX12_begins_37 H10.1 H10.2.1 (z_aload_n 0 dX12_begins_38 rfl rfl ?_)))
    obtain ⟨oe14, b12, e14, H13⟩ := H10.2.2
    refine z_getP dX12_begins_39 wf_X12_41 (by decide) (by decide) rfl oe14 (fun q => (by cases q.symm.trans e14)) (fun j q => ?_)
    cases q.symm.trans e14
    refine z_iload_n 1 dX12_begins_42 rfl (z_iconst (w := (-1)) dX12_begins_43 (by decide) (z_iast (g := g) (I := zU (zU (zU I b3 x1.toNatClampNeg 0) b6 x1.toNatClampNeg 0) b9 x1.toNatClampNeg 0) (Q := P) dX12_begins_44 H13.1 H13.2.1 (z_iinc (y := x1 + 1) (lv' := [(1, .int (x1 + 1)), (0, .ref a0)]) 1 dX12_begins_45 rfl rfl (by decide) rfl (z_goto (t := 12) dX12_begins_48 (by decide) ?_))))
    exact z_less [1, 0] rfl H13.2.2
theorem dX12_begins0_0 : decode cX12_begins0 0 = .ok (.aload_n 0, 1) := by decide +kernel
theorem dX12_begins0_1 : decode cX12_begins0 1 = .ok (.iload_n 1, 1) := by decide +kernel
theorem dX12_begins0_2 : decode cX12_begins0 2 = .ok (.invokevirtual 205, 3) := by decide +kernel
theorem dX12_begins0_5 : decode cX12_begins0 5 = .ok (.aload_n 0, 1) := by decide +kernel
theorem dX12_begins0_6 : decode cX12_begins0 6 = .ok (.getfield 32, 3) := by decide +kernel
theorem dX12_begins0_9 : decode cX12_begins0 9 = .ok (.iload_n 2, 1) := by decide +kernel
theorem dX12_begins0_10 : decode cX12_begins0 10 = .ok (.iaload, 1) := by decide +kernel
theorem dX12_begins0_11 : decode cX12_begins0 11 = .ok (.aload_n 0, 1) := by decide +kernel
theorem dX12_begins0_12 : decode cX12_begins0 12 = .ok (.getfield 35, 3) := by decide +kernel
theorem dX12_begins0_15 : decode cX12_begins0 15 = .ok (.iload_n 2, 1) := by decide +kernel
theorem dX12_begins0_16 : decode cX12_begins0 16 = .ok (.iaload, 1) := by decide +kernel
theorem dX12_begins0_17 : decode cX12_begins0 17 = .ok (.isub, 1) := by decide +kernel
theorem dX12_begins0_18 : decode cX12_begins0 18 = .ok (.if_icmp .lt 7, 3) := by decide +kernel
theorem dX12_begins0_21 : decode cX12_begins0 21 = .ok (.iconst 1, 1) := by decide +kernel
theorem dX12_begins0_22 : decode cX12_begins0 22 = .ok (.goto 4, 3) := by decide +kernel
theorem dX12_begins0_25 : decode cX12_begins0 25 = .ok (.iconst 0, 1) := by decide +kernel
theorem dX12_begins0_26 : decode cX12_begins0 26 = .ok (.istore_n 3, 1) := by decide +kernel
theorem dX12_begins0_27 : decode cX12_begins0 27 = .ok (.aload_n 0, 1) := by decide +kernel
theorem dX12_begins0_28 : decode cX12_begins0 28 = .ok (.getfield 35, 3) := by decide +kernel
theorem dX12_begins0_31 : decode cX12_begins0 31 = .ok (.iload_n 2, 1) := by decide +kernel
theorem dX12_begins0_32 : decode cX12_begins0 32 = .ok (.iaload, 1) := by decide +kernel
theorem dX12_begins0_33 : decode cX12_begins0 33 = .ok (.istore 4, 2) := by decide +kernel
theorem dX12_begins0_35 : decode cX12_begins0 35 = .ok (.iload 4, 2) := by decide +kernel
theorem dX12_begins0_37 : decode cX12_begins0 37 = .ok (.aload_n 0, 1) := by decide +kernel
theorem dX12_begins0_38 : decode cX12_begins0 38 = .ok (.getfield 32, 3) := by decide +kernel
theorem dX12_begins0_41 : decode cX12_begins0 41 = .ok (.iload_n 2, 1) := by decide +kernel
theorem dX12_begins0_42 : decode cX12_begins0 42 = .ok (.iaload, 1) := by decide +kernel
theorem dX12_begins0_43 : decode cX12_begins0 43 = .ok (.if_icmp .ge 48, 3) := by decide +kernel
theorem dX12_begins0_46 : decode cX12_begins0 46 = .ok (.iload_n 3, 1) := by decide +kernel
theorem dX12_begins0_47 : decode cX12_begins0 47 = .ok (.ifCond .eq 36, 3) := by decide +kernel
theorem dX12_begins0_50 : decode cX12_begins0 50 = .ok (.aload_n 0, 1) := by decide +kernel
theorem dX12_begins0_51 : decode cX12_begins0 51 = .ok (.iload_n 1, 1) := by decide +kernel
theorem dX12_begins0_52 : decode cX12_begins0 52 = .ok (.iload 4, 2) := by decide +kernel
theorem dX12_begins0_54 : decode cX12_begins0 54 = .ok (.aload_n 0, 1) := by decide +kernel
theorem dX12_begins0_55 : decode cX12_begins0 55 = .ok (.getfield 35, 3) := by decide +kernel
theorem dX12_begins0_58 : decode cX12_begins0 58 = .ok (.iload_n 2, 1) := by decide +kernel
theorem dX12_begins0_59 : decode cX12_begins0 59 = .ok (.iaload, 1) := by decide +kernel
theorem dX12_begins0_60 : decode cX12_begins0 60 = .ok (.isub, 1) := by decide +kernel
theorem dX12_begins0_61 : decode cX12_begins0 61 = .ok (.invokevirtual 214, 3) := by decide +kernel
theorem dX12_begins0_64 : decode cX12_begins0 64 = .ok (.aload_n 0, 1) := by decide +kernel
theorem dX12_begins0_65 : decode cX12_begins0 65 = .ok (.getfield 23, 3) := by decide +kernel
theorem dX12_begins0_68 : decode cX12_begins0 68 = .ok (.bipush 12, 2) := by decide +kernel
theorem dX12_begins0_70 : decode cX12_begins0 70 = .ok (.iload_n 2, 1) := by decide +kernel
theorem dX12_begins0_71 : decode cX12_begins0 71 = .ok (.imul, 1) := by decide +kernel
theorem dX12_begins0_72 : decode cX12_begins0 72 = .ok (.iload 4, 2) := by decide +kernel
theorem dX12_begins0_74 : decode cX12_begins0 74 = .ok (.iadd, 1) := by decide +kernel
theorem dX12_begins0_75 : decode cX12_begins0 75 = .ok (.iaload, 1) := by decide +kernel
theorem dX12_begins0_76 : decode cX12_begins0 76 = .ok (.if_icmp .ne 7, 3) := by decide +kernel
theorem dX12_begins0_79 : decode cX12_begins0 79 = .ok (.iconst 1, 1) := by decide +kernel
theorem dX12_begins0_80 : decode cX12_begins0 80 = .ok (.goto 4, 3) := by decide +kernel
theorem dX12_begins0_83 : decode cX12_begins0 83 = .ok (.iconst 0, 1) := by decide +kernel
theorem dX12_begins0_84 : decode cX12_begins0 84 = .ok (.istore_n 3, 1) := by decide +kernel
theorem dX12_begins0_85 : decode cX12_begins0 85 = .ok (.iinc 4 1, 3) := by decide +kernel
theorem dX12_begins0_88 : decode cX12_begins0 88 = .ok (.goto (-53), 3) := by decide +kernel
theorem dX12_begins0_91 : decode cX12_begins0 91 = .ok (.iload_n 3, 1) := by decide +kernel
theorem dX12_begins0_92 : decode cX12_begins0 92 = .ok (.ireturn, 1) := by decide +kernel
set_option maxRecDepth 10000 in
theorem wX12_begins0_0 {g : zG} {I : Nat → Nat → Int32} {P : Nat → Nat → Option Nat} {r : Option Value} {h' : zH} {a0 : Nat} {x1 : Int32} {x2 : Int32} (H : zk g a0 12 ∧ ∃ (w1 : Int32), Cl mX12_longOf [.ref a0, .int x1] (g, I, P) (some (.int w1)) (g, I, P) ∧ zk g a0 12 ∧ ∃ b4, P a0 21 = some b4 ∧ zk g b4 13 ∧ vp_in x2 (g.2.2 b4) ∧ zk g a0 12 ∧ ∃ b7, P a0 22 = some b7 ∧ zk g b7 13 ∧ vp_in x2 (g.2.2 b7) ∧ ((w1 < (I b4 x2.toNatClampNeg) - (I b7 x2.toNatClampNeg)) → zk g a0 12 ∧ ∃ b11, P a0 22 = some b11 ∧ zk g b11 13 ∧ vp_in x2 (g.2.2 b11) ∧ Zt none mX12_begins0 0 0 35 [(0, .ref a0), (1, .int x1), (2, .int x2), (3, .int 0), (4, .int (I b11 x2.toNatClampNeg))] [] (g, I, P) r h') ∧ ((¬ w1 < (I b4 x2.toNatClampNeg) - (I b7 x2.toNatClampNeg)) → zk g a0 12 ∧ ∃ b15, P a0 22 = some b15 ∧ zk g b15 13 ∧ vp_in x2 (g.2.2 b15) ∧ Zt none mX12_begins0 0 0 35 [(0, .ref a0), (1, .int x1), (2, .int x2), (3, .int 1), (4, .int (I b15 x2.toNatClampNeg))] [] (g, I, P) r h')) : Zt none mX12_begins0 0 0 0 [(0, .ref a0), (1, .int x1), (2, .int x2)] [] (g, I, P) r h' := by
  refine z_aload_n 0 dX12_begins0_0 rfl rfl (z_iload_n 1 dX12_begins0_1 rfl ?_)
  obtain ⟨oc2, w1, c2, H3⟩ := H
  refine z_virt (As := [.int x1]) (st := []) (r1 := (some (.int w1))) (h1 := (g, I, P)) dX12_begins0_2 kX12_longOf wm_X12_205 ⟨by decide, by decide⟩ rfl rfl (Nat.le_of_ble_eq_true rfl) (by decide) (by decide) oc2 c2 ?_
  refine z_aload_n 0 dX12_begins0_5 rfl rfl ?_
  obtain ⟨oe6, b4, e6, H5⟩ := H3
  refine z_getP dX12_begins0_6 wf_X12_32 (by decide) (by decide) rfl oe6 (fun q => (by cases q.symm.trans e6)) (fun j q => ?_)
  cases q.symm.trans e6
  refine z_iload_n 2 dX12_begins0_9 rfl (z_iald dX12_begins0_10 H5.1 H5.2.1 (z_aload_n 0 dX12_begins0_11 rfl rfl ?_))
  obtain ⟨oe9, b7, e9, H8⟩ := H5.2.2
  refine z_getP dX12_begins0_12 wf_X12_35 (by decide) (by decide) rfl oe9 (fun q => (by cases q.symm.trans e9)) (fun j q => ?_)
  cases q.symm.trans e9
  refine z_iload_n 2 dX12_begins0_15 rfl (z_iald dX12_begins0_16 H8.1 H8.2.1 (z_isub dX12_begins0_17 ?_))
  refine z_icmp_lt (t := 25) dX12_begins0_18 (by decide) (fun q => ?_) (fun q => ?_)
  · have H10 := H8.2.2.1 q
    refine z_iconst (w := 0) dX12_begins0_25 (by decide) (z_istore_n (lv' := [(3, .int 0), (0, .ref a0), (1, .int x1), (2, .int x2)]) dX12_begins0_26 (by decide) rfl (z_aload_n 1 dX12_begins0_27 rfl rfl ?_))
    obtain ⟨oe13, b11, e13, H12⟩ := H10
    refine z_getP dX12_begins0_28 wf_X12_35 (by decide) (by decide) rfl oe13 (fun q => (by cases q.symm.trans e13)) (fun j q => ?_)
    cases q.symm.trans e13
    refine z_iload_n 3 dX12_begins0_31 rfl (z_iald dX12_begins0_32 H12.1 H12.2.1 (z_istore (lv' := [(4, .int (I b11 x2.toNatClampNeg)), (3, .int 0), (0, .ref a0), (1, .int x1), (2, .int x2)]) dX12_begins0_33 (by decide) rfl ?_))
    exact z_less [2, 3, 4, 1, 0] rfl H12.2.2
  · have H14 := H8.2.2.2 q
    refine z_iconst (w := 1) dX12_begins0_21 (by decide) (z_goto (t := 26) dX12_begins0_22 (by decide) (z_istore_n (lv' := [(3, .int 1), (0, .ref a0), (1, .int x1), (2, .int x2)]) dX12_begins0_26 (by decide) rfl (z_aload_n 1 dX12_begins0_27 rfl rfl ?_)))
    obtain ⟨oe17, b15, e17, H16⟩ := H14
    refine z_getP dX12_begins0_28 wf_X12_35 (by decide) (by decide) rfl oe17 (fun q => (by cases q.symm.trans e17)) (fun j q => ?_)
    cases q.symm.trans e17
    refine z_iload_n 3 dX12_begins0_31 rfl (z_iald dX12_begins0_32 H16.1 H16.2.1 (z_istore (lv' := [(4, .int (I b15 x2.toNatClampNeg)), (3, .int 1), (0, .ref a0), (1, .int x1), (2, .int x2)]) dX12_begins0_33 (by decide) rfl ?_))
    exact z_less [2, 3, 4, 1, 0] rfl H16.2.2
theorem eX12_begins0 {g : zG} {I : Nat → Nat → Int32} {P : Nat → Nat → Option Nat} {r : Option Value} {h' : zH} {a0 : Nat} {x1 : Int32} {x2 : Int32} (H : Zt none mX12_begins0 0 0 0 [(0, .ref a0), (1, .int x1), (2, .int x2)] [] (g, I, P) r h') : Cl mX12_begins0 [.ref a0, .int x1, .int x2] (g, I, P) r h' := Cl.of (by decide) (Nat.le_of_ble_eq_true rfl) H
set_option maxRecDepth 10000 in
theorem wX12_begins0_35 {g : zG} {I : Nat → Nat → Int32} {P : Nat → Nat → Option Nat} {r : Option Value} {h' : zH} {a0 : Nat} {x1 : Int32} {x2 : Int32} {x3 : Int32} {x4 : Int32} (H : zk g a0 12 ∧ ∃ b1, P a0 21 = some b1 ∧ zk g b1 13 ∧ vp_in x2 (g.2.2 b1) ∧ ((I b1 x2.toNatClampNeg ≤ x4) → (x3 = 0 ∨ x3 = 1) ∧ r = some (.int x3) ∧ h' = (g, I, P)) ∧ ((¬ I b1 x2.toNatClampNeg ≤ x4) → ((x3 = 0) → Zt none mX12_begins0 0 0 35 [(0, .ref a0), (1, .int x1), (2, .int x2), (3, .int 0), (4, .int (x4 + 1))] [] (g, I, P) r h') ∧ ((¬ x3 = 0) → zk g a0 12 ∧ ∃ b8, P a0 22 = some b8 ∧ zk g b8 13 ∧ vp_in x2 (g.2.2 b8) ∧ zk g a0 12 ∧ ∃ (w11 : Int32), Cl mX12_letterOf [.ref a0, .int x1, .int (x4 - (I b8 x2.toNatClampNeg))] (g, I, P) (some (.int w11)) (g, I, P) ∧ zk g a0 12 ∧ ∃ b14, P a0 18 = some b14 ∧ zk g b14 13 ∧ vp_in ((12 * x2) + x4) (g.2.2 b14) ∧ ((¬ w11 = I b14 ((12 * x2) + x4).toNatClampNeg) → Zt none mX12_begins0 0 0 35 [(0, .ref a0), (1, .int x1), (2, .int x2), (3, .int 0), (4, .int (x4 + 1))] [] (g, I, P) r h') ∧ ((w11 = I b14 ((12 * x2) + x4).toNatClampNeg) → Zt none mX12_begins0 0 0 35 [(0, .ref a0), (1, .int x1), (2, .int x2), (3, .int 1), (4, .int (x4 + 1))] [] (g, I, P) r h')))) : Zt none mX12_begins0 0 0 35 [(0, .ref a0), (1, .int x1), (2, .int x2), (3, .int x3), (4, .int x4)] [] (g, I, P) r h' := by
  refine z_iload 4 dX12_begins0_35 rfl (z_aload_n 0 dX12_begins0_37 rfl rfl ?_)
  obtain ⟨oe3, b1, e3, H2⟩ := H
  refine z_getP dX12_begins0_38 wf_X12_32 (by decide) (by decide) rfl oe3 (fun q => (by cases q.symm.trans e3)) (fun j q => ?_)
  cases q.symm.trans e3
  refine z_iload_n 2 dX12_begins0_41 rfl (z_iald dX12_begins0_42 H2.1 H2.2.1 ?_)
  refine z_icmp_ge (t := 91) dX12_begins0_43 (by decide) (fun q => ?_) (fun q => ?_)
  · have H4 := H2.2.2.1 q
    refine z_iload_n 3 dX12_begins0_91 rfl ?_
    obtain ⟨ob, rfl, rfl⟩ := H4
    exact z_zret dX12_begins0_92 rfl ob (by decide) (by decide)
  · have H5 := H2.2.2.2 q
    refine z_iload_n 3 dX12_begins0_46 rfl ?_
    refine z_if_eq (t := 83) dX12_begins0_47 (by decide) (fun q => ?_) (fun q => ?_)
    · have H6 := H5.1 q
      refine z_iconst (w := 0) dX12_begins0_83 (by decide) (z_istore_n (lv' := [(3, .int 0), (0, .ref a0), (1, .int x1), (2, .int x2), (4, .int x4)]) dX12_begins0_84 (by decide) rfl (z_iinc (y := x4 + 1) (lv' := [(4, .int (x4 + 1)), (3, .int 0), (0, .ref a0), (1, .int x1), (2, .int x2)]) 4 dX12_begins0_85 rfl rfl (by decide) rfl (z_goto (t := 35) dX12_begins0_88 (by decide) ?_)))
      exact z_less [2, 3, 4, 1, 0] rfl H6
    · have H7 := H5.2 q
      refine z_aload_n 0 dX12_begins0_50 rfl rfl (z_iload_n 1 dX12_begins0_51 rfl (z_iload 4 dX12_begins0_52 rfl (z_aload_n 0 dX12_begins0_54 rfl rfl ?_)))
      obtain ⟨oe10, b8, e10, H9⟩ := H7
      refine z_getP dX12_begins0_55 wf_X12_35 (by decide) (by decide) rfl oe10 (fun q => (by cases q.symm.trans e10)) (fun j q => ?_)
      cases q.symm.trans e10
      refine z_iload_n 2 dX12_begins0_58 rfl (z_iald dX12_begins0_59 H9.1 H9.2.1 (z_isub dX12_begins0_60 ?_))
      obtain ⟨oc12, w11, c12, H13⟩ := H9.2.2
      refine z_virt (As := [.int x1, .int (x4 - (I b8 x2.toNatClampNeg))]) (st := []) (r1 := (some (.int w11))) (h1 := (g, I, P)) dX12_begins0_61 kX12_letterOf wm_X12_214 ⟨by decide, by decide⟩ rfl rfl (Nat.le_of_ble_eq_true rfl) (by decide) (by decide) oc12 c12 ?_
      refine z_aload_n 0 dX12_begins0_64 rfl rfl ?_
      obtain ⟨oe16, b14, e16, H15⟩ := H13
      refine z_getP dX12_begins0_65 wf_X12_23 (by decide) (by decide) rfl oe16 (fun q => (by cases q.symm.trans e16)) (fun j q => ?_)
      cases q.symm.trans e16
      refine z_bipush (w := 12) dX12_begins0_68 (by decide) (z_iload_n 2 dX12_begins0_70 rfl (z_imul dX12_begins0_71 (z_iload 4 dX12_begins0_72 rfl (z_iadd dX12_begins0_74 (z_iald dX12_begins0_75 H15.1 H15.2.1 ?_)))))
      refine z_icmp_ne (t := 83) dX12_begins0_76 (by decide) (fun q => ?_) (fun q => ?_)
      · have H17 := H15.2.2.1 q
        refine z_iconst (w := 0) dX12_begins0_83 (by decide) (z_istore_n (lv' := [(3, .int 0), (0, .ref a0), (1, .int x1), (2, .int x2), (4, .int x4)]) dX12_begins0_84 (by decide) rfl (z_iinc (y := x4 + 1) (lv' := [(4, .int (x4 + 1)), (3, .int 0), (0, .ref a0), (1, .int x1), (2, .int x2)]) 4 dX12_begins0_85 rfl rfl (by decide) rfl (z_goto (t := 35) dX12_begins0_88 (by decide) ?_)))
        exact z_less [2, 3, 4, 1, 0] rfl H17
      · have H18 := H15.2.2.2 q
        refine z_iconst (w := 1) dX12_begins0_79 (by decide) (z_goto (t := 84) dX12_begins0_80 (by decide) (z_istore_n (lv' := [(3, .int 1), (0, .ref a0), (1, .int x1), (2, .int x2), (4, .int x4)]) dX12_begins0_84 (by decide) rfl (z_iinc (y := x4 + 1) (lv' := [(4, .int (x4 + 1)), (3, .int 1), (0, .ref a0), (1, .int x1), (2, .int x2)]) 4 dX12_begins0_85 rfl rfl (by decide) rfl (z_goto (t := 35) dX12_begins0_88 (by decide) ?_))))
        exact z_less [2, 3, 4, 1, 0] rfl H18
theorem dX12_fitting_0 : decode cX12_fitting 0 = .ok (.iconst 0, 1) := by decide +kernel
theorem dX12_fitting_1 : decode cX12_fitting 1 = .ok (.istore_n 2, 1) := by decide +kernel
theorem dX12_fitting_2 : decode cX12_fitting 2 = .ok (.iconst 0, 1) := by decide +kernel
theorem dX12_fitting_3 : decode cX12_fitting 3 = .ok (.istore_n 3, 1) := by decide +kernel
theorem dX12_fitting_4 : decode cX12_fitting 4 = .ok (.iload_n 3, 1) := by decide +kernel
theorem dX12_fitting_5 : decode cX12_fitting 5 = .ok (.aload_n 0, 1) := by decide +kernel
theorem dX12_fitting_6 : decode cX12_fitting 6 = .ok (.getfield 190, 3) := by decide +kernel
theorem dX12_fitting_9 : decode cX12_fitting 9 = .ok (.if_icmp .ge 45, 3) := by decide +kernel
theorem dX12_fitting_12 : decode cX12_fitting 12 = .ok (.iload_n 2, 1) := by decide +kernel
theorem dX12_fitting_13 : decode cX12_fitting 13 = .ok (.aload_n 0, 1) := by decide +kernel
theorem dX12_fitting_14 : decode cX12_fitting 14 = .ok (.aload_n 0, 1) := by decide +kernel
theorem dX12_fitting_15 : decode cX12_fitting 15 = .ok (.getfield 41, 3) := by decide +kernel
theorem dX12_fitting_18 : decode cX12_fitting 18 = .ok (.iload_n 1, 1) := by decide +kernel
theorem dX12_fitting_19 : decode cX12_fitting 19 = .ok (.iaload, 1) := by decide +kernel
theorem dX12_fitting_20 : decode cX12_fitting 20 = .ok (.invokevirtual 211, 3) := by decide +kernel
theorem dX12_fitting_23 : decode cX12_fitting 23 = .ok (.iload_n 3, 1) := by decide +kernel
theorem dX12_fitting_24 : decode cX12_fitting 24 = .ok (.invokestatic 229, 3) := by decide +kernel
theorem dX12_fitting_27 : decode cX12_fitting 27 = .ok (.ifCond .eq 18, 3) := by decide +kernel
theorem dX12_fitting_30 : decode cX12_fitting 30 = .ok (.aload_n 0, 1) := by decide +kernel
theorem dX12_fitting_31 : decode cX12_fitting 31 = .ok (.iload_n 3, 1) := by decide +kernel
theorem dX12_fitting_32 : decode cX12_fitting 32 = .ok (.iload_n 1, 1) := by decide +kernel
theorem dX12_fitting_33 : decode cX12_fitting 33 = .ok (.invokevirtual 232, 3) := by decide +kernel
theorem dX12_fitting_36 : decode cX12_fitting 36 = .ok (.ifCond .eq 9, 3) := by decide +kernel
theorem dX12_fitting_39 : decode cX12_fitting 39 = .ok (.iconst 1, 1) := by decide +kernel
theorem dX12_fitting_40 : decode cX12_fitting 40 = .ok (.iload_n 3, 1) := by decide +kernel
theorem dX12_fitting_41 : decode cX12_fitting 41 = .ok (.ishl, 1) := by decide +kernel
theorem dX12_fitting_42 : decode cX12_fitting 42 = .ok (.goto 4, 3) := by decide +kernel
theorem dX12_fitting_45 : decode cX12_fitting 45 = .ok (.iconst 0, 1) := by decide +kernel
theorem dX12_fitting_46 : decode cX12_fitting 46 = .ok (.ior, 1) := by decide +kernel
theorem dX12_fitting_47 : decode cX12_fitting 47 = .ok (.istore_n 2, 1) := by decide +kernel
theorem dX12_fitting_48 : decode cX12_fitting 48 = .ok (.iinc 3 1, 3) := by decide +kernel
theorem dX12_fitting_51 : decode cX12_fitting 51 = .ok (.goto (-47), 3) := by decide +kernel
theorem dX12_fitting_54 : decode cX12_fitting 54 = .ok (.iload_n 2, 1) := by decide +kernel
theorem dX12_fitting_55 : decode cX12_fitting 55 = .ok (.ireturn, 1) := by decide +kernel
set_option maxRecDepth 10000 in
theorem wX12_fitting_0 {g : zG} {I : Nat → Nat → Int32} {P : Nat → Nat → Option Nat} {r : Option Value} {h' : zH} {a0 : Nat} {x1 : Int32} (H : Zt none mX12_fitting 0 0 4 [(0, .ref a0), (1, .int x1), (2, .int 0), (3, .int 0)] [] (g, I, P) r h') : Zt none mX12_fitting 0 0 0 [(0, .ref a0), (1, .int x1)] [] (g, I, P) r h' := by
  refine z_iconst (w := 0) dX12_fitting_0 (by decide) (z_istore_n (lv' := [(2, .int 0), (0, .ref a0), (1, .int x1)]) dX12_fitting_1 (by decide) rfl (z_iconst (w := 0) dX12_fitting_2 (by decide) (z_istore_n (lv' := [(3, .int 0), (2, .int 0), (0, .ref a0), (1, .int x1)]) dX12_fitting_3 (by decide) rfl ?_)))
  exact z_less [2, 3, 1, 0] rfl H
theorem eX12_fitting {g : zG} {I : Nat → Nat → Int32} {P : Nat → Nat → Option Nat} {r : Option Value} {h' : zH} {a0 : Nat} {x1 : Int32} (H : Zt none mX12_fitting 0 0 0 [(0, .ref a0), (1, .int x1)] [] (g, I, P) r h') : Cl mX12_fitting [.ref a0, .int x1] (g, I, P) r h' := Cl.of (by decide) (Nat.le_of_ble_eq_true rfl) H
set_option maxRecDepth 10000 in
theorem wX12_fitting_4 {g : zG} {I : Nat → Nat → Int32} {P : Nat → Nat → Option Nat} {r : Option Value} {h' : zH} {a0 : Nat} {x1 : Int32} {x2 : Int32} {x3 : Int32} (H : zk g a0 12 ∧ ((I a0 15 ≤ x3) → r = some (.int x2) ∧ h' = (g, I, P)) ∧ ((¬ I a0 15 ≤ x3) → zk g a0 12 ∧ ∃ b3, P a0 24 = some b3 ∧ zk g b3 13 ∧ vp_in x1 (g.2.2 b3) ∧ zk g a0 12 ∧ ∃ (w6 : Int32), Cl mX12_behind [.ref a0, .int (I b3 x1.toNatClampNeg)] (g, I, P) (some (.int w6)) (g, I, P) ∧ ∃ (w9 : Int32), Cl mX12_holds [.int w6, .int x3] (g, I, P) (some (.int w9)) (g, I, P) ∧ ((w9 = 0) → Zt none mX12_fitting 0 0 4 [(0, .ref a0), (1, .int x1), (2, .int (x2 ||| 0)), (3, .int (x3 + 1))] [] (g, I, P) r h') ∧ ((¬ w9 = 0) → zk g a0 12 ∧ ∃ (w14 : Int32), Cl mX12_begins0 [.ref a0, .int x3, .int x1] (g, I, P) (some (.int w14)) (g, I, P) ∧ ((w14 = 0) → Zt none mX12_fitting 0 0 4 [(0, .ref a0), (1, .int x1), (2, .int (x2 ||| 0)), (3, .int (x3 + 1))] [] (g, I, P) r h') ∧ ((¬ w14 = 0) → ∀ y19 : Int32, y19 = x2 ||| ((1 : Int32) <<< (x3 &&& 31)) → Zt none mX12_fitting 0 0 4 [(0, .ref a0), (1, .int x1), (2, .int y19), (3, .int (x3 + 1))] [] (g, I, P) r h')))) : Zt none mX12_fitting 0 0 4 [(0, .ref a0), (1, .int x1), (2, .int x2), (3, .int x3)] [] (g, I, P) r h' := by
  refine z_iload_n 3 dX12_fitting_4 rfl (z_aload_n 0 dX12_fitting_5 rfl rfl (z_getI dX12_fitting_6 wf_X12_190 (by decide) (by decide) rfl H.1 ?_))
  refine z_icmp_ge (t := 54) dX12_fitting_9 (by decide) (fun q => ?_) (fun q => ?_)
  · have H1 := H.2.1 q
    refine z_iload_n 2 dX12_fitting_54 rfl ?_
    obtain ⟨rfl, rfl⟩ := H1
    exact z_iret dX12_fitting_55 rfl (by decide) (by decide)
  · have H2 := H.2.2 q
    refine z_iload_n 2 dX12_fitting_12 rfl (z_aload_n 0 dX12_fitting_13 rfl rfl (z_aload_n 0 dX12_fitting_14 rfl rfl ?_))
    obtain ⟨oe5, b3, e5, H4⟩ := H2
    refine z_getP dX12_fitting_15 wf_X12_41 (by decide) (by decide) rfl oe5 (fun q => (by cases q.symm.trans e5)) (fun j q => ?_)
    cases q.symm.trans e5
    refine z_iload_n 1 dX12_fitting_18 rfl (z_iald dX12_fitting_19 H4.1 H4.2.1 ?_)
    obtain ⟨oc7, w6, c7, H8⟩ := H4.2.2
    refine z_virt (As := [.int (I b3 x1.toNatClampNeg)]) (st := [.int x2]) (r1 := (some (.int w6))) (h1 := (g, I, P)) dX12_fitting_20 kX12_behind wm_X12_211 ⟨by decide, by decide⟩ rfl rfl (Nat.le_of_ble_eq_true rfl) (by decide) (by decide) oc7 c7 ?_
    refine z_iload_n 3 dX12_fitting_23 rfl ?_
    obtain ⟨w9, c10, H11⟩ := H8
    refine z_stat (As := [.int w6, .int x3]) (st := [.int x2]) (r1 := (some (.int w9))) (h1 := (g, I, P)) dX12_fitting_24 kX12_holds wm_X12_229 ⟨by decide, by decide⟩ rfl rfl (Nat.le_of_ble_eq_true rfl) (by decide) (by decide) c10 ?_
    refine z_if_eq (t := 45) dX12_fitting_27 (by decide) (fun q => ?_) (fun q => ?_)
    · have H12 := H11.1 q
      refine z_iconst (w := 0) dX12_fitting_45 (by decide) (z_ior dX12_fitting_46 (z_istore_n (lv' := [(2, .int (x2 ||| 0)), (0, .ref a0), (1, .int x1), (3, .int x3)]) dX12_fitting_47 (by decide) rfl (z_iinc (y := x3 + 1) (lv' := [(3, .int (x3 + 1)), (2, .int (x2 ||| 0)), (0, .ref a0), (1, .int x1)]) 3 dX12_fitting_48 rfl rfl (by decide) rfl (z_goto (t := 4) dX12_fitting_51 (by decide) ?_))))
      exact z_less [2, 3, 1, 0] rfl H12
    · have H13 := H11.2 q
      refine z_aload_n 0 dX12_fitting_30 rfl rfl (z_iload_n 3 dX12_fitting_31 rfl (z_iload_n 1 dX12_fitting_32 rfl ?_))
      obtain ⟨oc15, w14, c15, H16⟩ := H13
      refine z_virt (As := [.int x3, .int x1]) (st := [.int x2]) (r1 := (some (.int w14))) (h1 := (g, I, P)) dX12_fitting_33 kX12_begins0 wm_X12_232 ⟨by decide, by decide⟩ rfl rfl (Nat.le_of_ble_eq_true rfl) (by decide) (by decide) oc15 c15 ?_
      refine z_if_eq (t := 45) dX12_fitting_36 (by decide) (fun q => ?_) (fun q => ?_)
      · have H17 := H16.1 q
        refine z_iconst (w := 0) dX12_fitting_45 (by decide) (z_ior dX12_fitting_46 (z_istore_n (lv' := [(2, .int (x2 ||| 0)), (0, .ref a0), (1, .int x1), (3, .int x3)]) dX12_fitting_47 (by decide) rfl (z_iinc (y := x3 + 1) (lv' := [(3, .int (x3 + 1)), (2, .int (x2 ||| 0)), (0, .ref a0), (1, .int x1)]) 3 dX12_fitting_48 rfl rfl (by decide) rfl (z_goto (t := 4) dX12_fitting_51 (by decide) ?_))))
        exact z_less [2, 3, 1, 0] rfl H17
      · have H18 := H16.2 q
        refine z_iconst (w := 1) dX12_fitting_39 (by decide) (z_iload_n 3 dX12_fitting_40 rfl (z_ishl dX12_fitting_41 (z_goto (t := 46) dX12_fitting_42 (by decide) (z_ior dX12_fitting_46 ?_))))
        refine z_nm (fun y19 e_y19 => ?_)
        have H20 := H18 y19 e_y19
        refine z_istore_n (lv' := [(2, .int y19), (0, .ref a0), (1, .int x1), (3, .int x3)]) dX12_fitting_47 (by decide) rfl (z_iinc (y := x3 + 1) (lv' := [(3, .int (x3 + 1)), (2, .int y19), (0, .ref a0), (1, .int x1)]) 3 dX12_fitting_48 rfl rfl (by decide) rfl (z_goto (t := 4) dX12_fitting_51 (by decide) ?_))
        exact z_less [2, 3, 1, 0] rfl H20
theorem dX12_puts_0 : decode cX12_puts 0 = .ok (.bipush 12, 2) := by decide +kernel
theorem dX12_puts_2 : decode cX12_puts 2 = .ok (.iload_n 1, 1) := by decide +kernel
theorem dX12_puts_3 : decode cX12_puts 3 = .ok (.imul, 1) := by decide +kernel
theorem dX12_puts_4 : decode cX12_puts 4 = .ok (.aload_n 0, 1) := by decide +kernel
theorem dX12_puts_5 : decode cX12_puts 5 = .ok (.getfield 32, 3) := by decide +kernel
theorem dX12_puts_8 : decode cX12_puts 8 = .ok (.iload_n 1, 1) := by decide +kernel
theorem dX12_puts_9 : decode cX12_puts 9 = .ok (.iaload, 1) := by decide +kernel
theorem dX12_puts_10 : decode cX12_puts 10 = .ok (.iadd, 1) := by decide +kernel
theorem dX12_puts_11 : decode cX12_puts 11 = .ok (.istore 5, 2) := by decide +kernel
theorem dX12_puts_13 : decode cX12_puts 13 = .ok (.aload_n 0, 1) := by decide +kernel
theorem dX12_puts_14 : decode cX12_puts 14 = .ok (.getfield 23, 3) := by decide +kernel
theorem dX12_puts_17 : decode cX12_puts 17 = .ok (.iload 5, 2) := by decide +kernel
theorem dX12_puts_19 : decode cX12_puts 19 = .ok (.iload_n 2, 1) := by decide +kernel
theorem dX12_puts_20 : decode cX12_puts 20 = .ok (.iastore, 1) := by decide +kernel
theorem dX12_puts_21 : decode cX12_puts 21 = .ok (.aload_n 0, 1) := by decide +kernel
theorem dX12_puts_22 : decode cX12_puts 22 = .ok (.getfield 26, 3) := by decide +kernel
theorem dX12_puts_25 : decode cX12_puts 25 = .ok (.iload 5, 2) := by decide +kernel
theorem dX12_puts_27 : decode cX12_puts 27 = .ok (.iload_n 3, 1) := by decide +kernel
theorem dX12_puts_28 : decode cX12_puts 28 = .ok (.iastore, 1) := by decide +kernel
theorem dX12_puts_29 : decode cX12_puts 29 = .ok (.aload_n 0, 1) := by decide +kernel
theorem dX12_puts_30 : decode cX12_puts 30 = .ok (.getfield 29, 3) := by decide +kernel
theorem dX12_puts_33 : decode cX12_puts 33 = .ok (.iload 5, 2) := by decide +kernel
theorem dX12_puts_35 : decode cX12_puts 35 = .ok (.iload 4, 2) := by decide +kernel
theorem dX12_puts_37 : decode cX12_puts 37 = .ok (.bastore, 1) := by decide +kernel
theorem dX12_puts_38 : decode cX12_puts 38 = .ok (.aload_n 0, 1) := by decide +kernel
theorem dX12_puts_39 : decode cX12_puts 39 = .ok (.getfield 32, 3) := by decide +kernel
theorem dX12_puts_42 : decode cX12_puts 42 = .ok (.iload_n 1, 1) := by decide +kernel
theorem dX12_puts_43 : decode cX12_puts 43 = .ok (.dup2, 1) := by decide +kernel
theorem dX12_puts_44 : decode cX12_puts 44 = .ok (.iaload, 1) := by decide +kernel
theorem dX12_puts_45 : decode cX12_puts 45 = .ok (.iconst 1, 1) := by decide +kernel
theorem dX12_puts_46 : decode cX12_puts 46 = .ok (.iadd, 1) := by decide +kernel
theorem dX12_puts_47 : decode cX12_puts 47 = .ok (.iastore, 1) := by decide +kernel
theorem dX12_puts_48 : decode cX12_puts 48 = .ok (.return_, 1) := by decide +kernel
set_option maxRecDepth 10000 in
theorem wX12_puts_0 {g : zG} {I : Nat → Nat → Int32} {P : Nat → Nat → Option Nat} {r : Option Value} {h' : zH} {a0 : Nat} {x1 : Int32} {x2 : Int32} {x3 : Int32} {x4 : Int32} (H : zk g a0 12 ∧ ∃ b1, P a0 21 = some b1 ∧ zk g b1 13 ∧ vp_in x1 (g.2.2 b1) ∧ ∀ y4 : Int32, y4 = (12 * x1) + (I b1 x1.toNatClampNeg) → zk g a0 12 ∧ ∃ b6, P a0 18 = some b6 ∧ zk g b6 13 ∧ vp_in y4 (g.2.2 b6) ∧ zk g a0 12 ∧ ∃ b9, P a0 19 = some b9 ∧ zk g b9 13 ∧ vp_in y4 (g.2.2 b9) ∧ zk g a0 12 ∧ ∃ b12, P a0 20 = some b12 ∧ zk g b12 14 ∧ vp_in y4 (g.2.2 b12) ∧ (x4 = 0 ∨ x4 = 1) ∧ zk g a0 12 ∧ ∃ b15, P a0 21 = some b15 ∧ zk g b15 13 ∧ vp_in x1 (g.2.2 b15) ∧ zk g b15 13 ∧ vp_in x1 (g.2.2 b15) ∧ r = none ∧ h' = (g, zU (zU (zU (zU I b6 y4.toNatClampNeg x2) b9 y4.toNatClampNeg x3) b12 y4.toNatClampNeg x4) b15 x1.toNatClampNeg (((zU (zU (zU I b6 y4.toNatClampNeg x2) b9 y4.toNatClampNeg x3) b12 y4.toNatClampNeg x4) b15 x1.toNatClampNeg) + 1), P)) : Zt none mX12_puts 0 0 0 [(0, .ref a0), (1, .int x1), (2, .int x2), (3, .int x3), (4, .int x4)] [] (g, I, P) r h' := by
  refine z_bipush (w := 12) dX12_puts_0 (by decide) (z_iload_n 1 dX12_puts_2 rfl (z_imul dX12_puts_3 (z_aload_n 0 dX12_puts_4 rfl rfl ?_)))
  obtain ⟨oe3, b1, e3, H2⟩ := H
  refine z_getP dX12_puts_5 wf_X12_32 (by decide) (by decide) rfl oe3 (fun q => (by cases q.symm.trans e3)) (fun j q => ?_)
  cases q.symm.trans e3
  refine z_iload_n 1 dX12_puts_8 rfl (z_iald dX12_puts_9 H2.1 H2.2.1 (z_iadd dX12_puts_10 ?_))
  refine z_nm (fun y4 e_y4 => ?_)
  have H5 := H2.2.2 y4 e_y4
  refine z_istore (lv' := [(5, .int y4), (0, .ref a0), (1, .int x1), (2, .int x2), (3, .int x3), (4, .int x4)]) dX12_puts_11 (by decide) rfl (z_aload_n 1 dX12_puts_13 rfl rfl ?_)
  obtain ⟨oe8, b6, e8, H7⟩ := H5
  refine z_getP dX12_puts_14 wf_X12_23 (by decide) (by decide) rfl oe8 (fun q => (by cases q.symm.trans e8)) (fun j q => ?_)
  cases q.symm.trans e8
  refine z_iload 0 dX12_puts_17 rfl (z_iload_n 3 dX12_puts_19 rfl (z_iast (g := g) (I := I) (Q := P) dX12_puts_20 H7.1 H7.2.1 (z_aload_n 1 dX12_puts_21 rfl rfl ?_)))
  obtain ⟨oe11, b9, e11, H10⟩ := H7.2.2
  refine z_getP dX12_puts_22 wf_X12_26 (by decide) (by decide) rfl oe11 (fun q => (by cases q.symm.trans e11)) (fun j q => ?_)
  cases q.symm.trans e11
  refine z_iload 0 dX12_puts_25 rfl (z_iload_n 4 dX12_puts_27 rfl (z_iast (g := g) (I := zU I b6 y4.toNatClampNeg x2) (Q := P) dX12_puts_28 H10.1 H10.2.1 (z_aload_n 1 dX12_puts_29 rfl rfl ?_)))
  obtain ⟨oe14, b12, e14, H13⟩ := H10.2.2
  refine z_getP dX12_puts_30 wf_X12_29 (by decide) (by decide) rfl oe14 (fun q => (by cases q.symm.trans e14)) (fun j q => ?_)
  cases q.symm.trans e14
  refine z_iload 0 dX12_puts_33 rfl (z_iload 5 dX12_puts_35 rfl (z_zast (g := g) (I := zU (zU I b6 y4.toNatClampNeg x2) b9 y4.toNatClampNeg x3) (Q := P) dX12_puts_37 H13.1 H13.2.1 H13.2.2.1 (z_aload_n 1 dX12_puts_38 rfl rfl ?_)))
  obtain ⟨oe17, b15, e17, H16⟩ := H13.2.2.2
  refine z_getP dX12_puts_39 wf_X12_32 (by decide) (by decide) rfl oe17 (fun q => (by cases q.symm.trans e17)) (fun j q => ?_)
  cases q.symm.trans e17
  refine z_iload_n 2 dX12_puts_42 rfl (z_dup2 dX12_puts_43 rfl rfl (z_iald dX12_puts_44 H16.1 H16.2.1 (z_iconst (w := 1) dX12_puts_45 (by decide) (z_iadd dX12_puts_46 (z_iast (g := g) (I := zU (zU (zU I b6 y4.toNatClampNeg x2) b9 y4.toNatClampNeg x3) b12 y4.toNatClampNeg x4) (Q := P) dX12_puts_47 H16.2.2.1 H16.2.2.2.1 ?_)))))
  obtain ⟨rfl, rfl⟩ := H16.2.2.2.2
  exact z_vret dX12_puts_48 rfl (by decide) (by decide)
theorem eX12_puts {g : zG} {I : Nat → Nat → Int32} {P : Nat → Nat → Option Nat} {r : Option Value} {h' : zH} {a0 : Nat} {x1 : Int32} {x2 : Int32} {x3 : Int32} {x4 : Int32} (H : Zt none mX12_puts 0 0 0 [(0, .ref a0), (1, .int x1), (2, .int x2), (3, .int x3), (4, .int x4)] [] (g, I, P) r h') : Cl mX12_puts [.ref a0, .int x1, .int x2, .int x3, .int x4] (g, I, P) r h' := Cl.of (by decide) (Nat.le_of_ble_eq_true rfl) H
theorem dX12_freezes_0 : decode cX12_freezes 0 = .ok (.aload_n 0, 1) := by decide +kernel
theorem dX12_freezes_1 : decode cX12_freezes 1 = .ok (.getfield 32, 3) := by decide +kernel
theorem dX12_freezes_4 : decode cX12_freezes 4 = .ok (.iload_n 1, 1) := by decide +kernel
theorem dX12_freezes_5 : decode cX12_freezes 5 = .ok (.iaload, 1) := by decide +kernel
theorem dX12_freezes_6 : decode cX12_freezes 6 = .ok (.bipush 12, 2) := by decide +kernel
theorem dX12_freezes_8 : decode cX12_freezes 8 = .ok (.if_icmp .ne 5, 3) := by decide +kernel
theorem dX12_freezes_11 : decode cX12_freezes 11 = .ok (.iconst 0, 1) := by decide +kernel
theorem dX12_freezes_12 : decode cX12_freezes 12 = .ok (.ireturn, 1) := by decide +kernel
theorem dX12_freezes_13 : decode cX12_freezes 13 = .ok (.aload_n 0, 1) := by decide +kernel
theorem dX12_freezes_14 : decode cX12_freezes 14 = .ok (.iload_n 1, 1) := by decide +kernel
theorem dX12_freezes_15 : decode cX12_freezes 15 = .ok (.iload_n 2, 1) := by decide +kernel
theorem dX12_freezes_16 : decode cX12_freezes 16 = .ok (.bipush 9, 2) := by decide +kernel
theorem dX12_freezes_18 : decode cX12_freezes 18 = .ok (.iconst 0, 1) := by decide +kernel
theorem dX12_freezes_19 : decode cX12_freezes 19 = .ok (.invokevirtual 235, 3) := by decide +kernel
theorem dX12_freezes_22 : decode cX12_freezes 22 = .ok (.aload_n 0, 1) := by decide +kernel
theorem dX12_freezes_23 : decode cX12_freezes 23 = .ok (.iload_n 1, 1) := by decide +kernel
theorem dX12_freezes_24 : decode cX12_freezes 24 = .ok (.invokevirtual 239, 3) := by decide +kernel
theorem dX12_freezes_27 : decode cX12_freezes 27 = .ok (.ifCond .ne 15, 3) := by decide +kernel
theorem dX12_freezes_30 : decode cX12_freezes 30 = .ok (.aload_n 0, 1) := by decide +kernel
theorem dX12_freezes_31 : decode cX12_freezes 31 = .ok (.getfield 32, 3) := by decide +kernel
theorem dX12_freezes_34 : decode cX12_freezes 34 = .ok (.iload_n 1, 1) := by decide +kernel
theorem dX12_freezes_35 : decode cX12_freezes 35 = .ok (.dup2, 1) := by decide +kernel
theorem dX12_freezes_36 : decode cX12_freezes 36 = .ok (.iaload, 1) := by decide +kernel
theorem dX12_freezes_37 : decode cX12_freezes 37 = .ok (.iconst 1, 1) := by decide +kernel
theorem dX12_freezes_38 : decode cX12_freezes 38 = .ok (.isub, 1) := by decide +kernel
theorem dX12_freezes_39 : decode cX12_freezes 39 = .ok (.iastore, 1) := by decide +kernel
theorem dX12_freezes_40 : decode cX12_freezes 40 = .ok (.iconst 0, 1) := by decide +kernel
theorem dX12_freezes_41 : decode cX12_freezes 41 = .ok (.ireturn, 1) := by decide +kernel
theorem dX12_freezes_42 : decode cX12_freezes 42 = .ok (.iconst 0, 1) := by decide +kernel
theorem dX12_freezes_43 : decode cX12_freezes 43 = .ok (.istore_n 3, 1) := by decide +kernel
theorem dX12_freezes_44 : decode cX12_freezes 44 = .ok (.iload_n 3, 1) := by decide +kernel
theorem dX12_freezes_45 : decode cX12_freezes 45 = .ok (.aload_n 0, 1) := by decide +kernel
theorem dX12_freezes_46 : decode cX12_freezes 46 = .ok (.getfield 32, 3) := by decide +kernel
theorem dX12_freezes_49 : decode cX12_freezes 49 = .ok (.iload_n 1, 1) := by decide +kernel
theorem dX12_freezes_50 : decode cX12_freezes 50 = .ok (.iaload, 1) := by decide +kernel
theorem dX12_freezes_51 : decode cX12_freezes 51 = .ok (.iconst 1, 1) := by decide +kernel
theorem dX12_freezes_52 : decode cX12_freezes 52 = .ok (.isub, 1) := by decide +kernel
theorem dX12_freezes_53 : decode cX12_freezes 53 = .ok (.if_icmp .ge 42, 3) := by decide +kernel
theorem dX12_freezes_56 : decode cX12_freezes 56 = .ok (.aload_n 0, 1) := by decide +kernel
theorem dX12_freezes_57 : decode cX12_freezes 57 = .ok (.getfield 26, 3) := by decide +kernel
theorem dX12_freezes_60 : decode cX12_freezes 60 = .ok (.bipush 12, 2) := by decide +kernel
theorem dX12_freezes_62 : decode cX12_freezes 62 = .ok (.iload_n 1, 1) := by decide +kernel
theorem dX12_freezes_63 : decode cX12_freezes 63 = .ok (.imul, 1) := by decide +kernel
theorem dX12_freezes_64 : decode cX12_freezes 64 = .ok (.iload_n 3, 1) := by decide +kernel
theorem dX12_freezes_65 : decode cX12_freezes 65 = .ok (.iadd, 1) := by decide +kernel
theorem dX12_freezes_66 : decode cX12_freezes 66 = .ok (.dup2, 1) := by decide +kernel
theorem dX12_freezes_67 : decode cX12_freezes 67 = .ok (.iaload, 1) := by decide +kernel
theorem dX12_freezes_68 : decode cX12_freezes 68 = .ok (.aload_n 0, 1) := by decide +kernel
theorem dX12_freezes_69 : decode cX12_freezes 69 = .ok (.getfield 26, 3) := by decide +kernel
theorem dX12_freezes_72 : decode cX12_freezes 72 = .ok (.bipush 12, 2) := by decide +kernel
theorem dX12_freezes_74 : decode cX12_freezes 74 = .ok (.iload_n 1, 1) := by decide +kernel
theorem dX12_freezes_75 : decode cX12_freezes 75 = .ok (.imul, 1) := by decide +kernel
theorem dX12_freezes_76 : decode cX12_freezes 76 = .ok (.iload_n 3, 1) := by decide +kernel
theorem dX12_freezes_77 : decode cX12_freezes 77 = .ok (.iadd, 1) := by decide +kernel
theorem dX12_freezes_78 : decode cX12_freezes 78 = .ok (.iaload, 1) := by decide +kernel
theorem dX12_freezes_79 : decode cX12_freezes 79 = .ok (.ifCond .le 7, 3) := by decide +kernel
theorem dX12_freezes_82 : decode cX12_freezes 82 = .ok (.iconst 1, 1) := by decide +kernel
theorem dX12_freezes_83 : decode cX12_freezes 83 = .ok (.goto 4, 3) := by decide +kernel
theorem dX12_freezes_86 : decode cX12_freezes 86 = .ok (.iconst 0, 1) := by decide +kernel
theorem dX12_freezes_87 : decode cX12_freezes 87 = .ok (.isub, 1) := by decide +kernel
theorem dX12_freezes_88 : decode cX12_freezes 88 = .ok (.iastore, 1) := by decide +kernel
theorem dX12_freezes_89 : decode cX12_freezes 89 = .ok (.iinc 3 1, 3) := by decide +kernel
theorem dX12_freezes_92 : decode cX12_freezes 92 = .ok (.goto (-48), 3) := by decide +kernel
theorem dX12_freezes_95 : decode cX12_freezes 95 = .ok (.iconst 1, 1) := by decide +kernel
theorem dX12_freezes_96 : decode cX12_freezes 96 = .ok (.ireturn, 1) := by decide +kernel
set_option maxRecDepth 10000 in
theorem wX12_freezes_0 {g : zG} {I : Nat → Nat → Int32} {P : Nat → Nat → Option Nat} {r : Option Value} {h' : zH} {a0 : Nat} {x1 : Int32} {x2 : Int32} (H : zk g a0 12 ∧ ∃ b1, P a0 21 = some b1 ∧ zk g b1 13 ∧ vp_in x1 (g.2.2 b1) ∧ ((¬ (I b1 x1.toNatClampNeg) = 12) → zk g a0 12 ∧ ∃ (I5 : Nat → Nat → Int32), Cl mX12_puts [.ref a0, .int x1, .int x2, .int 9, .int 0] (g, I, P) none (g, I5, P) ∧ zk g a0 12 ∧ ∃ (w8 : Int32), Cl mX12_fitting [.ref a0, .int x1] (g, I5, P) (some (.int w8)) (g, I5, P) ∧ ((¬ w8 = 0) → Zt none mX12_freezes 0 0 44 [(0, .ref a0), (1, .int x1), (3, .int 0)] [] (g, I5, P) r h') ∧ ((w8 = 0) → zk g a0 12 ∧ ∃ b13, P a0 21 = some b13 ∧ zk g b13 13 ∧ vp_in x1 (g.2.2 b13) ∧ zk g b13 13 ∧ vp_in x1 (g.2.2 b13) ∧ r = some (.int 0) ∧ h' = (g, zU I5 b13 x1.toNatClampNeg ((I5 b13 x1.toNatClampNeg) - 1), P))) ∧ ((I b1 x1.toNatClampNeg = 12) → r = some (.int 0) ∧ h' = (g, I, P))) : Zt none mX12_freezes 0 0 0 [(0, .ref a0), (1, .int x1), (2, .int x2)] [] (g, I, P) r h' := by
  refine z_aload_n 0 dX12_freezes_0 rfl rfl ?_
  obtain ⟨oe3, b1, e3, H2⟩ := H
  refine z_getP dX12_freezes_1 wf_X12_32 (by decide) (by decide) rfl oe3 (fun q => (by cases q.symm.trans e3)) (fun j q => ?_)
  cases q.symm.trans e3
  refine z_iload_n 1 dX12_freezes_4 rfl (z_iald dX12_freezes_5 H2.1 H2.2.1 (z_bipush (w := 12) dX12_freezes_6 (by decide) ?_))
  refine z_icmp_ne (t := 13) dX12_freezes_8 (by decide) (fun q => ?_) (fun q => ?_)
  · have H4 := H2.2.2.1 q
    refine z_aload_n 0 dX12_freezes_13 rfl rfl (z_iload_n 1 dX12_freezes_14 rfl (z_iload_n 2 dX12_freezes_15 rfl (z_bipush (w := 9) dX12_freezes_16 (by decide) (z_iconst (w := 0) dX12_freezes_18 (by decide) ?_))))
    obtain ⟨oc6, I5, c6, H7⟩ := H4
    refine z_virt (As := [.int x1, .int x2, .int 9, .int 0]) (st := []) (r1 := none) (h1 := (g, I5, P)) dX12_freezes_19 kX12_puts wm_X12_235 ⟨by decide, by decide⟩ rfl rfl (Nat.le_of_ble_eq_true rfl) (by decide) (by decide) oc6 c6 ?_
    refine z_aload_n 0 dX12_freezes_22 rfl rfl (z_iload_n 1 dX12_freezes_23 rfl ?_)
    obtain ⟨oc9, w8, c9, H10⟩ := H7
    refine z_virt (As := [.int x1]) (st := []) (r1 := (some (.int w8))) (h1 := (g, I5, P)) dX12_freezes_24 kX12_fitting wm_X12_239 ⟨by decide, by decide⟩ rfl rfl (Nat.le_of_ble_eq_true rfl) (by decide) (by decide) oc9 c9 ?_
    refine z_if_ne (t := 42) dX12_freezes_27 (by decide) (fun q => ?_) (fun q => ?_)
    · have H11 := H10.1 q
      refine z_iconst (w := 0) dX12_freezes_42 (by decide) (z_istore_n (lv' := [(3, .int 0), (0, .ref a0), (1, .int x1), (2, .int x2)]) dX12_freezes_43 (by decide) rfl ?_)
      exact z_less [1, 2, 0] rfl H11
    · have H12 := H10.2 q
      refine z_aload_n 0 dX12_freezes_30 rfl rfl ?_
      obtain ⟨oe15, b13, e15, H14⟩ := H12
      refine z_getP dX12_freezes_31 wf_X12_32 (by decide) (by decide) rfl oe15 (fun q => (by cases q.symm.trans e15)) (fun j q => ?_)
      cases q.symm.trans e15
      refine z_iload_n 1 dX12_freezes_34 rfl (z_dup2 dX12_freezes_35 rfl rfl (z_iald dX12_freezes_36 H14.1 H14.2.1 (z_iconst (w := 1) dX12_freezes_37 (by decide) (z_isub dX12_freezes_38 (z_iast (g := g) (I := I5) (Q := P) dX12_freezes_39 H14.2.2.1 H14.2.2.2.1 (z_iconst (w := 0) dX12_freezes_40 (by decide) ?_))))))
      obtain ⟨rfl, rfl⟩ := H14.2.2.2.2
      exact z_zret dX12_freezes_41 rfl (Or.inl rfl) (by decide) (by decide)
  · have H16 := H2.2.2.2 q
    refine z_iconst (w := 0) dX12_freezes_11 (by decide) ?_
    obtain ⟨rfl, rfl⟩ := H16
    exact z_zret dX12_freezes_12 rfl (Or.inl rfl) (by decide) (by decide)
theorem eX12_freezes {g : zG} {I : Nat → Nat → Int32} {P : Nat → Nat → Option Nat} {r : Option Value} {h' : zH} {a0 : Nat} {x1 : Int32} {x2 : Int32} (H : Zt none mX12_freezes 0 0 0 [(0, .ref a0), (1, .int x1), (2, .int x2)] [] (g, I, P) r h') : Cl mX12_freezes [.ref a0, .int x1, .int x2] (g, I, P) r h' := Cl.of (by decide) (Nat.le_of_ble_eq_true rfl) H
set_option maxRecDepth 10000 in
theorem wX12_freezes_44 {g : zG} {I : Nat → Nat → Int32} {P : Nat → Nat → Option Nat} {r : Option Value} {h' : zH} {a0 : Nat} {x1 : Int32} {x3 : Int32} (H : zk g a0 12 ∧ ∃ b1, P a0 21 = some b1 ∧ zk g b1 13 ∧ vp_in x1 (g.2.2 b1) ∧ (((I b1 x1.toNatClampNeg) - 1 ≤ x3) → r = some (.int 1) ∧ h' = (g, I, P)) ∧ ((¬ (I b1 x1.toNatClampNeg) - 1 ≤ x3) → zk g a0 12 ∧ ∃ b6, P a0 19 = some b6 ∧ zk g b6 13 ∧ vp_in ((12 * x1) + x3) (g.2.2 b6) ∧ zk g a0 12 ∧ ∃ b9, P a0 19 = some b9 ∧ zk g b9 13 ∧ vp_in ((12 * x1) + x3) (g.2.2 b9) ∧ ((I b9 ((12 * x1) + x3).toNatClampNeg ≤ 0) → zk g b6 13 ∧ vp_in ((12 * x1) + x3) (g.2.2 b6) ∧ Zt none mX12_freezes 0 0 44 [(0, .ref a0), (1, .int x1), (3, .int (x3 + 1))] [] (g, zU I b6 ((12 * x1) + x3).toNatClampNeg ((I b6 ((12 * x1) + x3).toNatClampNeg) - 0), P) r h') ∧ ((¬ I b9 ((12 * x1) + x3).toNatClampNeg ≤ 0) → zk g b6 13 ∧ vp_in ((12 * x1) + x3) (g.2.2 b6) ∧ Zt none mX12_freezes 0 0 44 [(0, .ref a0), (1, .int x1), (3, .int (x3 + 1))] [] (g, zU I b6 ((12 * x1) + x3).toNatClampNeg ((I b6 ((12 * x1) + x3).toNatClampNeg) - 1), P) r h'))) : Zt none mX12_freezes 0 0 44 [(0, .ref a0), (1, .int x1), (3, .int x3)] [] (g, I, P) r h' := by
  refine z_iload_n 2 dX12_freezes_44 rfl (z_aload_n 0 dX12_freezes_45 rfl rfl ?_)
  obtain ⟨oe3, b1, e3, H2⟩ := H
  refine z_getP dX12_freezes_46 wf_X12_32 (by decide) (by decide) rfl oe3 (fun q => (by cases q.symm.trans e3)) (fun j q => ?_)
  cases q.symm.trans e3
  refine z_iload_n 1 dX12_freezes_49 rfl (z_iald dX12_freezes_50 H2.1 H2.2.1 (z_iconst (w := 1) dX12_freezes_51 (by decide) (z_isub dX12_freezes_52 ?_)))
  refine z_icmp_ge (t := 95) dX12_freezes_53 (by decide) (fun q => ?_) (fun q => ?_)
  · have H4 := H2.2.2.1 q
    refine z_iconst (w := 1) dX12_freezes_95 (by decide) ?_
    obtain ⟨rfl, rfl⟩ := H4
    exact z_zret dX12_freezes_96 rfl (Or.inr rfl) (by decide) (by decide)
  · have H5 := H2.2.2.2 q
    refine z_aload_n 0 dX12_freezes_56 rfl rfl ?_
    obtain ⟨oe8, b6, e8, H7⟩ := H5
    refine z_getP dX12_freezes_57 wf_X12_26 (by decide) (by decide) rfl oe8 (fun q => (by cases q.symm.trans e8)) (fun j q => ?_)
    cases q.symm.trans e8
    refine z_bipush (w := 12) dX12_freezes_60 (by decide) (z_iload_n 1 dX12_freezes_62 rfl (z_imul dX12_freezes_63 (z_iload_n 2 dX12_freezes_64 rfl (z_iadd dX12_freezes_65 (z_dup2 dX12_freezes_66 rfl rfl (z_iald dX12_freezes_67 H7.1 H7.2.1 (z_aload_n 0 dX12_freezes_68 rfl rfl ?_)))))))
    obtain ⟨oe11, b9, e11, H10⟩ := H7.2.2
    refine z_getP dX12_freezes_69 wf_X12_26 (by decide) (by decide) rfl oe11 (fun q => (by cases q.symm.trans e11)) (fun j q => ?_)
    cases q.symm.trans e11
    refine z_bipush (w := 12) dX12_freezes_72 (by decide) (z_iload_n 1 dX12_freezes_74 rfl (z_imul dX12_freezes_75 (z_iload_n 2 dX12_freezes_76 rfl (z_iadd dX12_freezes_77 (z_iald dX12_freezes_78 H10.1 H10.2.1 ?_)))))
    refine z_if_le (t := 86) dX12_freezes_79 (by decide) (fun q => ?_) (fun q => ?_)
    · have H12 := H10.2.2.1 q
      refine z_iconst (w := 0) dX12_freezes_86 (by decide) (z_isub dX12_freezes_87 (z_iast (g := g) (I := I) (Q := P) dX12_freezes_88 H12.1 H12.2.1 (z_iinc (y := x3 + 1) (lv' := [(3, .int (x3 + 1)), (0, .ref a0), (1, .int x1)]) 2 dX12_freezes_89 rfl rfl (by decide) rfl (z_goto (t := 44) dX12_freezes_92 (by decide) ?_))))
      exact z_less [1, 2, 0] rfl H12.2.2
    · have H13 := H10.2.2.2 q
      refine z_iconst (w := 1) dX12_freezes_82 (by decide) (z_goto (t := 87) dX12_freezes_83 (by decide) (z_isub dX12_freezes_87 (z_iast (g := g) (I := I) (Q := P) dX12_freezes_88 H13.1 H13.2.1 (z_iinc (y := x3 + 1) (lv' := [(3, .int (x3 + 1)), (0, .ref a0), (1, .int x1)]) 2 dX12_freezes_89 rfl rfl (by decide) rfl (z_goto (t := 44) dX12_freezes_92 (by decide) ?_)))))
      exact z_less [1, 2, 0] rfl H13.2.2
theorem dX12_tells_0 : decode cX12_tells 0 = .ok (.iconst 0, 1) := by decide +kernel
theorem dX12_tells_1 : decode cX12_tells 1 = .ok (.istore_n 2, 1) := by decide +kernel
theorem dX12_tells_2 : decode cX12_tells 2 = .ok (.iload_n 2, 1) := by decide +kernel
theorem dX12_tells_3 : decode cX12_tells 3 = .ok (.aload_n 0, 1) := by decide +kernel
theorem dX12_tells_4 : decode cX12_tells 4 = .ok (.getfield 190, 3) := by decide +kernel
theorem dX12_tells_7 : decode cX12_tells 7 = .ok (.if_icmp .ge 76, 3) := by decide +kernel
theorem dX12_tells_10 : decode cX12_tells 10 = .ok (.aload_n 0, 1) := by decide +kernel
theorem dX12_tells_11 : decode cX12_tells 11 = .ok (.iload_n 1, 1) := by decide +kernel
theorem dX12_tells_12 : decode cX12_tells 12 = .ok (.invokevirtual 239, 3) := by decide +kernel
theorem dX12_tells_15 : decode cX12_tells 15 = .ok (.iload_n 2, 1) := by decide +kernel
theorem dX12_tells_16 : decode cX12_tells 16 = .ok (.invokestatic 229, 3) := by decide +kernel
theorem dX12_tells_19 : decode cX12_tells 19 = .ok (.ifCond .eq 58, 3) := by decide +kernel
theorem dX12_tells_22 : decode cX12_tells 22 = .ok (.aload_n 0, 1) := by decide +kernel
theorem dX12_tells_23 : decode cX12_tells 23 = .ok (.iload_n 2, 1) := by decide +kernel
theorem dX12_tells_24 : decode cX12_tells 24 = .ok (.invokevirtual 205, 3) := by decide +kernel
theorem dX12_tells_27 : decode cX12_tells 27 = .ok (.aload_n 0, 1) := by decide +kernel
theorem dX12_tells_28 : decode cX12_tells 28 = .ok (.getfield 32, 3) := by decide +kernel
theorem dX12_tells_31 : decode cX12_tells 31 = .ok (.iload_n 1, 1) := by decide +kernel
theorem dX12_tells_32 : decode cX12_tells 32 = .ok (.iaload, 1) := by decide +kernel
theorem dX12_tells_33 : decode cX12_tells 33 = .ok (.aload_n 0, 1) := by decide +kernel
theorem dX12_tells_34 : decode cX12_tells 34 = .ok (.getfield 35, 3) := by decide +kernel
theorem dX12_tells_37 : decode cX12_tells 37 = .ok (.iload_n 1, 1) := by decide +kernel
theorem dX12_tells_38 : decode cX12_tells 38 = .ok (.iaload, 1) := by decide +kernel
theorem dX12_tells_39 : decode cX12_tells 39 = .ok (.isub, 1) := by decide +kernel
theorem dX12_tells_40 : decode cX12_tells 40 = .ok (.if_icmp .eq 6, 3) := by decide +kernel
theorem dX12_tells_43 : decode cX12_tells 43 = .ok (.goto 34, 3) := by decide +kernel
theorem dX12_tells_46 : decode cX12_tells 46 = .ok (.aload_n 0, 1) := by decide +kernel
theorem dX12_tells_47 : decode cX12_tells 47 = .ok (.getfield 38, 3) := by decide +kernel
theorem dX12_tells_50 : decode cX12_tells 50 = .ok (.iload_n 1, 1) := by decide +kernel
theorem dX12_tells_51 : decode cX12_tells 51 = .ok (.dup2, 1) := by decide +kernel
theorem dX12_tells_52 : decode cX12_tells 52 = .ok (.iaload, 1) := by decide +kernel
theorem dX12_tells_53 : decode cX12_tells 53 = .ok (.iconst 1, 1) := by decide +kernel
theorem dX12_tells_54 : decode cX12_tells 54 = .ok (.iadd, 1) := by decide +kernel
theorem dX12_tells_55 : decode cX12_tells 55 = .ok (.iastore, 1) := by decide +kernel
theorem dX12_tells_56 : decode cX12_tells 56 = .ok (.aload_n 0, 1) := by decide +kernel
theorem dX12_tells_57 : decode cX12_tells 57 = .ok (.getfield 41, 3) := by decide +kernel
theorem dX12_tells_60 : decode cX12_tells 60 = .ok (.iload_n 1, 1) := by decide +kernel
theorem dX12_tells_61 : decode cX12_tells 61 = .ok (.iload_n 2, 1) := by decide +kernel
theorem dX12_tells_62 : decode cX12_tells 62 = .ok (.iastore, 1) := by decide +kernel
theorem dX12_tells_63 : decode cX12_tells 63 = .ok (.aload_n 0, 1) := by decide +kernel
theorem dX12_tells_64 : decode cX12_tells 64 = .ok (.getfield 35, 3) := by decide +kernel
theorem dX12_tells_67 : decode cX12_tells 67 = .ok (.iload_n 1, 1) := by decide +kernel
theorem dX12_tells_68 : decode cX12_tells 68 = .ok (.aload_n 0, 1) := by decide +kernel
theorem dX12_tells_69 : decode cX12_tells 69 = .ok (.getfield 32, 3) := by decide +kernel
theorem dX12_tells_72 : decode cX12_tells 72 = .ok (.iload_n 1, 1) := by decide +kernel
theorem dX12_tells_73 : decode cX12_tells 73 = .ok (.iaload, 1) := by decide +kernel
theorem dX12_tells_74 : decode cX12_tells 74 = .ok (.iastore, 1) := by decide +kernel
theorem dX12_tells_75 : decode cX12_tells 75 = .ok (.iconst 1, 1) := by decide +kernel
theorem dX12_tells_76 : decode cX12_tells 76 = .ok (.ireturn, 1) := by decide +kernel
theorem dX12_tells_77 : decode cX12_tells 77 = .ok (.iinc 2 1, 3) := by decide +kernel
theorem dX12_tells_80 : decode cX12_tells 80 = .ok (.goto (-78), 3) := by decide +kernel
theorem dX12_tells_83 : decode cX12_tells 83 = .ok (.iconst 0, 1) := by decide +kernel
theorem dX12_tells_84 : decode cX12_tells 84 = .ok (.ireturn, 1) := by decide +kernel
set_option maxRecDepth 10000 in
theorem wX12_tells_0 {g : zG} {I : Nat → Nat → Int32} {P : Nat → Nat → Option Nat} {r : Option Value} {h' : zH} {a0 : Nat} {x1 : Int32} (H : Zt none mX12_tells 0 0 2 [(0, .ref a0), (1, .int x1), (2, .int 0)] [] (g, I, P) r h') : Zt none mX12_tells 0 0 0 [(0, .ref a0), (1, .int x1)] [] (g, I, P) r h' := by
  refine z_iconst (w := 0) dX12_tells_0 (by decide) (z_istore_n (lv' := [(2, .int 0), (0, .ref a0), (1, .int x1)]) dX12_tells_1 (by decide) rfl ?_)
  exact z_less [1, 2, 0] rfl H
theorem eX12_tells {g : zG} {I : Nat → Nat → Int32} {P : Nat → Nat → Option Nat} {r : Option Value} {h' : zH} {a0 : Nat} {x1 : Int32} (H : Zt none mX12_tells 0 0 0 [(0, .ref a0), (1, .int x1)] [] (g, I, P) r h') : Cl mX12_tells [.ref a0, .int x1] (g, I, P) r h' := Cl.of (by decide) (Nat.le_of_ble_eq_true rfl) H
set_option maxRecDepth 10000 in
theorem wX12_tells_2 {g : zG} {I : Nat → Nat → Int32} {P : Nat → Nat → Option Nat} {r : Option Value} {h' : zH} {a0 : Nat} {x1 : Int32} {x2 : Int32} (H : zk g a0 12 ∧ ((I a0 15 ≤ x2) → r = some (.int 0) ∧ h' = (g, I, P)) ∧ ((¬ I a0 15 ≤ x2) → zk g a0 12 ∧ ∃ (w3 : Int32), Cl mX12_fitting [.ref a0, .int x1] (g, I, P) (some (.int w3)) (g, I, P) ∧ ∃ (w6 : Int32), Cl mX12_holds [.int w3, .int x2] (g, I, P) (some (.int w6)) (g, I, P) ∧ ((w6 = 0) → Zt none mX12_tells 0 0 2 [(0, .ref a0), (1, .int x1), (2, .int (x2 + 1))] [] (g, I, P) r h') ∧ ((¬ w6 = 0) → zk g a0 12 ∧ ∃ (w11 : Int32), Cl mX12_longOf [.ref a0, .int x2] (g, I, P) (some (.int w11)) (g, I, P) ∧ zk g a0 12 ∧ ∃ b14, P a0 21 = some b14 ∧ zk g b14 13 ∧ vp_in x1 (g.2.2 b14) ∧ zk g a0 12 ∧ ∃ b17, P a0 22 = some b17 ∧ zk g b17 13 ∧ vp_in x1 (g.2.2 b17) ∧ ((w11 = (I b14 x1.toNatClampNeg) - (I b17 x1.toNatClampNeg)) → zk g a0 12 ∧ ∃ b21, P a0 23 = some b21 ∧ zk g b21 13 ∧ vp_in x1 (g.2.2 b21) ∧ zk g b21 13 ∧ vp_in x1 (g.2.2 b21) ∧ zk g a0 12 ∧ ∃ b24, P a0 24 = some b24 ∧ zk g b24 13 ∧ vp_in x1 (g.2.2 b24) ∧ zk g a0 12 ∧ ∃ b27, P a0 22 = some b27 ∧ zk g a0 12 ∧ ∃ b30, P a0 21 = some b30 ∧ zk g b30 13 ∧ vp_in x1 (g.2.2 b30) ∧ zk g b27 13 ∧ vp_in x1 (g.2.2 b27) ∧ r = some (.int 1) ∧ h' = (g, zU (zU (zU I b21 x1.toNatClampNeg ((I b21 x1.toNatClampNeg) + 1)) b24 x1.toNatClampNeg x2) b27 x1.toNatClampNeg ((zU (zU I b21 x1.toNatClampNeg ((I b21 x1.toNatClampNeg) + 1)) b24 x1.toNatClampNeg x2) b30 x1.toNatClampNeg), P)) ∧ ((¬ w11 = (I b14 x1.toNatClampNeg) - (I b17 x1.toNatClampNeg)) → Zt none mX12_tells 0 0 2 [(0, .ref a0), (1, .int x1), (2, .int (x2 + 1))] [] (g, I, P) r h')))) : Zt none mX12_tells 0 0 2 [(0, .ref a0), (1, .int x1), (2, .int x2)] [] (g, I, P) r h' := by
  refine z_iload_n 2 dX12_tells_2 rfl (z_aload_n 0 dX12_tells_3 rfl rfl (z_getI dX12_tells_4 wf_X12_190 (by decide) (by decide) rfl H.1 ?_))
  refine z_icmp_ge (t := 83) dX12_tells_7 (by decide) (fun q => ?_) (fun q => ?_)
  · have H1 := H.2.1 q
    refine z_iconst (w := 0) dX12_tells_83 (by decide) ?_
    obtain ⟨rfl, rfl⟩ := H1
    exact z_zret dX12_tells_84 rfl (Or.inl rfl) (by decide) (by decide)
  · have H2 := H.2.2 q
    refine z_aload_n 0 dX12_tells_10 rfl rfl (z_iload_n 1 dX12_tells_11 rfl ?_)
    obtain ⟨oc4, w3, c4, H5⟩ := H2
    refine z_virt (As := [.int x1]) (st := []) (r1 := (some (.int w3))) (h1 := (g, I, P)) dX12_tells_12 kX12_fitting wm_X12_239 ⟨by decide, by decide⟩ rfl rfl (Nat.le_of_ble_eq_true rfl) (by decide) (by decide) oc4 c4 ?_
    refine z_iload_n 2 dX12_tells_15 rfl ?_
    obtain ⟨w6, c7, H8⟩ := H5
    refine z_stat (As := [.int w3, .int x2]) (st := []) (r1 := (some (.int w6))) (h1 := (g, I, P)) dX12_tells_16 kX12_holds wm_X12_229 ⟨by decide, by decide⟩ rfl rfl (Nat.le_of_ble_eq_true rfl) (by decide) (by decide) c7 ?_
    refine z_if_eq (t := 77) dX12_tells_19 (by decide) (fun q => ?_) (fun q => ?_)
    · have H9 := H8.1 q
      refine z_iinc (y := x2 + 1) (lv' := [(2, .int (x2 + 1)), (0, .ref a0), (1, .int x1)]) 2 dX12_tells_77 rfl rfl (by decide) rfl (z_goto (t := 2) dX12_tells_80 (by decide) ?_)
      exact z_less [1, 2, 0] rfl H9
    · have H10 := H8.2 q
      refine z_aload_n 0 dX12_tells_22 rfl rfl (z_iload_n 2 dX12_tells_23 rfl ?_)
      obtain ⟨oc12, w11, c12, H13⟩ := H10
      refine z_virt (As := [.int x2]) (st := []) (r1 := (some (.int w11))) (h1 := (g, I, P)) dX12_tells_24 kX12_longOf wm_X12_205 ⟨by decide, by decide⟩ rfl rfl (Nat.le_of_ble_eq_true rfl) (by decide) (by decide) oc12 c12 ?_
      refine z_aload_n 0 dX12_tells_27 rfl rfl ?_
      obtain ⟨oe16, b14, e16, H15⟩ := H13
      refine z_getP dX12_tells_28 wf_X12_32 (by decide) (by decide) rfl oe16 (fun q => (by cases q.symm.trans e16)) (fun j q => ?_)
      cases q.symm.trans e16
      refine z_iload_n 1 dX12_tells_31 rfl (z_iald dX12_tells_32 H15.1 H15.2.1 (z_aload_n 0 dX12_tells_33 rfl rfl ?_))
      obtain ⟨oe19, b17, e19, H18⟩ := H15.2.2
      refine z_getP dX12_tells_34 wf_X12_35 (by decide) (by decide) rfl oe19 (fun q => (by cases q.symm.trans e19)) (fun j q => ?_)
      cases q.symm.trans e19
      refine z_iload_n 1 dX12_tells_37 rfl (z_iald dX12_tells_38 H18.1 H18.2.1 (z_isub dX12_tells_39 ?_))
      refine z_icmp_eq (t := 46) dX12_tells_40 (by decide) (fun q => ?_) (fun q => ?_)
      · have H20 := H18.2.2.1 q
        refine z_aload_n 0 dX12_tells_46 rfl rfl ?_
        obtain ⟨oe23, b21, e23, H22⟩ := H20
        refine z_getP dX12_tells_47 wf_X12_38 (by decide) (by decide) rfl oe23 (fun q => (by cases q.symm.trans e23)) (fun j q => ?_)
        cases q.symm.trans e23
        refine z_iload_n 1 dX12_tells_50 rfl (z_dup2 dX12_tells_51 rfl rfl (z_iald dX12_tells_52 H22.1 H22.2.1 (z_iconst (w := 1) dX12_tells_53 (by decide) (z_iadd dX12_tells_54 (z_iast (g := g) (I := I) (Q := P) dX12_tells_55 H22.2.2.1 H22.2.2.2.1 (z_aload_n 0 dX12_tells_56 rfl rfl ?_))))))
        obtain ⟨oe26, b24, e26, H25⟩ := H22.2.2.2.2
        refine z_getP dX12_tells_57 wf_X12_41 (by decide) (by decide) rfl oe26 (fun q => (by cases q.symm.trans e26)) (fun j q => ?_)
        cases q.symm.trans e26
        refine z_iload_n 1 dX12_tells_60 rfl (z_iload_n 2 dX12_tells_61 rfl (z_iast (g := g) (I := zU I b21 x1.toNatClampNeg ((I b21 x1.toNatClampNeg) + 1)) (Q := P) dX12_tells_62 H25.1 H25.2.1 (z_aload_n 0 dX12_tells_63 rfl rfl ?_)))
        obtain ⟨oe29, b27, e29, H28⟩ := H25.2.2
        refine z_getP dX12_tells_64 wf_X12_35 (by decide) (by decide) rfl oe29 (fun q => (by cases q.symm.trans e29)) (fun j q => ?_)
        cases q.symm.trans e29
        refine z_iload_n 1 dX12_tells_67 rfl (z_aload_n 0 dX12_tells_68 rfl rfl ?_)
        obtain ⟨oe32, b30, e32, H31⟩ := H28
        refine z_getP dX12_tells_69 wf_X12_32 (by decide) (by decide) rfl oe32 (fun q => (by cases q.symm.trans e32)) (fun j q => ?_)
        cases q.symm.trans e32
        refine z_iload_n 1 dX12_tells_72 rfl (z_iald dX12_tells_73 H31.1 H31.2.1 (z_iast (g := g) (I := zU (zU I b21 x1.toNatClampNeg ((I b21 x1.toNatClampNeg) + 1)) b24 x1.toNatClampNeg x2) (Q := P) dX12_tells_74 H31.2.2.1 H31.2.2.2.1 (z_iconst (w := 1) dX12_tells_75 (by decide) ?_)))
        obtain ⟨rfl, rfl⟩ := H31.2.2.2.2
        exact z_zret dX12_tells_76 rfl (Or.inr rfl) (by decide) (by decide)
      · have H33 := H18.2.2.2 q
        refine z_goto (t := 77) dX12_tells_43 (by decide) (z_iinc (y := x2 + 1) (lv' := [(2, .int (x2 + 1)), (0, .ref a0), (1, .int x1)]) 2 dX12_tells_77 rfl rfl (by decide) rfl (z_goto (t := 2) dX12_tells_80 (by decide) ?_))
        exact z_less [1, 2, 0] rfl H33
theorem dX12_does_0 : decode cX12_does 0 = .ok (.aload_n 0, 1) := by decide +kernel
theorem dX12_does_1 : decode cX12_does 1 = .ok (.iload_n 2, 1) := by decide +kernel
theorem dX12_does_2 : decode cX12_does 2 = .ok (.invokevirtual 242, 3) := by decide +kernel
theorem dX12_does_5 : decode cX12_does 5 = .ok (.ifCond .eq 14, 3) := by decide +kernel
theorem dX12_does_8 : decode cX12_does 8 = .ok (.aload_n 0, 1) := by decide +kernel
theorem dX12_does_9 : decode cX12_does 9 = .ok (.getfield 223, 3) := by decide +kernel
theorem dX12_does_12 : decode cX12_does 12 = .ok (.iload_n 2, 1) := by decide +kernel
theorem dX12_does_13 : decode cX12_does 13 = .ok (.invokestatic 229, 3) := by decide +kernel
theorem dX12_does_16 : decode cX12_does 16 = .ok (.ifCond .eq 5, 3) := by decide +kernel
theorem dX12_does_19 : decode cX12_does 19 = .ok (.iconst 0, 1) := by decide +kernel
theorem dX12_does_20 : decode cX12_does 20 = .ok (.ireturn, 1) := by decide +kernel
theorem dX12_does_21 : decode cX12_does 21 = .ok (.iload_n 1, 1) := by decide +kernel
theorem dX12_does_22 : decode cX12_does 22 = .ok (.tableswitch 95 0 3 #[30, 37, 60, 66], 30) := by decide +kernel
theorem dX12_does_52 : decode cX12_does 52 = .ok (.aload_n 0, 1) := by decide +kernel
theorem dX12_does_53 : decode cX12_does 53 = .ok (.iload_n 2, 1) := by decide +kernel
theorem dX12_does_54 : decode cX12_does 54 = .ok (.iload_n 3, 1) := by decide +kernel
theorem dX12_does_55 : decode cX12_does 55 = .ok (.invokevirtual 245, 3) := by decide +kernel
theorem dX12_does_58 : decode cX12_does 58 = .ok (.ireturn, 1) := by decide +kernel
theorem dX12_does_59 : decode cX12_does 59 = .ok (.aload_n 0, 1) := by decide +kernel
theorem dX12_does_60 : decode cX12_does 60 = .ok (.getfield 32, 3) := by decide +kernel
theorem dX12_does_63 : decode cX12_does 63 = .ok (.iload_n 2, 1) := by decide +kernel
theorem dX12_does_64 : decode cX12_does 64 = .ok (.iaload, 1) := by decide +kernel
theorem dX12_does_65 : decode cX12_does 65 = .ok (.bipush 12, 2) := by decide +kernel
theorem dX12_does_67 : decode cX12_does 67 = .ok (.if_icmp .ne 5, 3) := by decide +kernel
theorem dX12_does_70 : decode cX12_does 70 = .ok (.iconst 0, 1) := by decide +kernel
theorem dX12_does_71 : decode cX12_does 71 = .ok (.ireturn, 1) := by decide +kernel
theorem dX12_does_72 : decode cX12_does 72 = .ok (.aload_n 0, 1) := by decide +kernel
theorem dX12_does_73 : decode cX12_does 73 = .ok (.iload_n 2, 1) := by decide +kernel
theorem dX12_does_74 : decode cX12_does 74 = .ok (.iload_n 3, 1) := by decide +kernel
theorem dX12_does_75 : decode cX12_does 75 = .ok (.iconst 5, 1) := by decide +kernel
theorem dX12_does_76 : decode cX12_does 76 = .ok (.iconst 1, 1) := by decide +kernel
theorem dX12_does_77 : decode cX12_does 77 = .ok (.invokevirtual 235, 3) := by decide +kernel
theorem dX12_does_80 : decode cX12_does 80 = .ok (.iconst 1, 1) := by decide +kernel
theorem dX12_does_81 : decode cX12_does 81 = .ok (.ireturn, 1) := by decide +kernel
theorem dX12_does_82 : decode cX12_does 82 = .ok (.aload_n 0, 1) := by decide +kernel
theorem dX12_does_83 : decode cX12_does 83 = .ok (.iload_n 2, 1) := by decide +kernel
theorem dX12_does_84 : decode cX12_does 84 = .ok (.invokevirtual 248, 3) := by decide +kernel
theorem dX12_does_87 : decode cX12_does 87 = .ok (.ireturn, 1) := by decide +kernel
theorem dX12_does_88 : decode cX12_does 88 = .ok (.aload_n 0, 1) := by decide +kernel
theorem dX12_does_89 : decode cX12_does 89 = .ok (.getfield 32, 3) := by decide +kernel
theorem dX12_does_92 : decode cX12_does 92 = .ok (.iload_n 2, 1) := by decide +kernel
theorem dX12_does_93 : decode cX12_does 93 = .ok (.iaload, 1) := by decide +kernel
theorem dX12_does_94 : decode cX12_does 94 = .ok (.aload_n 0, 1) := by decide +kernel
theorem dX12_does_95 : decode cX12_does 95 = .ok (.getfield 35, 3) := by decide +kernel
theorem dX12_does_98 : decode cX12_does 98 = .ok (.iload_n 2, 1) := by decide +kernel
theorem dX12_does_99 : decode cX12_does 99 = .ok (.iaload, 1) := by decide +kernel
theorem dX12_does_100 : decode cX12_does 100 = .ok (.if_icmp .ne 5, 3) := by decide +kernel
theorem dX12_does_103 : decode cX12_does 103 = .ok (.iconst 0, 1) := by decide +kernel
theorem dX12_does_104 : decode cX12_does 104 = .ok (.ireturn, 1) := by decide +kernel
theorem dX12_does_105 : decode cX12_does 105 = .ok (.aload_n 0, 1) := by decide +kernel
theorem dX12_does_106 : decode cX12_does 106 = .ok (.getfield 32, 3) := by decide +kernel
theorem dX12_does_109 : decode cX12_does 109 = .ok (.iload_n 2, 1) := by decide +kernel
theorem dX12_does_110 : decode cX12_does 110 = .ok (.dup2, 1) := by decide +kernel
theorem dX12_does_111 : decode cX12_does 111 = .ok (.iaload, 1) := by decide +kernel
theorem dX12_does_112 : decode cX12_does 112 = .ok (.iconst 1, 1) := by decide +kernel
theorem dX12_does_113 : decode cX12_does 113 = .ok (.isub, 1) := by decide +kernel
theorem dX12_does_114 : decode cX12_does 114 = .ok (.iastore, 1) := by decide +kernel
theorem dX12_does_115 : decode cX12_does 115 = .ok (.iconst 1, 1) := by decide +kernel
theorem dX12_does_116 : decode cX12_does 116 = .ok (.ireturn, 1) := by decide +kernel
theorem dX12_does_117 : decode cX12_does 117 = .ok (.aload_n 0, 1) := by decide +kernel
theorem dX12_does_118 : decode cX12_does 118 = .ok (.dup, 1) := by decide +kernel
theorem dX12_does_119 : decode cX12_does 119 = .ok (.getfield 223, 3) := by decide +kernel
theorem dX12_does_122 : decode cX12_does 122 = .ok (.iconst 1, 1) := by decide +kernel
theorem dX12_does_123 : decode cX12_does 123 = .ok (.iload_n 2, 1) := by decide +kernel
theorem dX12_does_124 : decode cX12_does 124 = .ok (.ishl, 1) := by decide +kernel
theorem dX12_does_125 : decode cX12_does 125 = .ok (.ior, 1) := by decide +kernel
theorem dX12_does_126 : decode cX12_does 126 = .ok (.putfield 223, 3) := by decide +kernel
theorem dX12_does_129 : decode cX12_does 129 = .ok (.iconst 1, 1) := by decide +kernel
theorem dX12_does_130 : decode cX12_does 130 = .ok (.ireturn, 1) := by decide +kernel
set_option maxRecDepth 10000 in
theorem wX12_does_0 {g : zG} {I : Nat → Nat → Int32} {P : Nat → Nat → Option Nat} {r : Option Value} {h' : zH} {a0 : Nat} {x1 : Int32} {x2 : Int32} {x3 : Int32} (H : zk g a0 12 ∧ ∃ (w1 : Int32), Cl mX12_isStone [.ref a0, .int x2] (g, I, P) (some (.int w1)) (g, I, P) ∧ ((w1 = 0) → r = some (.int 0) ∧ h' = (g, I, P)) ∧ ((¬ w1 = 0) → zk g a0 12 ∧ ∃ (w6 : Int32), Cl mX12_holds [.int (I a0 17), .int x2] (g, I, P) (some (.int w6)) (g, I, P) ∧ ((w6 = 0) → ((x1 = 0) → zk g a0 12 ∧ ∃ (w12 : Int32) (I13 : Nat → Nat → Int32), Cl mX12_freezes [.ref a0, .int x2, .int x3] (g, I, P) (some (.int w12)) (g, I13, P) ∧ (w12 = 0 ∨ w12 = 1) ∧ r = some (.int w12) ∧ h' = (g, I13, P)) ∧ ((x1 = 1) → zk g a0 12 ∧ ∃ b18, P a0 21 = some b18 ∧ zk g b18 13 ∧ vp_in x2 (g.2.2 b18) ∧ ((¬ (I b18 x2.toNatClampNeg) = 12) → zk g a0 12 ∧ ∃ (I22 : Nat → Nat → Int32), Cl mX12_puts [.ref a0, .int x2, .int x3, .int 5, .int 1] (g, I, P) none (g, I22, P) ∧ r = some (.int 1) ∧ h' = (g, I22, P)) ∧ ((I b18 x2.toNatClampNeg = 12) → r = some (.int 0) ∧ h' = (g, I, P))) ∧ ((x1 = 2) → zk g a0 12 ∧ ∃ (w28 : Int32) (I29 : Nat → Nat → Int32), Cl mX12_tells [.ref a0, .int x2] (g, I, P) (some (.int w28)) (g, I29, P) ∧ (w28 = 0 ∨ w28 = 1) ∧ r = some (.int w28) ∧ h' = (g, I29, P)) ∧ ((x1 = 3) → zk g a0 12 ∧ ∃ b34, P a0 21 = some b34 ∧ zk g b34 13 ∧ vp_in x2 (g.2.2 b34) ∧ zk g a0 12 ∧ ∃ b37, P a0 22 = some b37 ∧ zk g b37 13 ∧ vp_in x2 (g.2.2 b37) ∧ ((¬ (I b34 x2.toNatClampNeg) = I b37 x2.toNatClampNeg) → zk g a0 12 ∧ ∃ b41, P a0 21 = some b41 ∧ zk g b41 13 ∧ vp_in x2 (g.2.2 b41) ∧ zk g b41 13 ∧ vp_in x2 (g.2.2 b41) ∧ r = some (.int 1) ∧ h' = (g, zU I b41 x2.toNatClampNeg ((I b41 x2.toNatClampNeg) - 1), P)) ∧ ((I b34 x2.toNatClampNeg = I b37 x2.toNatClampNeg) → r = some (.int 0) ∧ h' = (g, I, P))) ∧ (¬ x1 = 0 → ¬ x1 = 1 → ¬ x1 = 2 → ¬ x1 = 3 → zk g a0 12 ∧ zk g a0 12 ∧ r = some (.int 1) ∧ h' = (g, zU I a0 17 ((I a0 17) ||| ((1 : Int32) <<< (x2 &&& 31))), P))) ∧ ((¬ w6 = 0) → r = some (.int 0) ∧ h' = (g, I, P)))) : Zt none mX12_does 0 0 0 [(0, .ref a0), (1, .int x1), (2, .int x2), (3, .int x3)] [] (g, I, P) r h' := by
  refine z_aload_n 0 dX12_does_0 rfl rfl (z_iload_n 2 dX12_does_1 rfl ?_)
  obtain ⟨oc2, w1, c2, H3⟩ := H
  refine z_virt (As := [.int x2]) (st := []) (r1 := (some (.int w1))) (h1 := (g, I, P)) dX12_does_2 kX12_isStone wm_X12_242 ⟨by decide, by decide⟩ rfl rfl (Nat.le_of_ble_eq_true rfl) (by decide) (by decide) oc2 c2 ?_
  refine z_if_eq (t := 19) dX12_does_5 (by decide) (fun q => ?_) (fun q => ?_)
  · have H4 := H3.1 q
    refine z_iconst (w := 0) dX12_does_19 (by decide) ?_
    obtain ⟨rfl, rfl⟩ := H4
    exact z_zret dX12_does_20 rfl (Or.inl rfl) (by decide) (by decide)
  · have H5 := H3.2 q
    refine z_aload_n 0 dX12_does_8 rfl rfl (z_getI dX12_does_9 wf_X12_223 (by decide) (by decide) rfl H5.1 (z_iload_n 2 dX12_does_12 rfl ?_))
    obtain ⟨w6, c7, H8⟩ := H5.2
    refine z_stat (As := [.int (I a0 17), .int x2]) (st := []) (r1 := (some (.int w6))) (h1 := (g, I, P)) dX12_does_13 kX12_holds wm_X12_229 ⟨by decide, by decide⟩ rfl rfl (Nat.le_of_ble_eq_true rfl) (by decide) (by decide) c7 ?_
    refine z_if_eq (t := 21) dX12_does_16 (by decide) (fun q => ?_) (fun q => ?_)
    · have H9 := H8.1 q
      refine z_iload_n 1 dX12_does_21 rfl ?_
      by_cases q10 : x1 = 0
      · have H11 := H9.1 q10
        have eq10 : (x1 : Int32).toInt = 0 := by rw [q10]; decide
        refine z_tableIn (off := 30) (t := 52) dX12_does_22 (by rw [eq10]; decide) (by rw [eq10]; decide) (by rw [eq10]; rfl) (by decide) ?_
        refine z_aload_n 0 dX12_does_52 rfl rfl (z_iload_n 2 dX12_does_53 rfl (z_iload_n 3 dX12_does_54 rfl ?_))
        obtain ⟨oc14, w12, I13, c14, H15⟩ := H11
        refine z_virt (As := [.int x2, .int x3]) (st := []) (r1 := (some (.int w12))) (h1 := (g, I13, P)) dX12_does_55 kX12_freezes wm_X12_245 ⟨by decide, by decide⟩ rfl rfl (Nat.le_of_ble_eq_true rfl) (by decide) (by decide) oc14 c14 ?_
        obtain ⟨ob, rfl, rfl⟩ := H15
        exact z_zret dX12_does_58 rfl ob (by decide) (by decide)
      by_cases q16 : x1 = 1
      · have H17 := H9.2.1 q16
        have eq16 : (x1 : Int32).toInt = 1 := by rw [q16]; decide
        refine z_tableIn (off := 37) (t := 59) dX12_does_22 (by rw [eq16]; decide) (by rw [eq16]; decide) (by rw [eq16]; rfl) (by decide) ?_
        refine z_aload_n 0 dX12_does_59 rfl rfl ?_
        obtain ⟨oe20, b18, e20, H19⟩ := H17
        refine z_getP dX12_does_60 wf_X12_32 (by decide) (by decide) rfl oe20 (fun q => (by cases q.symm.trans e20)) (fun j q => ?_)
        cases q.symm.trans e20
        refine z_iload_n 2 dX12_does_63 rfl (z_iald dX12_does_64 H19.1 H19.2.1 (z_bipush (w := 12) dX12_does_65 (by decide) ?_))
        refine z_icmp_ne (t := 72) dX12_does_67 (by decide) (fun q => ?_) (fun q => ?_)
        · have H21 := H19.2.2.1 q
          refine z_aload_n 0 dX12_does_72 rfl rfl (z_iload_n 2 dX12_does_73 rfl (z_iload_n 3 dX12_does_74 rfl (z_iconst (w := 5) dX12_does_75 (by decide) (z_iconst (w := 1) dX12_does_76 (by decide) ?_))))
          obtain ⟨oc23, I22, c23, H24⟩ := H21
          refine z_virt (As := [.int x2, .int x3, .int 5, .int 1]) (st := []) (r1 := none) (h1 := (g, I22, P)) dX12_does_77 kX12_puts wm_X12_235 ⟨by decide, by decide⟩ rfl rfl (Nat.le_of_ble_eq_true rfl) (by decide) (by decide) oc23 c23 ?_
          refine z_iconst (w := 1) dX12_does_80 (by decide) ?_
          obtain ⟨rfl, rfl⟩ := H24
          exact z_zret dX12_does_81 rfl (Or.inr rfl) (by decide) (by decide)
        · have H25 := H19.2.2.2 q
          refine z_iconst (w := 0) dX12_does_70 (by decide) ?_
          obtain ⟨rfl, rfl⟩ := H25
          exact z_zret dX12_does_71 rfl (Or.inl rfl) (by decide) (by decide)
      by_cases q26 : x1 = 2
      · have H27 := H9.2.2.1 q26
        have eq26 : (x1 : Int32).toInt = 2 := by rw [q26]; decide
        refine z_tableIn (off := 60) (t := 82) dX12_does_22 (by rw [eq26]; decide) (by rw [eq26]; decide) (by rw [eq26]; rfl) (by decide) ?_
        refine z_aload_n 0 dX12_does_82 rfl rfl (z_iload_n 2 dX12_does_83 rfl ?_)
        obtain ⟨oc30, w28, I29, c30, H31⟩ := H27
        refine z_virt (As := [.int x2]) (st := []) (r1 := (some (.int w28))) (h1 := (g, I29, P)) dX12_does_84 kX12_tells wm_X12_248 ⟨by decide, by decide⟩ rfl rfl (Nat.le_of_ble_eq_true rfl) (by decide) (by decide) oc30 c30 ?_
        obtain ⟨ob, rfl, rfl⟩ := H31
        exact z_zret dX12_does_87 rfl ob (by decide) (by decide)
      by_cases q32 : x1 = 3
      · have H33 := H9.2.2.2.1 q32
        have eq32 : (x1 : Int32).toInt = 3 := by rw [q32]; decide
        refine z_tableIn (off := 66) (t := 88) dX12_does_22 (by rw [eq32]; decide) (by rw [eq32]; decide) (by rw [eq32]; rfl) (by decide) ?_
        refine z_aload_n 0 dX12_does_88 rfl rfl ?_
        obtain ⟨oe36, b34, e36, H35⟩ := H33
        refine z_getP dX12_does_89 wf_X12_32 (by decide) (by decide) rfl oe36 (fun q => (by cases q.symm.trans e36)) (fun j q => ?_)
        cases q.symm.trans e36
        refine z_iload_n 2 dX12_does_92 rfl (z_iald dX12_does_93 H35.1 H35.2.1 (z_aload_n 0 dX12_does_94 rfl rfl ?_))
        obtain ⟨oe39, b37, e39, H38⟩ := H35.2.2
        refine z_getP dX12_does_95 wf_X12_35 (by decide) (by decide) rfl oe39 (fun q => (by cases q.symm.trans e39)) (fun j q => ?_)
        cases q.symm.trans e39
        refine z_iload_n 2 dX12_does_98 rfl (z_iald dX12_does_99 H38.1 H38.2.1 ?_)
        refine z_icmp_ne (t := 105) dX12_does_100 (by decide) (fun q => ?_) (fun q => ?_)
        · have H40 := H38.2.2.1 q
          refine z_aload_n 0 dX12_does_105 rfl rfl ?_
          obtain ⟨oe43, b41, e43, H42⟩ := H40
          refine z_getP dX12_does_106 wf_X12_32 (by decide) (by decide) rfl oe43 (fun q => (by cases q.symm.trans e43)) (fun j q => ?_)
          cases q.symm.trans e43
          refine z_iload_n 2 dX12_does_109 rfl (z_dup2 dX12_does_110 rfl rfl (z_iald dX12_does_111 H42.1 H42.2.1 (z_iconst (w := 1) dX12_does_112 (by decide) (z_isub dX12_does_113 (z_iast (g := g) (I := I) (Q := P) dX12_does_114 H42.2.2.1 H42.2.2.2.1 (z_iconst (w := 1) dX12_does_115 (by decide) ?_))))))
          obtain ⟨rfl, rfl⟩ := H42.2.2.2.2
          exact z_zret dX12_does_116 rfl (Or.inr rfl) (by decide) (by decide)
        · have H44 := H38.2.2.2 q
          refine z_iconst (w := 0) dX12_does_103 (by decide) ?_
          obtain ⟨rfl, rfl⟩ := H44
          exact z_zret dX12_does_104 rfl (Or.inl rfl) (by decide) (by decide)
      have H45 := H9.2.2.2.2 q10 q16 q26 q32
      have nq10 := lv_neT q10 (show (0 : Int32).toInt = 0 by decide)
      have nq16 := lv_neT q16 (show (1 : Int32).toInt = 1 by decide)
      have nq26 := lv_neT q26 (show (2 : Int32).toInt = 2 by decide)
      have nq32 := lv_neT q32 (show (3 : Int32).toInt = 3 by decide)
      refine z_tableOut (t := 117) dX12_does_22 (by omega) (by decide) ?_
      refine z_aload_n 0 dX12_does_117 rfl rfl (z_dup dX12_does_118 rfl (z_getI dX12_does_119 wf_X12_223 (by decide) (by decide) rfl H45.1 (z_iconst (w := 1) dX12_does_122 (by decide) (z_iload_n 2 dX12_does_123 rfl (z_ishl dX12_does_124 (z_ior dX12_does_125 (z_putI (g := g) (I := I) (Q := P) dX12_does_126 wf_X12_223 (by decide) (by decide) rfl (Or.inl rfl) (zfit_int rfl) H45.2.1 (z_iconst (w := 1) dX12_does_129 (by decide) ?_))))))))
      obtain ⟨rfl, rfl⟩ := H45.2.2
      exact z_zret dX12_does_130 rfl (Or.inr rfl) (by decide) (by decide)
    · have H46 := H8.2 q
      refine z_iconst (w := 0) dX12_does_19 (by decide) ?_
      obtain ⟨rfl, rfl⟩ := H46
      exact z_zret dX12_does_20 rfl (Or.inl rfl) (by decide) (by decide)
theorem eX12_does {g : zG} {I : Nat → Nat → Int32} {P : Nat → Nat → Option Nat} {r : Option Value} {h' : zH} {a0 : Nat} {x1 : Int32} {x2 : Int32} {x3 : Int32} (H : Zt none mX12_does 0 0 0 [(0, .ref a0), (1, .int x1), (2, .int x2), (3, .int x3)] [] (g, I, P) r h') : Cl mX12_does [.ref a0, .int x1, .int x2, .int x3] (g, I, P) r h' := Cl.of (by decide) (Nat.le_of_ble_eq_true rfl) H
theorem dX12_runs_0 : decode cX12_runs 0 = .ok (.aload_n 0, 1) := by decide +kernel
theorem dX12_runs_1 : decode cX12_runs 1 = .ok (.invokevirtual 251, 3) := by decide +kernel
theorem dX12_runs_4 : decode cX12_runs 4 = .ok (.aload_n 0, 1) := by decide +kernel
theorem dX12_runs_5 : decode cX12_runs 5 = .ok (.getfield 226, 3) := by decide +kernel
theorem dX12_runs_8 : decode cX12_runs 8 = .ok (.iload_n 1, 1) := by decide +kernel
theorem dX12_runs_9 : decode cX12_runs 9 = .ok (.if_icmp .ge 93, 3) := by decide +kernel
theorem dX12_runs_12 : decode cX12_runs 12 = .ok (.aload_n 0, 1) := by decide +kernel
theorem dX12_runs_13 : decode cX12_runs 13 = .ok (.getfield 226, 3) := by decide +kernel
theorem dX12_runs_16 : decode cX12_runs 16 = .ok (.aload_n 0, 1) := by decide +kernel
theorem dX12_runs_17 : decode cX12_runs 17 = .ok (.getfield 7, 3) := by decide +kernel
theorem dX12_runs_20 : decode cX12_runs 20 = .ok (.aload_n 0, 1) := by decide +kernel
theorem dX12_runs_21 : decode cX12_runs 21 = .ok (.getfield 217, 3) := by decide +kernel
theorem dX12_runs_24 : decode cX12_runs 24 = .ok (.iaload, 1) := by decide +kernel
theorem dX12_runs_25 : decode cX12_runs 25 = .ok (.if_icmp .ge 77, 3) := by decide +kernel
theorem dX12_runs_28 : decode cX12_runs 28 = .ok (.aload_n 0, 1) := by decide +kernel
theorem dX12_runs_29 : decode cX12_runs 29 = .ok (.aload_n 0, 1) := by decide +kernel
theorem dX12_runs_30 : decode cX12_runs 30 = .ok (.getfield 7, 3) := by decide +kernel
theorem dX12_runs_33 : decode cX12_runs 33 = .ok (.aload_n 0, 1) := by decide +kernel
theorem dX12_runs_34 : decode cX12_runs 34 = .ok (.getfield 217, 3) := by decide +kernel
theorem dX12_runs_37 : decode cX12_runs 37 = .ok (.iconst 1, 1) := by decide +kernel
theorem dX12_runs_38 : decode cX12_runs 38 = .ok (.iadd, 1) := by decide +kernel
theorem dX12_runs_39 : decode cX12_runs 39 = .ok (.iconst 3, 1) := by decide +kernel
theorem dX12_runs_40 : decode cX12_runs 40 = .ok (.aload_n 0, 1) := by decide +kernel
theorem dX12_runs_41 : decode cX12_runs 41 = .ok (.getfield 226, 3) := by decide +kernel
theorem dX12_runs_44 : decode cX12_runs 44 = .ok (.imul, 1) := by decide +kernel
theorem dX12_runs_45 : decode cX12_runs 45 = .ok (.iadd, 1) := by decide +kernel
theorem dX12_runs_46 : decode cX12_runs 46 = .ok (.iaload, 1) := by decide +kernel
theorem dX12_runs_47 : decode cX12_runs 47 = .ok (.aload_n 0, 1) := by decide +kernel
theorem dX12_runs_48 : decode cX12_runs 48 = .ok (.getfield 7, 3) := by decide +kernel
theorem dX12_runs_51 : decode cX12_runs 51 = .ok (.aload_n 0, 1) := by decide +kernel
theorem dX12_runs_52 : decode cX12_runs 52 = .ok (.getfield 217, 3) := by decide +kernel
theorem dX12_runs_55 : decode cX12_runs 55 = .ok (.iconst 2, 1) := by decide +kernel
theorem dX12_runs_56 : decode cX12_runs 56 = .ok (.iadd, 1) := by decide +kernel
theorem dX12_runs_57 : decode cX12_runs 57 = .ok (.iconst 3, 1) := by decide +kernel
theorem dX12_runs_58 : decode cX12_runs 58 = .ok (.aload_n 0, 1) := by decide +kernel
theorem dX12_runs_59 : decode cX12_runs 59 = .ok (.getfield 226, 3) := by decide +kernel
theorem dX12_runs_62 : decode cX12_runs 62 = .ok (.imul, 1) := by decide +kernel
theorem dX12_runs_63 : decode cX12_runs 63 = .ok (.iadd, 1) := by decide +kernel
theorem dX12_runs_64 : decode cX12_runs 64 = .ok (.iaload, 1) := by decide +kernel
theorem dX12_runs_65 : decode cX12_runs 65 = .ok (.aload_n 0, 1) := by decide +kernel
theorem dX12_runs_66 : decode cX12_runs 66 = .ok (.getfield 7, 3) := by decide +kernel
theorem dX12_runs_69 : decode cX12_runs 69 = .ok (.aload_n 0, 1) := by decide +kernel
theorem dX12_runs_70 : decode cX12_runs 70 = .ok (.getfield 217, 3) := by decide +kernel
theorem dX12_runs_73 : decode cX12_runs 73 = .ok (.iconst 3, 1) := by decide +kernel
theorem dX12_runs_74 : decode cX12_runs 74 = .ok (.iadd, 1) := by decide +kernel
theorem dX12_runs_75 : decode cX12_runs 75 = .ok (.iconst 3, 1) := by decide +kernel
theorem dX12_runs_76 : decode cX12_runs 76 = .ok (.aload_n 0, 1) := by decide +kernel
theorem dX12_runs_77 : decode cX12_runs 77 = .ok (.getfield 226, 3) := by decide +kernel
theorem dX12_runs_80 : decode cX12_runs 80 = .ok (.imul, 1) := by decide +kernel
theorem dX12_runs_81 : decode cX12_runs 81 = .ok (.iadd, 1) := by decide +kernel
theorem dX12_runs_82 : decode cX12_runs 82 = .ok (.iaload, 1) := by decide +kernel
theorem dX12_runs_83 : decode cX12_runs 83 = .ok (.invokevirtual 254, 3) := by decide +kernel
theorem dX12_runs_86 : decode cX12_runs 86 = .ok (.ifCond .eq 16, 3) := by decide +kernel
theorem dX12_runs_89 : decode cX12_runs 89 = .ok (.aload_n 0, 1) := by decide +kernel
theorem dX12_runs_90 : decode cX12_runs 90 = .ok (.dup, 1) := by decide +kernel
theorem dX12_runs_91 : decode cX12_runs 91 = .ok (.getfield 226, 3) := by decide +kernel
theorem dX12_runs_94 : decode cX12_runs 94 = .ok (.iconst 1, 1) := by decide +kernel
theorem dX12_runs_95 : decode cX12_runs 95 = .ok (.iadd, 1) := by decide +kernel
theorem dX12_runs_96 : decode cX12_runs 96 = .ok (.putfield 226, 3) := by decide +kernel
theorem dX12_runs_99 : decode cX12_runs 99 = .ok (.goto (-95), 3) := by decide +kernel
theorem dX12_runs_102 : decode cX12_runs 102 = .ok (.return_, 1) := by decide +kernel
set_option maxRecDepth 10000 in
theorem wX12_runs_0 {g : zG} {I : Nat → Nat → Int32} {P : Nat → Nat → Option Nat} {r : Option Value} {h' : zH} {a0 : Nat} {x1 : Int32} (H : zk g a0 12 ∧ ∃ (I1 : Nat → Nat → Int32), Cl mX12_begins [.ref a0] (g, I, P) none (g, I1, P) ∧ Zt none mX12_runs 0 0 4 [(0, .ref a0), (1, .int x1)] [] (g, I1, P) r h') : Zt none mX12_runs 0 0 0 [(0, .ref a0), (1, .int x1)] [] (g, I, P) r h' := by
  refine z_aload_n 0 dX12_runs_0 rfl rfl ?_
  obtain ⟨oc2, I1, c2, H3⟩ := H
  refine z_virt (As := []) (st := []) (r1 := none) (h1 := (g, I1, P)) dX12_runs_1 kX12_begins wm_X12_251 ⟨by decide, by decide⟩ rfl rfl (Nat.le_of_ble_eq_true rfl) (by decide) (by decide) oc2 c2 ?_
  exact z_less [0, 1] rfl H3
theorem eX12_runs {g : zG} {I : Nat → Nat → Int32} {P : Nat → Nat → Option Nat} {r : Option Value} {h' : zH} {a0 : Nat} {x1 : Int32} (H : Zt none mX12_runs 0 0 0 [(0, .ref a0), (1, .int x1)] [] (g, I, P) r h') : Cl mX12_runs [.ref a0, .int x1] (g, I, P) r h' := Cl.of (by decide) (Nat.le_of_ble_eq_true rfl) H
set_option maxRecDepth 10000 in
theorem wX12_runs_4 {g : zG} {I : Nat → Nat → Int32} {P : Nat → Nat → Option Nat} {r : Option Value} {h' : zH} {a0 : Nat} {x1 : Int32} (H : zk g a0 12 ∧ ((x1 ≤ I a0 25) → r = none ∧ h' = (g, I, P)) ∧ ((¬ x1 ≤ I a0 25) → zk g a0 12 ∧ zk g a0 12 ∧ ∃ b3, P a0 0 = some b3 ∧ zk g a0 12 ∧ zk g b3 13 ∧ vp_in (I a0 16) (g.2.2 b3) ∧ ((I b3 (I a0 16).toNatClampNeg ≤ I a0 25) → r = none ∧ h' = (g, I, P)) ∧ ((¬ I b3 (I a0 16).toNatClampNeg ≤ I a0 25) → zk g a0 12 ∧ ∃ b8, P a0 0 = some b8 ∧ zk g a0 12 ∧ zk g a0 12 ∧ zk g b8 13 ∧ vp_in (((I a0 16) + 1) + (3 * (I a0 25))) (g.2.2 b8) ∧ zk g a0 12 ∧ ∃ b11, P a0 0 = some b11 ∧ zk g a0 12 ∧ zk g a0 12 ∧ zk g b11 13 ∧ vp_in (((I a0 16) + 2) + (3 * (I a0 25))) (g.2.2 b11) ∧ zk g a0 12 ∧ ∃ b14, P a0 0 = some b14 ∧ zk g a0 12 ∧ zk g a0 12 ∧ zk g b14 13 ∧ vp_in (((I a0 16) + 3) + (3 * (I a0 25))) (g.2.2 b14) ∧ zk g a0 12 ∧ ∃ (w17 : Int32) (I18 : Nat → Nat → Int32), Cl mX12_does [.ref a0, .int (I b8 (((I a0 16) + 1) + (3 * (I a0 25))).toNatClampNeg), .int (I b11 (((I a0 16) + 2) + (3 * (I a0 25))).toNatClampNeg), .int (I b14 (((I a0 16) + 3) + (3 * (I a0 25))).toNatClampNeg)] (g, I, P) (some (.int w17)) (g, I18, P) ∧ ((w17 = 0) → r = none ∧ h' = (g, I18, P)) ∧ ((¬ w17 = 0) → zk g a0 12 ∧ zk g a0 12 ∧ Zt none mX12_runs 0 0 4 [(0, .ref a0), (1, .int x1)] [] (g, zU I18 a0 25 ((I18 a0 25) + 1), P) r h')))) : Zt none mX12_runs 0 0 4 [(0, .ref a0), (1, .int x1)] [] (g, I, P) r h' := by
  refine z_aload_n 0 dX12_runs_4 rfl rfl (z_getI dX12_runs_5 wf_X12_226 (by decide) (by decide) rfl H.1 (z_iload_n 1 dX12_runs_8 rfl ?_))
  refine z_icmp_ge (t := 102) dX12_runs_9 (by decide) (fun q => ?_) (fun q => ?_)
  · have H1 := H.2.1 q
    obtain ⟨rfl, rfl⟩ := H1
    exact z_vret dX12_runs_102 rfl (by decide) (by decide)
  · have H2 := H.2.2 q
    refine z_aload_n 0 dX12_runs_12 rfl rfl (z_getI dX12_runs_13 wf_X12_226 (by decide) (by decide) rfl H2.1 (z_aload_n 0 dX12_runs_16 rfl rfl ?_))
    obtain ⟨oe5, b3, e5, H4⟩ := H2.2
    refine z_getP dX12_runs_17 wf_X12_7 (by decide) (by decide) rfl oe5 (fun q => (by cases q.symm.trans e5)) (fun j q => ?_)
    cases q.symm.trans e5
    refine z_aload_n 0 dX12_runs_20 rfl rfl (z_getI dX12_runs_21 wf_X12_217 (by decide) (by decide) rfl H4.1 (z_iald dX12_runs_24 H4.2.1 H4.2.2.1 ?_))
    refine z_icmp_ge (t := 102) dX12_runs_25 (by decide) (fun q => ?_) (fun q => ?_)
    · have H6 := H4.2.2.2.1 q
      obtain ⟨rfl, rfl⟩ := H6
      exact z_vret dX12_runs_102 rfl (by decide) (by decide)
    · have H7 := H4.2.2.2.2 q
      refine z_aload_n 0 dX12_runs_28 rfl rfl (z_aload_n 0 dX12_runs_29 rfl rfl ?_)
      obtain ⟨oe10, b8, e10, H9⟩ := H7
      refine z_getP dX12_runs_30 wf_X12_7 (by decide) (by decide) rfl oe10 (fun q => (by cases q.symm.trans e10)) (fun j q => ?_)
      cases q.symm.trans e10
      refine z_aload_n 0 dX12_runs_33 rfl rfl (z_getI dX12_runs_34 wf_X12_217 (by decide) (by decide) rfl H9.1 (z_iconst (w := 1) dX12_runs_37 (by decide) (z_iadd dX12_runs_38 (z_iconst (w := 3) dX12_runs_39 (by decide) (z_aload_n 0 dX12_runs_40 rfl rfl (z_getI dX12_runs_41 wf_X12_226 (by decide) (by decide) rfl H9.2.1 (z_imul dX12_runs_44 (z_iadd dX12_runs_45 (z_iald dX12_runs_46 H9.2.2.1 H9.2.2.2.1 (z_aload_n 0 dX12_runs_47 rfl rfl ?_))))))))))
      obtain ⟨oe13, b11, e13, H12⟩ := H9.2.2.2.2
      refine z_getP dX12_runs_48 wf_X12_7 (by decide) (by decide) rfl oe13 (fun q => (by cases q.symm.trans e13)) (fun j q => ?_)
      cases q.symm.trans e13
      refine z_aload_n 0 dX12_runs_51 rfl rfl (z_getI dX12_runs_52 wf_X12_217 (by decide) (by decide) rfl H12.1 (z_iconst (w := 2) dX12_runs_55 (by decide) (z_iadd dX12_runs_56 (z_iconst (w := 3) dX12_runs_57 (by decide) (z_aload_n 0 dX12_runs_58 rfl rfl (z_getI dX12_runs_59 wf_X12_226 (by decide) (by decide) rfl H12.2.1 (z_imul dX12_runs_62 (z_iadd dX12_runs_63 (z_iald dX12_runs_64 H12.2.2.1 H12.2.2.2.1 (z_aload_n 0 dX12_runs_65 rfl rfl ?_))))))))))
      obtain ⟨oe16, b14, e16, H15⟩ := H12.2.2.2.2
      refine z_getP dX12_runs_66 wf_X12_7 (by decide) (by decide) rfl oe16 (fun q => (by cases q.symm.trans e16)) (fun j q => ?_)
      cases q.symm.trans e16
      refine z_aload_n 0 dX12_runs_69 rfl rfl (z_getI dX12_runs_70 wf_X12_217 (by decide) (by decide) rfl H15.1 (z_iconst (w := 3) dX12_runs_73 (by decide) (z_iadd dX12_runs_74 (z_iconst (w := 3) dX12_runs_75 (by decide) (z_aload_n 0 dX12_runs_76 rfl rfl (z_getI dX12_runs_77 wf_X12_226 (by decide) (by decide) rfl H15.2.1 (z_imul dX12_runs_80 (z_iadd dX12_runs_81 (z_iald dX12_runs_82 H15.2.2.1 H15.2.2.2.1 ?_)))))))))
      obtain ⟨oc19, w17, I18, c19, H20⟩ := H15.2.2.2.2
      refine z_virt (As := [.int (I b8 (((I a0 16) + 1) + (3 * (I a0 25))).toNatClampNeg), .int (I b11 (((I a0 16) + 2) + (3 * (I a0 25))).toNatClampNeg), .int (I b14 (((I a0 16) + 3) + (3 * (I a0 25))).toNatClampNeg)]) (st := []) (r1 := (some (.int w17))) (h1 := (g, I18, P)) dX12_runs_83 kX12_does wm_X12_254 ⟨by decide, by decide⟩ rfl rfl (Nat.le_of_ble_eq_true rfl) (by decide) (by decide) oc19 c19 ?_
      refine z_if_eq (t := 102) dX12_runs_86 (by decide) (fun q => ?_) (fun q => ?_)
      · have H21 := H20.1 q
        obtain ⟨rfl, rfl⟩ := H21
        exact z_vret dX12_runs_102 rfl (by decide) (by decide)
      · have H22 := H20.2 q
        refine z_aload_n 0 dX12_runs_89 rfl rfl (z_dup dX12_runs_90 rfl (z_getI dX12_runs_91 wf_X12_226 (by decide) (by decide) rfl H22.1 (z_iconst (w := 1) dX12_runs_94 (by decide) (z_iadd dX12_runs_95 (z_putI (g := g) (I := I18) (Q := P) dX12_runs_96 wf_X12_226 (by decide) (by decide) rfl (Or.inl rfl) (zfit_int rfl) H22.2.1 (z_goto (t := 4) dX12_runs_99 (by decide) ?_))))))
        exact z_less [0, 1] rfl H22.2.2
theorem dX12_stop_0 : decode cX12_stop 0 = .ok (.aload_n 0, 1) := by decide +kernel
theorem dX12_stop_1 : decode cX12_stop 1 = .ok (.iload_n 1, 1) := by decide +kernel
theorem dX12_stop_2 : decode cX12_stop 2 = .ok (.invokevirtual 196, 3) := by decide +kernel
theorem dX12_stop_5 : decode cX12_stop 5 = .ok (.ifCond .eq 11, 3) := by decide +kernel
theorem dX12_stop_8 : decode cX12_stop 8 = .ok (.aload_n 0, 1) := by decide +kernel
theorem dX12_stop_9 : decode cX12_stop 9 = .ok (.iload_n 2, 1) := by decide +kernel
theorem dX12_stop_10 : decode cX12_stop 10 = .ok (.invokevirtual 220, 3) := by decide +kernel
theorem dX12_stop_13 : decode cX12_stop 13 = .ok (.ifCond .ne 5, 3) := by decide +kernel
theorem dX12_stop_16 : decode cX12_stop 16 = .ok (.iconst (-1), 1) := by decide +kernel
theorem dX12_stop_17 : decode cX12_stop 17 = .ok (.ireturn, 1) := by decide +kernel
theorem dX12_stop_18 : decode cX12_stop 18 = .ok (.aload_n 0, 1) := by decide +kernel
theorem dX12_stop_19 : decode cX12_stop 19 = .ok (.bipush 40, 2) := by decide +kernel
theorem dX12_stop_21 : decode cX12_stop 21 = .ok (.invokevirtual 257, 3) := by decide +kernel
theorem dX12_stop_24 : decode cX12_stop 24 = .ok (.aload_n 0, 1) := by decide +kernel
theorem dX12_stop_25 : decode cX12_stop 25 = .ok (.getfield 226, 3) := by decide +kernel
theorem dX12_stop_28 : decode cX12_stop 28 = .ok (.ireturn, 1) := by decide +kernel
set_option maxRecDepth 10000 in
theorem wX12_stop_0 {g : zG} {I : Nat → Nat → Int32} {P : Nat → Nat → Option Nat} {r : Option Value} {h' : zH} {a0 : Nat} {x1 : Int32} {x2 : Int32} (H : zk g a0 12 ∧ ∃ (w1 : Int32) (I2 : Nat → Nat → Int32), Cl mX12_isHill [.ref a0, .int x1] (g, I, P) (some (.int w1)) (g, I2, P) ∧ ((w1 = 0) → r = some (.int (-1)) ∧ h' = (g, I2, P)) ∧ ((¬ w1 = 0) → zk g a0 12 ∧ ∃ (w7 : Int32) (I8 : Nat → Nat → Int32), Cl mX12_isCentury [.ref a0, .int x2] (g, I2, P) (some (.int w7)) (g, I8, P) ∧ ((¬ w7 = 0) → zk g a0 12 ∧ ∃ (I12 : Nat → Nat → Int32), Cl mX12_runs [.ref a0, .int 40] (g, I8, P) none (g, I12, P) ∧ zk g a0 12 ∧ r = some (.int (I12 a0 25)) ∧ h' = (g, I12, P)) ∧ ((w7 = 0) → r = some (.int (-1)) ∧ h' = (g, I8, P)))) : Zt none mX12_stop 0 0 0 [(0, .ref a0), (1, .int x1), (2, .int x2)] [] (g, I, P) r h' := by
  refine z_aload_n 0 dX12_stop_0 rfl rfl (z_iload_n 1 dX12_stop_1 rfl ?_)
  obtain ⟨oc3, w1, I2, c3, H4⟩ := H
  refine z_virt (As := [.int x1]) (st := []) (r1 := (some (.int w1))) (h1 := (g, I2, P)) dX12_stop_2 kX12_isHill wm_X12_196 ⟨by decide, by decide⟩ rfl rfl (Nat.le_of_ble_eq_true rfl) (by decide) (by decide) oc3 c3 ?_
  refine z_if_eq (t := 16) dX12_stop_5 (by decide) (fun q => ?_) (fun q => ?_)
  · have H5 := H4.1 q
    refine z_iconst (w := (-1)) dX12_stop_16 (by decide) ?_
    obtain ⟨rfl, rfl⟩ := H5
    exact z_iret dX12_stop_17 rfl (by decide) (by decide)
  · have H6 := H4.2 q
    refine z_aload_n 0 dX12_stop_8 rfl rfl (z_iload_n 2 dX12_stop_9 rfl ?_)
    obtain ⟨oc9, w7, I8, c9, H10⟩ := H6
    refine z_virt (As := [.int x2]) (st := []) (r1 := (some (.int w7))) (h1 := (g, I8, P)) dX12_stop_10 kX12_isCentury wm_X12_220 ⟨by decide, by decide⟩ rfl rfl (Nat.le_of_ble_eq_true rfl) (by decide) (by decide) oc9 c9 ?_
    refine z_if_ne (t := 18) dX12_stop_13 (by decide) (fun q => ?_) (fun q => ?_)
    · have H11 := H10.1 q
      refine z_aload_n 0 dX12_stop_18 rfl rfl (z_bipush (w := 40) dX12_stop_19 (by decide) ?_)
      obtain ⟨oc13, I12, c13, H14⟩ := H11
      refine z_virt (As := [.int 40]) (st := []) (r1 := none) (h1 := (g, I12, P)) dX12_stop_21 kX12_runs wm_X12_257 ⟨by decide, by decide⟩ rfl rfl (Nat.le_of_ble_eq_true rfl) (by decide) (by decide) oc13 c13 ?_
      refine z_aload_n 0 dX12_stop_24 rfl rfl (z_getI dX12_stop_25 wf_X12_226 (by decide) (by decide) rfl H14.1 ?_)
      obtain ⟨rfl, rfl⟩ := H14.2
      exact z_iret dX12_stop_28 rfl (by decide) (by decide)
    · have H15 := H10.2 q
      refine z_iconst (w := (-1)) dX12_stop_16 (by decide) ?_
      obtain ⟨rfl, rfl⟩ := H15
      exact z_iret dX12_stop_17 rfl (by decide) (by decide)
theorem eX12_stop {g : zG} {I : Nat → Nat → Int32} {P : Nat → Nat → Option Nat} {r : Option Value} {h' : zH} {a0 : Nat} {x1 : Int32} {x2 : Int32} (H : Zt none mX12_stop 0 0 0 [(0, .ref a0), (1, .int x1), (2, .int x2)] [] (g, I, P) r h') : Cl mX12_stop [.ref a0, .int x1, .int x2] (g, I, P) r h' := Cl.of (by decide) (Nat.le_of_ble_eq_true rfl) H
theorem dX12_feignedOn_0 : decode cX12_feignedOn 0 = .ok (.iconst 0, 1) := by decide +kernel
theorem dX12_feignedOn_1 : decode cX12_feignedOn 1 = .ok (.istore_n 2, 1) := by decide +kernel
theorem dX12_feignedOn_2 : decode cX12_feignedOn 2 = .ok (.iconst 0, 1) := by decide +kernel
theorem dX12_feignedOn_3 : decode cX12_feignedOn 3 = .ok (.istore_n 3, 1) := by decide +kernel
theorem dX12_feignedOn_4 : decode cX12_feignedOn 4 = .ok (.iload_n 3, 1) := by decide +kernel
theorem dX12_feignedOn_5 : decode cX12_feignedOn 5 = .ok (.aload_n 0, 1) := by decide +kernel
theorem dX12_feignedOn_6 : decode cX12_feignedOn 6 = .ok (.getfield 32, 3) := by decide +kernel
theorem dX12_feignedOn_9 : decode cX12_feignedOn 9 = .ok (.iload_n 1, 1) := by decide +kernel
theorem dX12_feignedOn_10 : decode cX12_feignedOn 10 = .ok (.iaload, 1) := by decide +kernel
theorem dX12_feignedOn_11 : decode cX12_feignedOn 11 = .ok (.if_icmp .ge 31, 3) := by decide +kernel
theorem dX12_feignedOn_14 : decode cX12_feignedOn 14 = .ok (.iload_n 2, 1) := by decide +kernel
theorem dX12_feignedOn_15 : decode cX12_feignedOn 15 = .ok (.aload_n 0, 1) := by decide +kernel
theorem dX12_feignedOn_16 : decode cX12_feignedOn 16 = .ok (.getfield 29, 3) := by decide +kernel
theorem dX12_feignedOn_19 : decode cX12_feignedOn 19 = .ok (.bipush 12, 2) := by decide +kernel
theorem dX12_feignedOn_21 : decode cX12_feignedOn 21 = .ok (.iload_n 1, 1) := by decide +kernel
theorem dX12_feignedOn_22 : decode cX12_feignedOn 22 = .ok (.imul, 1) := by decide +kernel
theorem dX12_feignedOn_23 : decode cX12_feignedOn 23 = .ok (.iload_n 3, 1) := by decide +kernel
theorem dX12_feignedOn_24 : decode cX12_feignedOn 24 = .ok (.iadd, 1) := by decide +kernel
theorem dX12_feignedOn_25 : decode cX12_feignedOn 25 = .ok (.baload, 1) := by decide +kernel
theorem dX12_feignedOn_26 : decode cX12_feignedOn 26 = .ok (.ifCond .eq 7, 3) := by decide +kernel
theorem dX12_feignedOn_29 : decode cX12_feignedOn 29 = .ok (.iconst 1, 1) := by decide +kernel
theorem dX12_feignedOn_30 : decode cX12_feignedOn 30 = .ok (.goto 4, 3) := by decide +kernel
theorem dX12_feignedOn_33 : decode cX12_feignedOn 33 = .ok (.iconst 0, 1) := by decide +kernel
theorem dX12_feignedOn_34 : decode cX12_feignedOn 34 = .ok (.iadd, 1) := by decide +kernel
theorem dX12_feignedOn_35 : decode cX12_feignedOn 35 = .ok (.istore_n 2, 1) := by decide +kernel
theorem dX12_feignedOn_36 : decode cX12_feignedOn 36 = .ok (.iinc 3 1, 3) := by decide +kernel
theorem dX12_feignedOn_39 : decode cX12_feignedOn 39 = .ok (.goto (-35), 3) := by decide +kernel
theorem dX12_feignedOn_42 : decode cX12_feignedOn 42 = .ok (.iload_n 2, 1) := by decide +kernel
theorem dX12_feignedOn_43 : decode cX12_feignedOn 43 = .ok (.ireturn, 1) := by decide +kernel
set_option maxRecDepth 10000 in
theorem wX12_feignedOn_0 {g : zG} {I : Nat → Nat → Int32} {P : Nat → Nat → Option Nat} {r : Option Value} {h' : zH} {a0 : Nat} {x1 : Int32} (H : Zt none mX12_feignedOn 0 0 4 [(0, .ref a0), (1, .int x1), (2, .int 0), (3, .int 0)] [] (g, I, P) r h') : Zt none mX12_feignedOn 0 0 0 [(0, .ref a0), (1, .int x1)] [] (g, I, P) r h' := by
  refine z_iconst (w := 0) dX12_feignedOn_0 (by decide) (z_istore_n (lv' := [(2, .int 0), (0, .ref a0), (1, .int x1)]) dX12_feignedOn_1 (by decide) rfl (z_iconst (w := 0) dX12_feignedOn_2 (by decide) (z_istore_n (lv' := [(3, .int 0), (2, .int 0), (0, .ref a0), (1, .int x1)]) dX12_feignedOn_3 (by decide) rfl ?_)))
  exact z_less [2, 3, 1, 0] rfl H
theorem eX12_feignedOn {g : zG} {I : Nat → Nat → Int32} {P : Nat → Nat → Option Nat} {r : Option Value} {h' : zH} {a0 : Nat} {x1 : Int32} (H : Zt none mX12_feignedOn 0 0 0 [(0, .ref a0), (1, .int x1)] [] (g, I, P) r h') : Cl mX12_feignedOn [.ref a0, .int x1] (g, I, P) r h' := Cl.of (by decide) (Nat.le_of_ble_eq_true rfl) H
set_option maxRecDepth 10000 in
theorem wX12_feignedOn_4 {g : zG} {I : Nat → Nat → Int32} {P : Nat → Nat → Option Nat} {r : Option Value} {h' : zH} {a0 : Nat} {x1 : Int32} {x2 : Int32} {x3 : Int32} (H : zk g a0 12 ∧ ∃ b1, P a0 21 = some b1 ∧ zk g b1 13 ∧ vp_in x1 (g.2.2 b1) ∧ ((I b1 x1.toNatClampNeg ≤ x3) → r = some (.int x2) ∧ h' = (g, I, P)) ∧ ((¬ I b1 x1.toNatClampNeg ≤ x3) → zk g a0 12 ∧ ∃ b6, P a0 20 = some b6 ∧ zk g b6 14 ∧ vp_in ((12 * x1) + x3) (g.2.2 b6) ∧ ((I b6 ((12 * x1) + x3).toNatClampNeg = 0) → Zt none mX12_feignedOn 0 0 4 [(0, .ref a0), (1, .int x1), (2, .int (x2 + 0)), (3, .int (x3 + 1))] [] (g, I, P) r h') ∧ ((¬ I b6 ((12 * x1) + x3).toNatClampNeg = 0) → Zt none mX12_feignedOn 0 0 4 [(0, .ref a0), (1, .int x1), (2, .int (x2 + 1)), (3, .int (x3 + 1))] [] (g, I, P) r h'))) : Zt none mX12_feignedOn 0 0 4 [(0, .ref a0), (1, .int x1), (2, .int x2), (3, .int x3)] [] (g, I, P) r h' := by
  refine z_iload_n 3 dX12_feignedOn_4 rfl (z_aload_n 0 dX12_feignedOn_5 rfl rfl ?_)
  obtain ⟨oe3, b1, e3, H2⟩ := H
  refine z_getP dX12_feignedOn_6 wf_X12_32 (by decide) (by decide) rfl oe3 (fun q => (by cases q.symm.trans e3)) (fun j q => ?_)
  cases q.symm.trans e3
  refine z_iload_n 1 dX12_feignedOn_9 rfl (z_iald dX12_feignedOn_10 H2.1 H2.2.1 ?_)
  refine z_icmp_ge (t := 42) dX12_feignedOn_11 (by decide) (fun q => ?_) (fun q => ?_)
  · have H4 := H2.2.2.1 q
    refine z_iload_n 2 dX12_feignedOn_42 rfl ?_
    obtain ⟨rfl, rfl⟩ := H4
    exact z_iret dX12_feignedOn_43 rfl (by decide) (by decide)
  · have H5 := H2.2.2.2 q
    refine z_iload_n 2 dX12_feignedOn_14 rfl (z_aload_n 0 dX12_feignedOn_15 rfl rfl ?_)
    obtain ⟨oe8, b6, e8, H7⟩ := H5
    refine z_getP dX12_feignedOn_16 wf_X12_29 (by decide) (by decide) rfl oe8 (fun q => (by cases q.symm.trans e8)) (fun j q => ?_)
    cases q.symm.trans e8
    refine z_bipush (w := 12) dX12_feignedOn_19 (by decide) (z_iload_n 1 dX12_feignedOn_21 rfl (z_imul dX12_feignedOn_22 (z_iload_n 3 dX12_feignedOn_23 rfl (z_iadd dX12_feignedOn_24 (z_zald dX12_feignedOn_25 H7.1 H7.2.1 ?_)))))
    refine z_if_eq (t := 33) dX12_feignedOn_26 (by decide) (fun q => ?_) (fun q => ?_)
    · have H9 := H7.2.2.1 q
      refine z_iconst (w := 0) dX12_feignedOn_33 (by decide) (z_iadd dX12_feignedOn_34 (z_istore_n (lv' := [(2, .int (x2 + 0)), (0, .ref a0), (1, .int x1), (3, .int x3)]) dX12_feignedOn_35 (by decide) rfl (z_iinc (y := x3 + 1) (lv' := [(3, .int (x3 + 1)), (2, .int (x2 + 0)), (0, .ref a0), (1, .int x1)]) 3 dX12_feignedOn_36 rfl rfl (by decide) rfl (z_goto (t := 4) dX12_feignedOn_39 (by decide) ?_))))
      exact z_less [2, 3, 1, 0] rfl H9
    · have H10 := H7.2.2.2 q
      refine z_iconst (w := 1) dX12_feignedOn_29 (by decide) (z_goto (t := 34) dX12_feignedOn_30 (by decide) (z_iadd dX12_feignedOn_34 (z_istore_n (lv' := [(2, .int (x2 + 1)), (0, .ref a0), (1, .int x1), (3, .int x3)]) dX12_feignedOn_35 (by decide) rfl (z_iinc (y := x3 + 1) (lv' := [(3, .int (x3 + 1)), (2, .int (x2 + 1)), (0, .ref a0), (1, .int x1)]) 3 dX12_feignedOn_36 rfl rfl (by decide) rfl (z_goto (t := 4) dX12_feignedOn_39 (by decide) ?_)))))
      exact z_less [2, 3, 1, 0] rfl H10
theorem dX12_nowOf_0 : decode cX12_nowOf 0 = .ok (.iload_n 1, 1) := by decide +kernel
theorem dX12_nowOf_1 : decode cX12_nowOf 1 = .ok (.ifCond .ne 8, 3) := by decide +kernel
theorem dX12_nowOf_4 : decode cX12_nowOf 4 = .ok (.aload_n 0, 1) := by decide +kernel
theorem dX12_nowOf_5 : decode cX12_nowOf 5 = .ok (.getfield 223, 3) := by decide +kernel
theorem dX12_nowOf_8 : decode cX12_nowOf 8 = .ok (.ireturn, 1) := by decide +kernel
theorem dX12_nowOf_9 : decode cX12_nowOf 9 = .ok (.iload_n 1, 1) := by decide +kernel
theorem dX12_nowOf_10 : decode cX12_nowOf 10 = .ok (.bipush 100, 2) := by decide +kernel
theorem dX12_nowOf_12 : decode cX12_nowOf 12 = .ok (.if_icmp .lt 88, 3) := by decide +kernel
theorem dX12_nowOf_15 : decode cX12_nowOf 15 = .ok (.iload_n 1, 1) := by decide +kernel
theorem dX12_nowOf_16 : decode cX12_nowOf 16 = .ok (.bipush 100, 2) := by decide +kernel
theorem dX12_nowOf_18 : decode cX12_nowOf 18 = .ok (.isub, 1) := by decide +kernel
theorem dX12_nowOf_19 : decode cX12_nowOf 19 = .ok (.bipush 100, 2) := by decide +kernel
theorem dX12_nowOf_21 : decode cX12_nowOf 21 = .ok (.irem, 1) := by decide +kernel
theorem dX12_nowOf_22 : decode cX12_nowOf 22 = .ok (.bipush 12, 2) := by decide +kernel
theorem dX12_nowOf_24 : decode cX12_nowOf 24 = .ok (.idiv, 1) := by decide +kernel
theorem dX12_nowOf_25 : decode cX12_nowOf 25 = .ok (.istore_n 2, 1) := by decide +kernel
theorem dX12_nowOf_26 : decode cX12_nowOf 26 = .ok (.iload_n 1, 1) := by decide +kernel
theorem dX12_nowOf_27 : decode cX12_nowOf 27 = .ok (.bipush 100, 2) := by decide +kernel
theorem dX12_nowOf_29 : decode cX12_nowOf 29 = .ok (.isub, 1) := by decide +kernel
theorem dX12_nowOf_30 : decode cX12_nowOf 30 = .ok (.bipush 100, 2) := by decide +kernel
theorem dX12_nowOf_32 : decode cX12_nowOf 32 = .ok (.irem, 1) := by decide +kernel
theorem dX12_nowOf_33 : decode cX12_nowOf 33 = .ok (.bipush 12, 2) := by decide +kernel
theorem dX12_nowOf_35 : decode cX12_nowOf 35 = .ok (.irem, 1) := by decide +kernel
theorem dX12_nowOf_36 : decode cX12_nowOf 36 = .ok (.istore_n 3, 1) := by decide +kernel
theorem dX12_nowOf_37 : decode cX12_nowOf 37 = .ok (.iload_n 1, 1) := by decide +kernel
theorem dX12_nowOf_38 : decode cX12_nowOf 38 = .ok (.sipush 300, 3) := by decide +kernel
theorem dX12_nowOf_41 : decode cX12_nowOf 41 = .ok (.if_icmp .ge 56, 3) := by decide +kernel
theorem dX12_nowOf_44 : decode cX12_nowOf 44 = .ok (.aload_n 0, 1) := by decide +kernel
theorem dX12_nowOf_45 : decode cX12_nowOf 45 = .ok (.iload_n 2, 1) := by decide +kernel
theorem dX12_nowOf_46 : decode cX12_nowOf 46 = .ok (.invokevirtual 242, 3) := by decide +kernel
theorem dX12_nowOf_49 : decode cX12_nowOf 49 = .ok (.ifCond .eq 48, 3) := by decide +kernel
theorem dX12_nowOf_52 : decode cX12_nowOf 52 = .ok (.iload_n 3, 1) := by decide +kernel
theorem dX12_nowOf_53 : decode cX12_nowOf 53 = .ok (.aload_n 0, 1) := by decide +kernel
theorem dX12_nowOf_54 : decode cX12_nowOf 54 = .ok (.getfield 32, 3) := by decide +kernel
theorem dX12_nowOf_57 : decode cX12_nowOf 57 = .ok (.iload_n 2, 1) := by decide +kernel
theorem dX12_nowOf_58 : decode cX12_nowOf 58 = .ok (.iaload, 1) := by decide +kernel
theorem dX12_nowOf_59 : decode cX12_nowOf 59 = .ok (.if_icmp .ge 38, 3) := by decide +kernel
theorem dX12_nowOf_62 : decode cX12_nowOf 62 = .ok (.iload_n 1, 1) := by decide +kernel
theorem dX12_nowOf_63 : decode cX12_nowOf 63 = .ok (.sipush 200, 3) := by decide +kernel
theorem dX12_nowOf_66 : decode cX12_nowOf 66 = .ok (.if_icmp .ge 17, 3) := by decide +kernel
theorem dX12_nowOf_69 : decode cX12_nowOf 69 = .ok (.aload_n 0, 1) := by decide +kernel
theorem dX12_nowOf_70 : decode cX12_nowOf 70 = .ok (.getfield 23, 3) := by decide +kernel
theorem dX12_nowOf_73 : decode cX12_nowOf 73 = .ok (.bipush 12, 2) := by decide +kernel
theorem dX12_nowOf_75 : decode cX12_nowOf 75 = .ok (.iload_n 2, 1) := by decide +kernel
theorem dX12_nowOf_76 : decode cX12_nowOf 76 = .ok (.imul, 1) := by decide +kernel
theorem dX12_nowOf_77 : decode cX12_nowOf 77 = .ok (.iload_n 3, 1) := by decide +kernel
theorem dX12_nowOf_78 : decode cX12_nowOf 78 = .ok (.iadd, 1) := by decide +kernel
theorem dX12_nowOf_79 : decode cX12_nowOf 79 = .ok (.iaload, 1) := by decide +kernel
theorem dX12_nowOf_80 : decode cX12_nowOf 80 = .ok (.goto 19, 3) := by decide +kernel
theorem dX12_nowOf_83 : decode cX12_nowOf 83 = .ok (.aload_n 0, 1) := by decide +kernel
theorem dX12_nowOf_84 : decode cX12_nowOf 84 = .ok (.getfield 26, 3) := by decide +kernel
theorem dX12_nowOf_87 : decode cX12_nowOf 87 = .ok (.bipush 12, 2) := by decide +kernel
theorem dX12_nowOf_89 : decode cX12_nowOf 89 = .ok (.iload_n 2, 1) := by decide +kernel
theorem dX12_nowOf_90 : decode cX12_nowOf 90 = .ok (.imul, 1) := by decide +kernel
theorem dX12_nowOf_91 : decode cX12_nowOf 91 = .ok (.iload_n 3, 1) := by decide +kernel
theorem dX12_nowOf_92 : decode cX12_nowOf 92 = .ok (.iadd, 1) := by decide +kernel
theorem dX12_nowOf_93 : decode cX12_nowOf 93 = .ok (.iaload, 1) := by decide +kernel
theorem dX12_nowOf_94 : decode cX12_nowOf 94 = .ok (.goto 5, 3) := by decide +kernel
theorem dX12_nowOf_97 : decode cX12_nowOf 97 = .ok (.bipush (-2), 2) := by decide +kernel
theorem dX12_nowOf_99 : decode cX12_nowOf 99 = .ok (.ireturn, 1) := by decide +kernel
theorem dX12_nowOf_100 : decode cX12_nowOf 100 = .ok (.iload_n 1, 1) := by decide +kernel
theorem dX12_nowOf_101 : decode cX12_nowOf 101 = .ok (.bipush 10, 2) := by decide +kernel
theorem dX12_nowOf_103 : decode cX12_nowOf 103 = .ok (.irem, 1) := by decide +kernel
theorem dX12_nowOf_104 : decode cX12_nowOf 104 = .ok (.istore_n 2, 1) := by decide +kernel
theorem dX12_nowOf_105 : decode cX12_nowOf 105 = .ok (.iload_n 1, 1) := by decide +kernel
theorem dX12_nowOf_106 : decode cX12_nowOf 106 = .ok (.bipush 10, 2) := by decide +kernel
theorem dX12_nowOf_108 : decode cX12_nowOf 108 = .ok (.bipush 69, 2) := by decide +kernel
theorem dX12_nowOf_110 : decode cX12_nowOf 110 = .ok (.invokestatic 120, 3) := by decide +kernel
theorem dX12_nowOf_113 : decode cX12_nowOf 113 = .ok (.ifCond .eq 11, 3) := by decide +kernel
theorem dX12_nowOf_116 : decode cX12_nowOf 116 = .ok (.aload_n 0, 1) := by decide +kernel
theorem dX12_nowOf_117 : decode cX12_nowOf 117 = .ok (.iload_n 2, 1) := by decide +kernel
theorem dX12_nowOf_118 : decode cX12_nowOf 118 = .ok (.invokevirtual 242, 3) := by decide +kernel
theorem dX12_nowOf_121 : decode cX12_nowOf 121 = .ok (.ifCond .ne 6, 3) := by decide +kernel
theorem dX12_nowOf_124 : decode cX12_nowOf 124 = .ok (.bipush (-2), 2) := by decide +kernel
theorem dX12_nowOf_126 : decode cX12_nowOf 126 = .ok (.ireturn, 1) := by decide +kernel
theorem dX12_nowOf_127 : decode cX12_nowOf 127 = .ok (.iload_n 1, 1) := by decide +kernel
theorem dX12_nowOf_128 : decode cX12_nowOf 128 = .ok (.bipush 10, 2) := by decide +kernel
theorem dX12_nowOf_130 : decode cX12_nowOf 130 = .ok (.idiv, 1) := by decide +kernel
theorem dX12_nowOf_131 : decode cX12_nowOf 131 = .ok (.tableswitch 74 1 5 #[33, 40, 54, 61, 68], 33) := by decide +kernel
theorem dX12_nowOf_164 : decode cX12_nowOf 164 = .ok (.aload_n 0, 1) := by decide +kernel
theorem dX12_nowOf_165 : decode cX12_nowOf 165 = .ok (.getfield 32, 3) := by decide +kernel
theorem dX12_nowOf_168 : decode cX12_nowOf 168 = .ok (.iload_n 2, 1) := by decide +kernel
theorem dX12_nowOf_169 : decode cX12_nowOf 169 = .ok (.iaload, 1) := by decide +kernel
theorem dX12_nowOf_170 : decode cX12_nowOf 170 = .ok (.ireturn, 1) := by decide +kernel
theorem dX12_nowOf_171 : decode cX12_nowOf 171 = .ok (.aload_n 0, 1) := by decide +kernel
theorem dX12_nowOf_172 : decode cX12_nowOf 172 = .ok (.getfield 32, 3) := by decide +kernel
theorem dX12_nowOf_175 : decode cX12_nowOf 175 = .ok (.iload_n 2, 1) := by decide +kernel
theorem dX12_nowOf_176 : decode cX12_nowOf 176 = .ok (.iaload, 1) := by decide +kernel
theorem dX12_nowOf_177 : decode cX12_nowOf 177 = .ok (.aload_n 0, 1) := by decide +kernel
theorem dX12_nowOf_178 : decode cX12_nowOf 178 = .ok (.getfield 35, 3) := by decide +kernel
theorem dX12_nowOf_181 : decode cX12_nowOf 181 = .ok (.iload_n 2, 1) := by decide +kernel
theorem dX12_nowOf_182 : decode cX12_nowOf 182 = .ok (.iaload, 1) := by decide +kernel
theorem dX12_nowOf_183 : decode cX12_nowOf 183 = .ok (.isub, 1) := by decide +kernel
theorem dX12_nowOf_184 : decode cX12_nowOf 184 = .ok (.ireturn, 1) := by decide +kernel
theorem dX12_nowOf_185 : decode cX12_nowOf 185 = .ok (.aload_n 0, 1) := by decide +kernel
theorem dX12_nowOf_186 : decode cX12_nowOf 186 = .ok (.getfield 38, 3) := by decide +kernel
theorem dX12_nowOf_189 : decode cX12_nowOf 189 = .ok (.iload_n 2, 1) := by decide +kernel
theorem dX12_nowOf_190 : decode cX12_nowOf 190 = .ok (.iaload, 1) := by decide +kernel
theorem dX12_nowOf_191 : decode cX12_nowOf 191 = .ok (.ireturn, 1) := by decide +kernel
theorem dX12_nowOf_192 : decode cX12_nowOf 192 = .ok (.aload_n 0, 1) := by decide +kernel
theorem dX12_nowOf_193 : decode cX12_nowOf 193 = .ok (.getfield 41, 3) := by decide +kernel
theorem dX12_nowOf_196 : decode cX12_nowOf 196 = .ok (.iload_n 2, 1) := by decide +kernel
theorem dX12_nowOf_197 : decode cX12_nowOf 197 = .ok (.iaload, 1) := by decide +kernel
theorem dX12_nowOf_198 : decode cX12_nowOf 198 = .ok (.ireturn, 1) := by decide +kernel
theorem dX12_nowOf_199 : decode cX12_nowOf 199 = .ok (.aload_n 0, 1) := by decide +kernel
theorem dX12_nowOf_200 : decode cX12_nowOf 200 = .ok (.iload_n 2, 1) := by decide +kernel
theorem dX12_nowOf_201 : decode cX12_nowOf 201 = .ok (.invokevirtual 239, 3) := by decide +kernel
theorem dX12_nowOf_204 : decode cX12_nowOf 204 = .ok (.ireturn, 1) := by decide +kernel
theorem dX12_nowOf_205 : decode cX12_nowOf 205 = .ok (.aload_n 0, 1) := by decide +kernel
theorem dX12_nowOf_206 : decode cX12_nowOf 206 = .ok (.iload_n 2, 1) := by decide +kernel
theorem dX12_nowOf_207 : decode cX12_nowOf 207 = .ok (.invokevirtual 260, 3) := by decide +kernel
theorem dX12_nowOf_210 : decode cX12_nowOf 210 = .ok (.ireturn, 1) := by decide +kernel
set_option maxRecDepth 10000 in
theorem wX12_nowOf_0 {g : zG} {I : Nat → Nat → Int32} {P : Nat → Nat → Option Nat} {r : Option Value} {h' : zH} {a0 : Nat} {x1 : Int32} (H : ((¬ x1 = 0) → ((x1 < 100) → ∃ (w3 : Int32), Cl mX12_isIn [.int x1, .int 10, .int 69] (g, I, P) (some (.int w3)) (g, I, P) ∧ ((w3 = 0) → r = some (.int (-2)) ∧ h' = (g, I, P)) ∧ ((¬ w3 = 0) → zk g a0 12 ∧ ∃ (w8 : Int32), Cl mX12_isStone [.ref a0, .int (x1 - x1 / 10 * 10)] (g, I, P) (some (.int w8)) (g, I, P) ∧ ((¬ w8 = 0) → (((x1 / 10) = 1) → zk g a0 12 ∧ ∃ b14, P a0 21 = some b14 ∧ zk g b14 13 ∧ vp_in (x1 - x1 / 10 * 10) (g.2.2 b14) ∧ r = some (.int (I b14 (x1 - x1 / 10 * 10).toNatClampNeg)) ∧ h' = (g, I, P)) ∧ (((x1 / 10) = 2) → zk g a0 12 ∧ ∃ b19, P a0 21 = some b19 ∧ zk g b19 13 ∧ vp_in (x1 - x1 / 10 * 10) (g.2.2 b19) ∧ zk g a0 12 ∧ ∃ b22, P a0 22 = some b22 ∧ zk g b22 13 ∧ vp_in (x1 - x1 / 10 * 10) (g.2.2 b22) ∧ r = some (.int ((I b19 (x1 - x1 / 10 * 10).toNatClampNeg) - (I b22 (x1 - x1 / 10 * 10).toNatClampNeg))) ∧ h' = (g, I, P)) ∧ (((x1 / 10) = 3) → zk g a0 12 ∧ ∃ b27, P a0 23 = some b27 ∧ zk g b27 13 ∧ vp_in (x1 - x1 / 10 * 10) (g.2.2 b27) ∧ r = some (.int (I b27 (x1 - x1 / 10 * 10).toNatClampNeg)) ∧ h' = (g, I, P)) ∧ (((x1 / 10) = 4) → zk g a0 12 ∧ ∃ b32, P a0 24 = some b32 ∧ zk g b32 13 ∧ vp_in (x1 - x1 / 10 * 10) (g.2.2 b32) ∧ r = some (.int (I b32 (x1 - x1 / 10 * 10).toNatClampNeg)) ∧ h' = (g, I, P)) ∧ (((x1 / 10) = 5) → zk g a0 12 ∧ ∃ (w37 : Int32), Cl mX12_fitting [.ref a0, .int (x1 - x1 / 10 * 10)] (g, I, P) (some (.int w37)) (g, I, P) ∧ r = some (.int w37) ∧ h' = (g, I, P)) ∧ (¬ (x1 / 10) = 1 → ¬ (x1 / 10) = 2 → ¬ (x1 / 10) = 3 → ¬ (x1 / 10) = 4 → ¬ (x1 / 10) = 5 → zk g a0 12 ∧ ∃ (w41 : Int32), Cl mX12_feignedOn [.ref a0, .int (x1 - x1 / 10 * 10)] (g, I, P) (some (.int w41)) (g, I, P) ∧ r = some (.int w41) ∧ h' = (g, I, P))) ∧ ((w8 = 0) → r = some (.int (-2)) ∧ h' = (g, I, P)))) ∧ ((¬ x1 < 100) → ∀ y46 : Int32, y46 = ((x1 - 100) - (x1 - 100) / 100 * 100) / 12 → ∀ y48 : Int32, y48 = ((x1 - 100) - (x1 - 100) / 100 * 100) - ((x1 - 100) - (x1 - 100) / 100 * 100) / 12 * 12 → ((300 ≤ x1) → r = some (.int (-2)) ∧ h' = (g, I, P)) ∧ ((¬ 300 ≤ x1) → zk g a0 12 ∧ ∃ (w52 : Int32), Cl mX12_isStone [.ref a0, .int y46] (g, I, P) (some (.int w52)) (g, I, P) ∧ ((w52 = 0) → r = some (.int (-2)) ∧ h' = (g, I, P)) ∧ ((¬ w52 = 0) → zk g a0 12 ∧ ∃ b57, P a0 21 = some b57 ∧ zk g b57 13 ∧ vp_in y46 (g.2.2 b57) ∧ ((I b57 y46.toNatClampNeg ≤ y48) → r = some (.int (-2)) ∧ h' = (g, I, P)) ∧ ((¬ I b57 y46.toNatClampNeg ≤ y48) → ((200 ≤ x1) → zk g a0 12 ∧ ∃ b63, P a0 19 = some b63 ∧ zk g b63 13 ∧ vp_in ((12 * y46) + y48) (g.2.2 b63) ∧ r = some (.int (I b63 ((12 * y46) + y48).toNatClampNeg)) ∧ h' = (g, I, P)) ∧ ((¬ 200 ≤ x1) → zk g a0 12 ∧ ∃ b67, P a0 18 = some b67 ∧ zk g b67 13 ∧ vp_in ((12 * y46) + y48) (g.2.2 b67) ∧ r = some (.int (I b67 ((12 * y46) + y48).toNatClampNeg)) ∧ h' = (g, I, P))))))) ∧ ((x1 = 0) → zk g a0 12 ∧ r = some (.int (I a0 17)) ∧ h' = (g, I, P))) : Zt none mX12_nowOf 0 0 0 [(0, .ref a0), (1, .int x1)] [] (g, I, P) r h' := by
  refine z_iload_n 1 dX12_nowOf_0 rfl ?_
  refine z_if_ne (t := 9) dX12_nowOf_1 (by decide) (fun q => ?_) (fun q => ?_)
  · have H1 := H.1 q
    refine z_iload_n 1 dX12_nowOf_9 rfl (z_bipush (w := 100) dX12_nowOf_10 (by decide) ?_)
    refine z_icmp_lt (t := 100) dX12_nowOf_12 (by decide) (fun q => ?_) (fun q => ?_)
    · have H2 := H1.1 q
      refine z_iload_n 1 dX12_nowOf_100 rfl (z_bipush (w := 10) dX12_nowOf_101 (by decide) (z_irem dX12_nowOf_103 (by decide) (z_istore_n (lv' := [(2, .int (x1 - x1 / 10 * 10)), (0, .ref a0), (1, .int x1)]) dX12_nowOf_104 (by decide) rfl (z_iload_n 2 dX12_nowOf_105 rfl (z_bipush (w := 10) dX12_nowOf_106 (by decide) (z_bipush (w := 69) dX12_nowOf_108 (by decide) ?_))))))
      obtain ⟨w3, c4, H5⟩ := H2
      refine z_stat (As := [.int x1, .int 10, .int 69]) (st := []) (r1 := (some (.int w3))) (h1 := (g, I, P)) dX12_nowOf_110 kX12_isIn wm_X12_120 ⟨by decide, by decide⟩ rfl rfl (Nat.le_of_ble_eq_true rfl) (by decide) (by decide) c4 ?_
      refine z_if_eq (t := 124) dX12_nowOf_113 (by decide) (fun q => ?_) (fun q => ?_)
      · have H6 := H5.1 q
        refine z_bipush (w := (-2)) dX12_nowOf_124 (by decide) ?_
        obtain ⟨rfl, rfl⟩ := H6
        exact z_iret dX12_nowOf_126 rfl (by decide) (by decide)
      · have H7 := H5.2 q
        refine z_aload_n 1 dX12_nowOf_116 rfl rfl (z_iload_n 0 dX12_nowOf_117 rfl ?_)
        obtain ⟨oc9, w8, c9, H10⟩ := H7
        refine z_virt (As := [.int (x1 - x1 / 10 * 10)]) (st := []) (r1 := (some (.int w8))) (h1 := (g, I, P)) dX12_nowOf_118 kX12_isStone wm_X12_242 ⟨by decide, by decide⟩ rfl rfl (Nat.le_of_ble_eq_true rfl) (by decide) (by decide) oc9 c9 ?_
        refine z_if_ne (t := 127) dX12_nowOf_121 (by decide) (fun q => ?_) (fun q => ?_)
        · have H11 := H10.1 q
          refine z_iload_n 2 dX12_nowOf_127 rfl (z_bipush (w := 10) dX12_nowOf_128 (by decide) (z_idiv dX12_nowOf_130 (by decide) ?_))
          by_cases q12 : (x1 / 10) = 1
          · have H13 := H11.1 q12
            have eq12 : ((x1 / 10) : Int32).toInt = 1 := by rw [q12]; decide
            refine z_tableIn (off := 33) (t := 164) dX12_nowOf_131 (by rw [eq12]; decide) (by rw [eq12]; decide) (by rw [eq12]; rfl) (by decide) ?_
            refine z_aload_n 1 dX12_nowOf_164 rfl rfl ?_
            obtain ⟨oe16, b14, e16, H15⟩ := H13
            refine z_getP dX12_nowOf_165 wf_X12_32 (by decide) (by decide) rfl oe16 (fun q => (by cases q.symm.trans e16)) (fun j q => ?_)
            cases q.symm.trans e16
            refine z_iload_n 0 dX12_nowOf_168 rfl (z_iald dX12_nowOf_169 H15.1 H15.2.1 ?_)
            obtain ⟨rfl, rfl⟩ := H15.2.2
            exact z_iret dX12_nowOf_170 rfl (by decide) (by decide)
          by_cases q17 : (x1 / 10) = 2
          · have H18 := H11.2.1 q17
            have eq17 : ((x1 / 10) : Int32).toInt = 2 := by rw [q17]; decide
            refine z_tableIn (off := 40) (t := 171) dX12_nowOf_131 (by rw [eq17]; decide) (by rw [eq17]; decide) (by rw [eq17]; rfl) (by decide) ?_
            refine z_aload_n 1 dX12_nowOf_171 rfl rfl ?_
            obtain ⟨oe21, b19, e21, H20⟩ := H18
            refine z_getP dX12_nowOf_172 wf_X12_32 (by decide) (by decide) rfl oe21 (fun q => (by cases q.symm.trans e21)) (fun j q => ?_)
            cases q.symm.trans e21
            refine z_iload_n 0 dX12_nowOf_175 rfl (z_iald dX12_nowOf_176 H20.1 H20.2.1 (z_aload_n 1 dX12_nowOf_177 rfl rfl ?_))
            obtain ⟨oe24, b22, e24, H23⟩ := H20.2.2
            refine z_getP dX12_nowOf_178 wf_X12_35 (by decide) (by decide) rfl oe24 (fun q => (by cases q.symm.trans e24)) (fun j q => ?_)
            cases q.symm.trans e24
            refine z_iload_n 0 dX12_nowOf_181 rfl (z_iald dX12_nowOf_182 H23.1 H23.2.1 (z_isub dX12_nowOf_183 ?_))
            obtain ⟨rfl, rfl⟩ := H23.2.2
            exact z_iret dX12_nowOf_184 rfl (by decide) (by decide)
          by_cases q25 : (x1 / 10) = 3
          · have H26 := H11.2.2.1 q25
            have eq25 : ((x1 / 10) : Int32).toInt = 3 := by rw [q25]; decide
            refine z_tableIn (off := 54) (t := 185) dX12_nowOf_131 (by rw [eq25]; decide) (by rw [eq25]; decide) (by rw [eq25]; rfl) (by decide) ?_
            refine z_aload_n 1 dX12_nowOf_185 rfl rfl ?_
            obtain ⟨oe29, b27, e29, H28⟩ := H26
            refine z_getP dX12_nowOf_186 wf_X12_38 (by decide) (by decide) rfl oe29 (fun q => (by cases q.symm.trans e29)) (fun j q => ?_)
            cases q.symm.trans e29
            refine z_iload_n 0 dX12_nowOf_189 rfl (z_iald dX12_nowOf_190 H28.1 H28.2.1 ?_)
            obtain ⟨rfl, rfl⟩ := H28.2.2
            exact z_iret dX12_nowOf_191 rfl (by decide) (by decide)
          by_cases q30 : (x1 / 10) = 4
          · have H31 := H11.2.2.2.1 q30
            have eq30 : ((x1 / 10) : Int32).toInt = 4 := by rw [q30]; decide
            refine z_tableIn (off := 61) (t := 192) dX12_nowOf_131 (by rw [eq30]; decide) (by rw [eq30]; decide) (by rw [eq30]; rfl) (by decide) ?_
            refine z_aload_n 1 dX12_nowOf_192 rfl rfl ?_
            obtain ⟨oe34, b32, e34, H33⟩ := H31
            refine z_getP dX12_nowOf_193 wf_X12_41 (by decide) (by decide) rfl oe34 (fun q => (by cases q.symm.trans e34)) (fun j q => ?_)
            cases q.symm.trans e34
            refine z_iload_n 0 dX12_nowOf_196 rfl (z_iald dX12_nowOf_197 H33.1 H33.2.1 ?_)
            obtain ⟨rfl, rfl⟩ := H33.2.2
            exact z_iret dX12_nowOf_198 rfl (by decide) (by decide)
          by_cases q35 : (x1 / 10) = 5
          · have H36 := H11.2.2.2.2.1 q35
            have eq35 : ((x1 / 10) : Int32).toInt = 5 := by rw [q35]; decide
            refine z_tableIn (off := 68) (t := 199) dX12_nowOf_131 (by rw [eq35]; decide) (by rw [eq35]; decide) (by rw [eq35]; rfl) (by decide) ?_
            refine z_aload_n 1 dX12_nowOf_199 rfl rfl (z_iload_n 0 dX12_nowOf_200 rfl ?_)
            obtain ⟨oc38, w37, c38, H39⟩ := H36
            refine z_virt (As := [.int (x1 - x1 / 10 * 10)]) (st := []) (r1 := (some (.int w37))) (h1 := (g, I, P)) dX12_nowOf_201 kX12_fitting wm_X12_239 ⟨by decide, by decide⟩ rfl rfl (Nat.le_of_ble_eq_true rfl) (by decide) (by decide) oc38 c38 ?_
            obtain ⟨rfl, rfl⟩ := H39
            exact z_iret dX12_nowOf_204 rfl (by decide) (by decide)
          have H40 := H11.2.2.2.2.2 q12 q17 q25 q30 q35
          have nq12 := lv_neT q12 (show (1 : Int32).toInt = 1 by decide)
          have nq17 := lv_neT q17 (show (2 : Int32).toInt = 2 by decide)
          have nq25 := lv_neT q25 (show (3 : Int32).toInt = 3 by decide)
          have nq30 := lv_neT q30 (show (4 : Int32).toInt = 4 by decide)
          have nq35 := lv_neT q35 (show (5 : Int32).toInt = 5 by decide)
          refine z_tableOut (t := 205) dX12_nowOf_131 (by omega) (by decide) ?_
          refine z_aload_n 1 dX12_nowOf_205 rfl rfl (z_iload_n 0 dX12_nowOf_206 rfl ?_)
          obtain ⟨oc42, w41, c42, H43⟩ := H40
          refine z_virt (As := [.int (x1 - x1 / 10 * 10)]) (st := []) (r1 := (some (.int w41))) (h1 := (g, I, P)) dX12_nowOf_207 kX12_feignedOn wm_X12_260 ⟨by decide, by decide⟩ rfl rfl (Nat.le_of_ble_eq_true rfl) (by decide) (by decide) oc42 c42 ?_
          obtain ⟨rfl, rfl⟩ := H43
          exact z_iret dX12_nowOf_210 rfl (by decide) (by decide)
        · have H44 := H10.2 q
          refine z_bipush (w := (-2)) dX12_nowOf_124 (by decide) ?_
          obtain ⟨rfl, rfl⟩ := H44
          exact z_iret dX12_nowOf_126 rfl (by decide) (by decide)
    · have H45 := H1.2 q
      refine z_iload_n 1 dX12_nowOf_15 rfl (z_bipush (w := 100) dX12_nowOf_16 (by decide) (z_isub dX12_nowOf_18 (z_bipush (w := 100) dX12_nowOf_19 (by decide) (z_irem dX12_nowOf_21 (by decide) (z_bipush (w := 12) dX12_nowOf_22 (by decide) (z_idiv dX12_nowOf_24 (by decide) ?_))))))
      refine z_nm (fun y46 e_y46 => ?_)
      have H47 := H45 y46 e_y46
      refine z_istore_n (lv' := [(2, .int y46), (0, .ref a0), (1, .int x1)]) dX12_nowOf_25 (by decide) rfl (z_iload_n 2 dX12_nowOf_26 rfl (z_bipush (w := 100) dX12_nowOf_27 (by decide) (z_isub dX12_nowOf_29 (z_bipush (w := 100) dX12_nowOf_30 (by decide) (z_irem dX12_nowOf_32 (by decide) (z_bipush (w := 12) dX12_nowOf_33 (by decide) (z_irem dX12_nowOf_35 (by decide) ?_)))))))
      refine z_nm (fun y48 e_y48 => ?_)
      have H49 := H47 y48 e_y48
      refine z_istore_n (lv' := [(3, .int y48), (2, .int y46), (0, .ref a0), (1, .int x1)]) dX12_nowOf_36 (by decide) rfl (z_iload_n 3 dX12_nowOf_37 rfl (z_sipush (w := 300) dX12_nowOf_38 (by decide) ?_))
      refine z_icmp_ge (t := 97) dX12_nowOf_41 (by decide) (fun q => ?_) (fun q => ?_)
      · have H50 := H49.1 q
        refine z_bipush (w := (-2)) dX12_nowOf_97 (by decide) ?_
        obtain ⟨rfl, rfl⟩ := H50
        exact z_iret dX12_nowOf_99 rfl (by decide) (by decide)
      · have H51 := H49.2 q
        refine z_aload_n 2 dX12_nowOf_44 rfl rfl (z_iload_n 1 dX12_nowOf_45 rfl ?_)
        obtain ⟨oc53, w52, c53, H54⟩ := H51
        refine z_virt (As := [.int y46]) (st := []) (r1 := (some (.int w52))) (h1 := (g, I, P)) dX12_nowOf_46 kX12_isStone wm_X12_242 ⟨by decide, by decide⟩ rfl rfl (Nat.le_of_ble_eq_true rfl) (by decide) (by decide) oc53 c53 ?_
        refine z_if_eq (t := 97) dX12_nowOf_49 (by decide) (fun q => ?_) (fun q => ?_)
        · have H55 := H54.1 q
          refine z_bipush (w := (-2)) dX12_nowOf_97 (by decide) ?_
          obtain ⟨rfl, rfl⟩ := H55
          exact z_iret dX12_nowOf_99 rfl (by decide) (by decide)
        · have H56 := H54.2 q
          refine z_iload_n 0 dX12_nowOf_52 rfl (z_aload_n 2 dX12_nowOf_53 rfl rfl ?_)
          obtain ⟨oe59, b57, e59, H58⟩ := H56
          refine z_getP dX12_nowOf_54 wf_X12_32 (by decide) (by decide) rfl oe59 (fun q => (by cases q.symm.trans e59)) (fun j q => ?_)
          cases q.symm.trans e59
          refine z_iload_n 1 dX12_nowOf_57 rfl (z_iald dX12_nowOf_58 H58.1 H58.2.1 ?_)
          refine z_icmp_ge (t := 97) dX12_nowOf_59 (by decide) (fun q => ?_) (fun q => ?_)
          · have H60 := H58.2.2.1 q
            refine z_bipush (w := (-2)) dX12_nowOf_97 (by decide) ?_
            obtain ⟨rfl, rfl⟩ := H60
            exact z_iret dX12_nowOf_99 rfl (by decide) (by decide)
          · have H61 := H58.2.2.2 q
            refine z_iload_n 3 dX12_nowOf_62 rfl (z_sipush (w := 200) dX12_nowOf_63 (by decide) ?_)
            refine z_icmp_ge (t := 83) dX12_nowOf_66 (by decide) (fun q => ?_) (fun q => ?_)
            · have H62 := H61.1 q
              refine z_aload_n 2 dX12_nowOf_83 rfl rfl ?_
              obtain ⟨oe65, b63, e65, H64⟩ := H62
              refine z_getP dX12_nowOf_84 wf_X12_26 (by decide) (by decide) rfl oe65 (fun q => (by cases q.symm.trans e65)) (fun j q => ?_)
              cases q.symm.trans e65
              refine z_bipush (w := 12) dX12_nowOf_87 (by decide) (z_iload_n 1 dX12_nowOf_89 rfl (z_imul dX12_nowOf_90 (z_iload_n 0 dX12_nowOf_91 rfl (z_iadd dX12_nowOf_92 (z_iald dX12_nowOf_93 H64.1 H64.2.1 (z_goto (t := 99) dX12_nowOf_94 (by decide) ?_))))))
              obtain ⟨rfl, rfl⟩ := H64.2.2
              exact z_iret dX12_nowOf_99 rfl (by decide) (by decide)
            · have H66 := H61.2 q
              refine z_aload_n 2 dX12_nowOf_69 rfl rfl ?_
              obtain ⟨oe69, b67, e69, H68⟩ := H66
              refine z_getP dX12_nowOf_70 wf_X12_23 (by decide) (by decide) rfl oe69 (fun q => (by cases q.symm.trans e69)) (fun j q => ?_)
              cases q.symm.trans e69
              refine z_bipush (w := 12) dX12_nowOf_73 (by decide) (z_iload_n 1 dX12_nowOf_75 rfl (z_imul dX12_nowOf_76 (z_iload_n 0 dX12_nowOf_77 rfl (z_iadd dX12_nowOf_78 (z_iald dX12_nowOf_79 H68.1 H68.2.1 (z_goto (t := 99) dX12_nowOf_80 (by decide) ?_))))))
              obtain ⟨rfl, rfl⟩ := H68.2.2
              exact z_iret dX12_nowOf_99 rfl (by decide) (by decide)
  · have H70 := H.2 q
    refine z_aload_n 0 dX12_nowOf_4 rfl rfl (z_getI dX12_nowOf_5 wf_X12_223 (by decide) (by decide) rfl H70.1 ?_)
    obtain ⟨rfl, rfl⟩ := H70.2
    exact z_iret dX12_nowOf_8 rfl (by decide) (by decide)
theorem eX12_nowOf {g : zG} {I : Nat → Nat → Int32} {P : Nat → Nat → Option Nat} {r : Option Value} {h' : zH} {a0 : Nat} {x1 : Int32} (H : Zt none mX12_nowOf 0 0 0 [(0, .ref a0), (1, .int x1)] [] (g, I, P) r h') : Cl mX12_nowOf [.ref a0, .int x1] (g, I, P) r h' := Cl.of (by decide) (Nat.le_of_ble_eq_true rfl) H
theorem dX12_state_0 : decode cX12_state 0 = .ok (.aload_n 0, 1) := by decide +kernel
theorem dX12_state_1 : decode cX12_state 1 = .ok (.iload_n 1, 1) := by decide +kernel
theorem dX12_state_2 : decode cX12_state 2 = .ok (.invokevirtual 196, 3) := by decide +kernel
theorem dX12_state_5 : decode cX12_state 5 = .ok (.ifCond .eq 20, 3) := by decide +kernel
theorem dX12_state_8 : decode cX12_state 8 = .ok (.aload_n 0, 1) := by decide +kernel
theorem dX12_state_9 : decode cX12_state 9 = .ok (.iload_n 2, 1) := by decide +kernel
theorem dX12_state_10 : decode cX12_state 10 = .ok (.invokevirtual 220, 3) := by decide +kernel
theorem dX12_state_13 : decode cX12_state 13 = .ok (.ifCond .eq 12, 3) := by decide +kernel
theorem dX12_state_16 : decode cX12_state 16 = .ok (.iload_n 3, 1) := by decide +kernel
theorem dX12_state_17 : decode cX12_state 17 = .ok (.ifCond .lt 8, 3) := by decide +kernel
theorem dX12_state_20 : decode cX12_state 20 = .ok (.iload 4, 2) := by decide +kernel
theorem dX12_state_22 : decode cX12_state 22 = .ok (.ifCond .ge 6, 3) := by decide +kernel
theorem dX12_state_25 : decode cX12_state 25 = .ok (.bipush (-2), 2) := by decide +kernel
theorem dX12_state_27 : decode cX12_state 27 = .ok (.ireturn, 1) := by decide +kernel
theorem dX12_state_28 : decode cX12_state 28 = .ok (.aload_n 0, 1) := by decide +kernel
theorem dX12_state_29 : decode cX12_state 29 = .ok (.iload_n 3, 1) := by decide +kernel
theorem dX12_state_30 : decode cX12_state 30 = .ok (.invokevirtual 257, 3) := by decide +kernel
theorem dX12_state_33 : decode cX12_state 33 = .ok (.aload_n 0, 1) := by decide +kernel
theorem dX12_state_34 : decode cX12_state 34 = .ok (.getfield 226, 3) := by decide +kernel
theorem dX12_state_37 : decode cX12_state 37 = .ok (.iload_n 3, 1) := by decide +kernel
theorem dX12_state_38 : decode cX12_state 38 = .ok (.if_icmp .ne 12, 3) := by decide +kernel
theorem dX12_state_41 : decode cX12_state 41 = .ok (.aload_n 0, 1) := by decide +kernel
theorem dX12_state_42 : decode cX12_state 42 = .ok (.iload 4, 2) := by decide +kernel
theorem dX12_state_44 : decode cX12_state 44 = .ok (.invokevirtual 263, 3) := by decide +kernel
theorem dX12_state_47 : decode cX12_state 47 = .ok (.goto 5, 3) := by decide +kernel
theorem dX12_state_50 : decode cX12_state 50 = .ok (.bipush (-2), 2) := by decide +kernel
theorem dX12_state_52 : decode cX12_state 52 = .ok (.ireturn, 1) := by decide +kernel
set_option maxRecDepth 10000 in
theorem wX12_state_0 {g : zG} {I : Nat → Nat → Int32} {P : Nat → Nat → Option Nat} {r : Option Value} {h' : zH} {a0 : Nat} {x1 : Int32} {x2 : Int32} {x3 : Int32} {x4 : Int32} (H : zk g a0 12 ∧ ∃ (w1 : Int32) (I2 : Nat → Nat → Int32), Cl mX12_isHill [.ref a0, .int x1] (g, I, P) (some (.int w1)) (g, I2, P) ∧ ((w1 = 0) → r = some (.int (-2)) ∧ h' = (g, I2, P)) ∧ ((¬ w1 = 0) → zk g a0 12 ∧ ∃ (w7 : Int32) (I8 : Nat → Nat → Int32), Cl mX12_isCentury [.ref a0, .int x2] (g, I2, P) (some (.int w7)) (g, I8, P) ∧ ((w7 = 0) → r = some (.int (-2)) ∧ h' = (g, I8, P)) ∧ ((¬ w7 = 0) → ((x3 < 0) → r = some (.int (-2)) ∧ h' = (g, I8, P)) ∧ ((¬ x3 < 0) → ((0 ≤ x4) → zk g a0 12 ∧ ∃ (I16 : Nat → Nat → Int32), Cl mX12_runs [.ref a0, .int x3] (g, I8, P) none (g, I16, P) ∧ zk g a0 12 ∧ ((¬ (I16 a0 25) = x3) → r = some (.int (-2)) ∧ h' = (g, I16, P)) ∧ ((I16 a0 25 = x3) → zk g a0 12 ∧ ∃ (w21 : Int32), Cl mX12_nowOf [.ref a0, .int x4] (g, I16, P) (some (.int w21)) (g, I16, P) ∧ r = some (.int w21) ∧ h' = (g, I16, P))) ∧ ((¬ 0 ≤ x4) → r = some (.int (-2)) ∧ h' = (g, I8, P)))))) : Zt none mX12_state 0 0 0 [(0, .ref a0), (1, .int x1), (2, .int x2), (3, .int x3), (4, .int x4)] [] (g, I, P) r h' := by
  refine z_aload_n 0 dX12_state_0 rfl rfl (z_iload_n 1 dX12_state_1 rfl ?_)
  obtain ⟨oc3, w1, I2, c3, H4⟩ := H
  refine z_virt (As := [.int x1]) (st := []) (r1 := (some (.int w1))) (h1 := (g, I2, P)) dX12_state_2 kX12_isHill wm_X12_196 ⟨by decide, by decide⟩ rfl rfl (Nat.le_of_ble_eq_true rfl) (by decide) (by decide) oc3 c3 ?_
  refine z_if_eq (t := 25) dX12_state_5 (by decide) (fun q => ?_) (fun q => ?_)
  · have H5 := H4.1 q
    refine z_bipush (w := (-2)) dX12_state_25 (by decide) ?_
    obtain ⟨rfl, rfl⟩ := H5
    exact z_iret dX12_state_27 rfl (by decide) (by decide)
  · have H6 := H4.2 q
    refine z_aload_n 0 dX12_state_8 rfl rfl (z_iload_n 2 dX12_state_9 rfl ?_)
    obtain ⟨oc9, w7, I8, c9, H10⟩ := H6
    refine z_virt (As := [.int x2]) (st := []) (r1 := (some (.int w7))) (h1 := (g, I8, P)) dX12_state_10 kX12_isCentury wm_X12_220 ⟨by decide, by decide⟩ rfl rfl (Nat.le_of_ble_eq_true rfl) (by decide) (by decide) oc9 c9 ?_
    refine z_if_eq (t := 25) dX12_state_13 (by decide) (fun q => ?_) (fun q => ?_)
    · have H11 := H10.1 q
      refine z_bipush (w := (-2)) dX12_state_25 (by decide) ?_
      obtain ⟨rfl, rfl⟩ := H11
      exact z_iret dX12_state_27 rfl (by decide) (by decide)
    · have H12 := H10.2 q
      refine z_iload_n 3 dX12_state_16 rfl ?_
      refine z_if_lt (t := 25) dX12_state_17 (by decide) (fun q => ?_) (fun q => ?_)
      · have H13 := H12.1 q
        refine z_bipush (w := (-2)) dX12_state_25 (by decide) ?_
        obtain ⟨rfl, rfl⟩ := H13
        exact z_iret dX12_state_27 rfl (by decide) (by decide)
      · have H14 := H12.2 q
        refine z_iload 4 dX12_state_20 rfl ?_
        refine z_if_ge (t := 28) dX12_state_22 (by decide) (fun q => ?_) (fun q => ?_)
        · have H15 := H14.1 q
          refine z_aload_n 0 dX12_state_28 rfl rfl (z_iload_n 3 dX12_state_29 rfl ?_)
          obtain ⟨oc17, I16, c17, H18⟩ := H15
          refine z_virt (As := [.int x3]) (st := []) (r1 := none) (h1 := (g, I16, P)) dX12_state_30 kX12_runs wm_X12_257 ⟨by decide, by decide⟩ rfl rfl (Nat.le_of_ble_eq_true rfl) (by decide) (by decide) oc17 c17 ?_
          refine z_aload_n 0 dX12_state_33 rfl rfl (z_getI dX12_state_34 wf_X12_226 (by decide) (by decide) rfl H18.1 (z_iload_n 3 dX12_state_37 rfl ?_))
          refine z_icmp_ne (t := 50) dX12_state_38 (by decide) (fun q => ?_) (fun q => ?_)
          · have H19 := H18.2.1 q
            refine z_bipush (w := (-2)) dX12_state_50 (by decide) ?_
            obtain ⟨rfl, rfl⟩ := H19
            exact z_iret dX12_state_52 rfl (by decide) (by decide)
          · have H20 := H18.2.2 q
            refine z_aload_n 0 dX12_state_41 rfl rfl (z_iload 4 dX12_state_42 rfl ?_)
            obtain ⟨oc22, w21, c22, H23⟩ := H20
            refine z_virt (As := [.int x4]) (st := []) (r1 := (some (.int w21))) (h1 := (g, I16, P)) dX12_state_44 kX12_nowOf wm_X12_263 ⟨by decide, by decide⟩ rfl rfl (Nat.le_of_ble_eq_true rfl) (by decide) (by decide) oc22 c22 ?_
            refine z_goto (t := 52) dX12_state_47 (by decide) ?_
            obtain ⟨rfl, rfl⟩ := H23
            exact z_iret dX12_state_52 rfl (by decide) (by decide)
        · have H24 := H14.2 q
          refine z_bipush (w := (-2)) dX12_state_25 (by decide) ?_
          obtain ⟨rfl, rfl⟩ := H24
          exact z_iret dX12_state_27 rfl (by decide) (by decide)
theorem eX12_state {g : zG} {I : Nat → Nat → Int32} {P : Nat → Nat → Option Nat} {r : Option Value} {h' : zH} {a0 : Nat} {x1 : Int32} {x2 : Int32} {x3 : Int32} {x4 : Int32} (H : Zt none mX12_state 0 0 0 [(0, .ref a0), (1, .int x1), (2, .int x2), (3, .int x3), (4, .int x4)] [] (g, I, P) r h') : Cl mX12_state [.ref a0, .int x1, .int x2, .int x3, .int x4] (g, I, P) r h' := Cl.of (by decide) (Nat.le_of_ble_eq_true rfl) H
theorem dX12_after_0 : decode cX12_after 0 = .ok (.aload_n 0, 1) := by decide +kernel
theorem dX12_after_1 : decode cX12_after 1 = .ok (.iload_n 1, 1) := by decide +kernel
theorem dX12_after_2 : decode cX12_after 2 = .ok (.invokevirtual 196, 3) := by decide +kernel
theorem dX12_after_5 : decode cX12_after 5 = .ok (.ifCond .eq 20, 3) := by decide +kernel
theorem dX12_after_8 : decode cX12_after 8 = .ok (.aload_n 0, 1) := by decide +kernel
theorem dX12_after_9 : decode cX12_after 9 = .ok (.iload_n 2, 1) := by decide +kernel
theorem dX12_after_10 : decode cX12_after 10 = .ok (.invokevirtual 220, 3) := by decide +kernel
theorem dX12_after_13 : decode cX12_after 13 = .ok (.ifCond .eq 12, 3) := by decide +kernel
theorem dX12_after_16 : decode cX12_after 16 = .ok (.iload_n 3, 1) := by decide +kernel
theorem dX12_after_17 : decode cX12_after 17 = .ok (.iconst 0, 1) := by decide +kernel
theorem dX12_after_18 : decode cX12_after 18 = .ok (.iconst 3, 1) := by decide +kernel
theorem dX12_after_19 : decode cX12_after 19 = .ok (.invokestatic 120, 3) := by decide +kernel
theorem dX12_after_22 : decode cX12_after 22 = .ok (.ifCond .ne 6, 3) := by decide +kernel
theorem dX12_after_25 : decode cX12_after 25 = .ok (.bipush (-2), 2) := by decide +kernel
theorem dX12_after_27 : decode cX12_after 27 = .ok (.ireturn, 1) := by decide +kernel
theorem dX12_after_28 : decode cX12_after 28 = .ok (.aload_n 0, 1) := by decide +kernel
theorem dX12_after_29 : decode cX12_after 29 = .ok (.invokevirtual 251, 3) := by decide +kernel
theorem dX12_after_32 : decode cX12_after 32 = .ok (.iconst (-1), 1) := by decide +kernel
theorem dX12_after_33 : decode cX12_after 33 = .ok (.istore 4, 2) := by decide +kernel
theorem dX12_after_35 : decode cX12_after 35 = .ok (.iconst 0, 1) := by decide +kernel
theorem dX12_after_36 : decode cX12_after 36 = .ok (.istore 5, 2) := by decide +kernel
theorem dX12_after_38 : decode cX12_after 38 = .ok (.iconst 0, 1) := by decide +kernel
theorem dX12_after_39 : decode cX12_after 39 = .ok (.istore 6, 2) := by decide +kernel
theorem dX12_after_41 : decode cX12_after 41 = .ok (.iload 6, 2) := by decide +kernel
theorem dX12_after_43 : decode cX12_after 43 = .ok (.aload_n 0, 1) := by decide +kernel
theorem dX12_after_44 : decode cX12_after 44 = .ok (.getfield 7, 3) := by decide +kernel
theorem dX12_after_47 : decode cX12_after 47 = .ok (.aload_n 0, 1) := by decide +kernel
theorem dX12_after_48 : decode cX12_after 48 = .ok (.getfield 217, 3) := by decide +kernel
theorem dX12_after_51 : decode cX12_after 51 = .ok (.iaload, 1) := by decide +kernel
theorem dX12_after_52 : decode cX12_after 52 = .ok (.if_icmp .ge 138, 3) := by decide +kernel
theorem dX12_after_55 : decode cX12_after 55 = .ok (.aload_n 0, 1) := by decide +kernel
theorem dX12_after_56 : decode cX12_after 56 = .ok (.aload_n 0, 1) := by decide +kernel
theorem dX12_after_57 : decode cX12_after 57 = .ok (.getfield 7, 3) := by decide +kernel
theorem dX12_after_60 : decode cX12_after 60 = .ok (.aload_n 0, 1) := by decide +kernel
theorem dX12_after_61 : decode cX12_after 61 = .ok (.getfield 217, 3) := by decide +kernel
theorem dX12_after_64 : decode cX12_after 64 = .ok (.iconst 1, 1) := by decide +kernel
theorem dX12_after_65 : decode cX12_after 65 = .ok (.iadd, 1) := by decide +kernel
theorem dX12_after_66 : decode cX12_after 66 = .ok (.iconst 3, 1) := by decide +kernel
theorem dX12_after_67 : decode cX12_after 67 = .ok (.iload 6, 2) := by decide +kernel
theorem dX12_after_69 : decode cX12_after 69 = .ok (.imul, 1) := by decide +kernel
theorem dX12_after_70 : decode cX12_after 70 = .ok (.iadd, 1) := by decide +kernel
theorem dX12_after_71 : decode cX12_after 71 = .ok (.iaload, 1) := by decide +kernel
theorem dX12_after_72 : decode cX12_after 72 = .ok (.aload_n 0, 1) := by decide +kernel
theorem dX12_after_73 : decode cX12_after 73 = .ok (.getfield 7, 3) := by decide +kernel
theorem dX12_after_76 : decode cX12_after 76 = .ok (.aload_n 0, 1) := by decide +kernel
theorem dX12_after_77 : decode cX12_after 77 = .ok (.getfield 217, 3) := by decide +kernel
theorem dX12_after_80 : decode cX12_after 80 = .ok (.iconst 2, 1) := by decide +kernel
theorem dX12_after_81 : decode cX12_after 81 = .ok (.iadd, 1) := by decide +kernel
theorem dX12_after_82 : decode cX12_after 82 = .ok (.iconst 3, 1) := by decide +kernel
theorem dX12_after_83 : decode cX12_after 83 = .ok (.iload 6, 2) := by decide +kernel
theorem dX12_after_85 : decode cX12_after 85 = .ok (.imul, 1) := by decide +kernel
theorem dX12_after_86 : decode cX12_after 86 = .ok (.iadd, 1) := by decide +kernel
theorem dX12_after_87 : decode cX12_after 87 = .ok (.iaload, 1) := by decide +kernel
theorem dX12_after_88 : decode cX12_after 88 = .ok (.aload_n 0, 1) := by decide +kernel
theorem dX12_after_89 : decode cX12_after 89 = .ok (.getfield 7, 3) := by decide +kernel
theorem dX12_after_92 : decode cX12_after 92 = .ok (.aload_n 0, 1) := by decide +kernel
theorem dX12_after_93 : decode cX12_after 93 = .ok (.getfield 217, 3) := by decide +kernel
theorem dX12_after_96 : decode cX12_after 96 = .ok (.iconst 3, 1) := by decide +kernel
theorem dX12_after_97 : decode cX12_after 97 = .ok (.iadd, 1) := by decide +kernel
theorem dX12_after_98 : decode cX12_after 98 = .ok (.iconst 3, 1) := by decide +kernel
theorem dX12_after_99 : decode cX12_after 99 = .ok (.iload 6, 2) := by decide +kernel
theorem dX12_after_101 : decode cX12_after 101 = .ok (.imul, 1) := by decide +kernel
theorem dX12_after_102 : decode cX12_after 102 = .ok (.iadd, 1) := by decide +kernel
theorem dX12_after_103 : decode cX12_after 103 = .ok (.iaload, 1) := by decide +kernel
theorem dX12_after_104 : decode cX12_after 104 = .ok (.invokevirtual 254, 3) := by decide +kernel
theorem dX12_after_107 : decode cX12_after 107 = .ok (.ifCond .eq 83, 3) := by decide +kernel
theorem dX12_after_110 : decode cX12_after 110 = .ok (.iload 4, 2) := by decide +kernel
theorem dX12_after_112 : decode cX12_after 112 = .ok (.iconst (-1), 1) := by decide +kernel
theorem dX12_after_113 : decode cX12_after 113 = .ok (.if_icmp .ne 27, 3) := by decide +kernel
theorem dX12_after_116 : decode cX12_after 116 = .ok (.aload_n 0, 1) := by decide +kernel
theorem dX12_after_117 : decode cX12_after 117 = .ok (.getfield 7, 3) := by decide +kernel
theorem dX12_after_120 : decode cX12_after 120 = .ok (.aload_n 0, 1) := by decide +kernel
theorem dX12_after_121 : decode cX12_after 121 = .ok (.getfield 217, 3) := by decide +kernel
theorem dX12_after_124 : decode cX12_after 124 = .ok (.iconst 1, 1) := by decide +kernel
theorem dX12_after_125 : decode cX12_after 125 = .ok (.iadd, 1) := by decide +kernel
theorem dX12_after_126 : decode cX12_after 126 = .ok (.iconst 3, 1) := by decide +kernel
theorem dX12_after_127 : decode cX12_after 127 = .ok (.iload 6, 2) := by decide +kernel
theorem dX12_after_129 : decode cX12_after 129 = .ok (.imul, 1) := by decide +kernel
theorem dX12_after_130 : decode cX12_after 130 = .ok (.iadd, 1) := by decide +kernel
theorem dX12_after_131 : decode cX12_after 131 = .ok (.iaload, 1) := by decide +kernel
theorem dX12_after_132 : decode cX12_after 132 = .ok (.iconst 2, 1) := by decide +kernel
theorem dX12_after_133 : decode cX12_after 133 = .ok (.if_icmp .ne 7, 3) := by decide +kernel
theorem dX12_after_136 : decode cX12_after 136 = .ok (.iload 6, 2) := by decide +kernel
theorem dX12_after_138 : decode cX12_after 138 = .ok (.istore 4, 2) := by decide +kernel
theorem dX12_after_140 : decode cX12_after 140 = .ok (.iconst 0, 1) := by decide +kernel
theorem dX12_after_141 : decode cX12_after 141 = .ok (.istore 7, 2) := by decide +kernel
theorem dX12_after_143 : decode cX12_after 143 = .ok (.iload 7, 2) := by decide +kernel
theorem dX12_after_145 : decode cX12_after 145 = .ok (.aload_n 0, 1) := by decide +kernel
theorem dX12_after_146 : decode cX12_after 146 = .ok (.getfield 187, 3) := by decide +kernel
theorem dX12_after_149 : decode cX12_after 149 = .ok (.if_icmp .ge 35, 3) := by decide +kernel
theorem dX12_after_152 : decode cX12_after 152 = .ok (.aload_n 0, 1) := by decide +kernel
theorem dX12_after_153 : decode cX12_after 153 = .ok (.getfield 32, 3) := by decide +kernel
theorem dX12_after_156 : decode cX12_after 156 = .ok (.iload 7, 2) := by decide +kernel
theorem dX12_after_158 : decode cX12_after 158 = .ok (.iaload, 1) := by decide +kernel
theorem dX12_after_159 : decode cX12_after 159 = .ok (.iload 5, 2) := by decide +kernel
theorem dX12_after_161 : decode cX12_after 161 = .ok (.if_icmp .le 13, 3) := by decide +kernel
theorem dX12_after_164 : decode cX12_after 164 = .ok (.aload_n 0, 1) := by decide +kernel
theorem dX12_after_165 : decode cX12_after 165 = .ok (.getfield 32, 3) := by decide +kernel
theorem dX12_after_168 : decode cX12_after 168 = .ok (.iload 7, 2) := by decide +kernel
theorem dX12_after_170 : decode cX12_after 170 = .ok (.iaload, 1) := by decide +kernel
theorem dX12_after_171 : decode cX12_after 171 = .ok (.goto 5, 3) := by decide +kernel
theorem dX12_after_174 : decode cX12_after 174 = .ok (.iload 5, 2) := by decide +kernel
theorem dX12_after_176 : decode cX12_after 176 = .ok (.istore 5, 2) := by decide +kernel
theorem dX12_after_178 : decode cX12_after 178 = .ok (.iinc 7 1, 3) := by decide +kernel
theorem dX12_after_181 : decode cX12_after 181 = .ok (.goto (-38), 3) := by decide +kernel
theorem dX12_after_184 : decode cX12_after 184 = .ok (.iinc 6 1, 3) := by decide +kernel
theorem dX12_after_187 : decode cX12_after 187 = .ok (.goto (-146), 3) := by decide +kernel
theorem dX12_after_190 : decode cX12_after 190 = .ok (.iconst 0, 1) := by decide +kernel
theorem dX12_after_191 : decode cX12_after 191 = .ok (.istore 6, 2) := by decide +kernel
theorem dX12_after_193 : decode cX12_after 193 = .ok (.iconst 0, 1) := by decide +kernel
theorem dX12_after_194 : decode cX12_after 194 = .ok (.istore 7, 2) := by decide +kernel
theorem dX12_after_196 : decode cX12_after 196 = .ok (.iconst 0, 1) := by decide +kernel
theorem dX12_after_197 : decode cX12_after 197 = .ok (.istore 8, 2) := by decide +kernel
theorem dX12_after_199 : decode cX12_after 199 = .ok (.iload 8, 2) := by decide +kernel
theorem dX12_after_201 : decode cX12_after 201 = .ok (.aload_n 0, 1) := by decide +kernel
theorem dX12_after_202 : decode cX12_after 202 = .ok (.getfield 187, 3) := by decide +kernel
theorem dX12_after_205 : decode cX12_after 205 = .ok (.if_icmp .ge 57, 3) := by decide +kernel
theorem dX12_after_208 : decode cX12_after 208 = .ok (.aload_n 0, 1) := by decide +kernel
theorem dX12_after_209 : decode cX12_after 209 = .ok (.getfield 38, 3) := by decide +kernel
theorem dX12_after_212 : decode cX12_after 212 = .ok (.iload 8, 2) := by decide +kernel
theorem dX12_after_214 : decode cX12_after 214 = .ok (.iaload, 1) := by decide +kernel
theorem dX12_after_215 : decode cX12_after 215 = .ok (.aload_n 0, 1) := by decide +kernel
theorem dX12_after_216 : decode cX12_after 216 = .ok (.getfield 38, 3) := by decide +kernel
theorem dX12_after_219 : decode cX12_after 219 = .ok (.iload 6, 2) := by decide +kernel
theorem dX12_after_221 : decode cX12_after 221 = .ok (.iaload, 1) := by decide +kernel
theorem dX12_after_222 : decode cX12_after 222 = .ok (.if_icmp .le 8, 3) := by decide +kernel
theorem dX12_after_225 : decode cX12_after 225 = .ok (.iload 8, 2) := by decide +kernel
theorem dX12_after_227 : decode cX12_after 227 = .ok (.goto 5, 3) := by decide +kernel
theorem dX12_after_230 : decode cX12_after 230 = .ok (.iload 6, 2) := by decide +kernel
theorem dX12_after_232 : decode cX12_after 232 = .ok (.istore 6, 2) := by decide +kernel
theorem dX12_after_234 : decode cX12_after 234 = .ok (.iload 7, 2) := by decide +kernel
theorem dX12_after_236 : decode cX12_after 236 = .ok (.aload_n 0, 1) := by decide +kernel
theorem dX12_after_237 : decode cX12_after 237 = .ok (.iload 8, 2) := by decide +kernel
theorem dX12_after_239 : decode cX12_after 239 = .ok (.invokevirtual 260, 3) := by decide +kernel
theorem dX12_after_242 : decode cX12_after 242 = .ok (.ifCond .le 10, 3) := by decide +kernel
theorem dX12_after_245 : decode cX12_after 245 = .ok (.iconst 1, 1) := by decide +kernel
theorem dX12_after_246 : decode cX12_after 246 = .ok (.iload 8, 2) := by decide +kernel
theorem dX12_after_248 : decode cX12_after 248 = .ok (.ishl, 1) := by decide +kernel
theorem dX12_after_249 : decode cX12_after 249 = .ok (.goto 4, 3) := by decide +kernel
theorem dX12_after_252 : decode cX12_after 252 = .ok (.iconst 0, 1) := by decide +kernel
theorem dX12_after_253 : decode cX12_after 253 = .ok (.ior, 1) := by decide +kernel
theorem dX12_after_254 : decode cX12_after 254 = .ok (.istore 7, 2) := by decide +kernel
theorem dX12_after_256 : decode cX12_after 256 = .ok (.iinc 8 1, 3) := by decide +kernel
theorem dX12_after_259 : decode cX12_after 259 = .ok (.goto (-60), 3) := by decide +kernel
theorem dX12_after_262 : decode cX12_after 262 = .ok (.iload_n 3, 1) := by decide +kernel
theorem dX12_after_263 : decode cX12_after 263 = .ok (.tableswitch 48 0 2 #[25, 42, 45], 25) := by decide +kernel
theorem dX12_after_288 : decode cX12_after 288 = .ok (.aload_n 0, 1) := by decide +kernel
theorem dX12_after_289 : decode cX12_after 289 = .ok (.getfield 38, 3) := by decide +kernel
theorem dX12_after_292 : decode cX12_after 292 = .ok (.iload 6, 2) := by decide +kernel
theorem dX12_after_294 : decode cX12_after 294 = .ok (.iaload, 1) := by decide +kernel
theorem dX12_after_295 : decode cX12_after 295 = .ok (.ifCond .ne 7, 3) := by decide +kernel
theorem dX12_after_298 : decode cX12_after 298 = .ok (.iconst (-1), 1) := by decide +kernel
theorem dX12_after_299 : decode cX12_after 299 = .ok (.goto 5, 3) := by decide +kernel
theorem dX12_after_302 : decode cX12_after 302 = .ok (.iload 6, 2) := by decide +kernel
theorem dX12_after_304 : decode cX12_after 304 = .ok (.ireturn, 1) := by decide +kernel
theorem dX12_after_305 : decode cX12_after 305 = .ok (.iload 4, 2) := by decide +kernel
theorem dX12_after_307 : decode cX12_after 307 = .ok (.ireturn, 1) := by decide +kernel
theorem dX12_after_308 : decode cX12_after 308 = .ok (.iload 5, 2) := by decide +kernel
theorem dX12_after_310 : decode cX12_after 310 = .ok (.ireturn, 1) := by decide +kernel
theorem dX12_after_311 : decode cX12_after 311 = .ok (.iload 7, 2) := by decide +kernel
theorem dX12_after_313 : decode cX12_after 313 = .ok (.ireturn, 1) := by decide +kernel
set_option maxRecDepth 10000 in
theorem wX12_after_0 {g : zG} {I : Nat → Nat → Int32} {P : Nat → Nat → Option Nat} {r : Option Value} {h' : zH} {a0 : Nat} {x1 : Int32} {x2 : Int32} {x3 : Int32} (H : zk g a0 12 ∧ ∃ (w1 : Int32) (I2 : Nat → Nat → Int32), Cl mX12_isHill [.ref a0, .int x1] (g, I, P) (some (.int w1)) (g, I2, P) ∧ ((w1 = 0) → r = some (.int (-2)) ∧ h' = (g, I2, P)) ∧ ((¬ w1 = 0) → zk g a0 12 ∧ ∃ (w7 : Int32) (I8 : Nat → Nat → Int32), Cl mX12_isCentury [.ref a0, .int x2] (g, I2, P) (some (.int w7)) (g, I8, P) ∧ ((w7 = 0) → r = some (.int (-2)) ∧ h' = (g, I8, P)) ∧ ((¬ w7 = 0) → ∃ (w13 : Int32), Cl mX12_isIn [.int x3, .int 0, .int 3] (g, I8, P) (some (.int w13)) (g, I8, P) ∧ ((¬ w13 = 0) → zk g a0 12 ∧ ∃ (I17 : Nat → Nat → Int32), Cl mX12_begins [.ref a0] (g, I8, P) none (g, I17, P) ∧ Zt none mX12_after 0 0 41 [(0, .ref a0), (3, .int x3), (4, .int (-1)), (5, .int 0), (6, .int 0)] [] (g, I17, P) r h') ∧ ((w13 = 0) → r = some (.int (-2)) ∧ h' = (g, I8, P))))) : Zt none mX12_after 0 0 0 [(0, .ref a0), (1, .int x1), (2, .int x2), (3, .int x3)] [] (g, I, P) r h' := by
  refine z_aload_n 0 dX12_after_0 rfl rfl (z_iload_n 1 dX12_after_1 rfl ?_)
  obtain ⟨oc3, w1, I2, c3, H4⟩ := H
  refine z_virt (As := [.int x1]) (st := []) (r1 := (some (.int w1))) (h1 := (g, I2, P)) dX12_after_2 kX12_isHill wm_X12_196 ⟨by decide, by decide⟩ rfl rfl (Nat.le_of_ble_eq_true rfl) (by decide) (by decide) oc3 c3 ?_
  refine z_if_eq (t := 25) dX12_after_5 (by decide) (fun q => ?_) (fun q => ?_)
  · have H5 := H4.1 q
    refine z_bipush (w := (-2)) dX12_after_25 (by decide) ?_
    obtain ⟨rfl, rfl⟩ := H5
    exact z_iret dX12_after_27 rfl (by decide) (by decide)
  · have H6 := H4.2 q
    refine z_aload_n 0 dX12_after_8 rfl rfl (z_iload_n 2 dX12_after_9 rfl ?_)
    obtain ⟨oc9, w7, I8, c9, H10⟩ := H6
    refine z_virt (As := [.int x2]) (st := []) (r1 := (some (.int w7))) (h1 := (g, I8, P)) dX12_after_10 kX12_isCentury wm_X12_220 ⟨by decide, by decide⟩ rfl rfl (Nat.le_of_ble_eq_true rfl) (by decide) (by decide) oc9 c9 ?_
    refine z_if_eq (t := 25) dX12_after_13 (by decide) (fun q => ?_) (fun q => ?_)
    · have H11 := H10.1 q
      refine z_bipush (w := (-2)) dX12_after_25 (by decide) ?_
      obtain ⟨rfl, rfl⟩ := H11
      exact z_iret dX12_after_27 rfl (by decide) (by decide)
    · have H12 := H10.2 q
      refine z_iload_n 3 dX12_after_16 rfl (z_iconst (w := 0) dX12_after_17 (by decide) (z_iconst (w := 3) dX12_after_18 (by decide) ?_))
      obtain ⟨w13, c14, H15⟩ := H12
      refine z_stat (As := [.int x3, .int 0, .int 3]) (st := []) (r1 := (some (.int w13))) (h1 := (g, I8, P)) dX12_after_19 kX12_isIn wm_X12_120 ⟨by decide, by decide⟩ rfl rfl (Nat.le_of_ble_eq_true rfl) (by decide) (by decide) c14 ?_
      refine z_if_ne (t := 28) dX12_after_22 (by decide) (fun q => ?_) (fun q => ?_)
      · have H16 := H15.1 q
        refine z_aload_n 0 dX12_after_28 rfl rfl ?_
        obtain ⟨oc18, I17, c18, H19⟩ := H16
        refine z_virt (As := []) (st := []) (r1 := none) (h1 := (g, I17, P)) dX12_after_29 kX12_begins wm_X12_251 ⟨by decide, by decide⟩ rfl rfl (Nat.le_of_ble_eq_true rfl) (by decide) (by decide) oc18 c18 ?_
        refine z_iconst (w := (-1)) dX12_after_32 (by decide) (z_istore (lv' := [(4, .int (-1)), (0, .ref a0), (1, .int x1), (2, .int x2), (3, .int x3)]) dX12_after_33 (by decide) rfl (z_iconst (w := 0) dX12_after_35 (by decide) (z_istore (lv' := [(5, .int 0), (4, .int (-1)), (0, .ref a0), (1, .int x1), (2, .int x2), (3, .int x3)]) dX12_after_36 (by decide) rfl (z_iconst (w := 0) dX12_after_38 (by decide) (z_istore (lv' := [(6, .int 0), (5, .int 0), (4, .int (-1)), (0, .ref a0), (1, .int x1), (2, .int x2), (3, .int x3)]) dX12_after_39 (by decide) rfl ?_)))))
        exact z_less [3, 6, 2, 1, 0] rfl H19
      · have H20 := H15.2 q
        refine z_bipush (w := (-2)) dX12_after_25 (by decide) ?_
        obtain ⟨rfl, rfl⟩ := H20
        exact z_iret dX12_after_27 rfl (by decide) (by decide)
theorem eX12_after {g : zG} {I : Nat → Nat → Int32} {P : Nat → Nat → Option Nat} {r : Option Value} {h' : zH} {a0 : Nat} {x1 : Int32} {x2 : Int32} {x3 : Int32} (H : Zt none mX12_after 0 0 0 [(0, .ref a0), (1, .int x1), (2, .int x2), (3, .int x3)] [] (g, I, P) r h') : Cl mX12_after [.ref a0, .int x1, .int x2, .int x3] (g, I, P) r h' := Cl.of (by decide) (Nat.le_of_ble_eq_true rfl) H
set_option maxRecDepth 10000 in
theorem wX12_after_41 {g : zG} {I : Nat → Nat → Int32} {P : Nat → Nat → Option Nat} {r : Option Value} {h' : zH} {a0 : Nat} {x3 : Int32} {x4 : Int32} {x5 : Int32} {x6 : Int32} (H : zk g a0 12 ∧ ∃ b1, P a0 0 = some b1 ∧ zk g a0 12 ∧ zk g b1 13 ∧ vp_in (I a0 16) (g.2.2 b1) ∧ ((I b1 (I a0 16).toNatClampNeg ≤ x6) → Zt none mX12_after 0 0 199 [(0, .ref a0), (3, .int x3), (4, .int x4), (5, .int x5), (6, .int 0), (7, .int 0), (8, .int 0)] [] (g, I, P) r h') ∧ ((¬ I b1 (I a0 16).toNatClampNeg ≤ x6) → zk g a0 12 ∧ ∃ b6, P a0 0 = some b6 ∧ zk g a0 12 ∧ zk g b6 13 ∧ vp_in (((I a0 16) + 1) + (3 * x6)) (g.2.2 b6) ∧ zk g a0 12 ∧ ∃ b9, P a0 0 = some b9 ∧ zk g a0 12 ∧ zk g b9 13 ∧ vp_in (((I a0 16) + 2) + (3 * x6)) (g.2.2 b9) ∧ zk g a0 12 ∧ ∃ b12, P a0 0 = some b12 ∧ zk g a0 12 ∧ zk g b12 13 ∧ vp_in (((I a0 16) + 3) + (3 * x6)) (g.2.2 b12) ∧ zk g a0 12 ∧ ∃ (w15 : Int32) (I16 : Nat → Nat → Int32), Cl mX12_does [.ref a0, .int (I b6 (((I a0 16) + 1) + (3 * x6)).toNatClampNeg), .int (I b9 (((I a0 16) + 2) + (3 * x6)).toNatClampNeg), .int (I b12 (((I a0 16) + 3) + (3 * x6)).toNatClampNeg)] (g, I, P) (some (.int w15)) (g, I16, P) ∧ ((w15 = 0) → Zt none mX12_after 0 0 199 [(0, .ref a0), (3, .int x3), (4, .int x4), (5, .int x5), (6, .int 0), (7, .int 0), (8, .int 0)] [] (g, I16, P) r h') ∧ ((¬ w15 = 0) → ((¬ x4 = (-1)) → Zt none mX12_after 0 0 143 [(0, .ref a0), (3, .int x3), (4, .int x4), (5, .int x5), (6, .int x6), (7, .int 0)] [] (g, I16, P) r h') ∧ ((x4 = (-1)) → zk g a0 12 ∧ ∃ b23, P a0 0 = some b23 ∧ zk g a0 12 ∧ zk g b23 13 ∧ vp_in (((I16 a0 16) + 1) + (3 * x6)) (g.2.2 b23) ∧ ((¬ (I16 b23 (((I16 a0 16) + 1) + (3 * x6)).toNatClampNeg) = 2) → Zt none mX12_after 0 0 143 [(0, .ref a0), (3, .int x3), (4, .int x4), (5, .int x5), (6, .int x6), (7, .int 0)] [] (g, I16, P) r h') ∧ ((I16 b23 (((I16 a0 16) + 1) + (3 * x6)).toNatClampNeg = 2) → Zt none mX12_after 0 0 143 [(0, .ref a0), (3, .int x3), (4, .int x6), (5, .int x5), (6, .int x6), (7, .int 0)] [] (g, I16, P) r h'))))) : Zt none mX12_after 0 0 41 [(0, .ref a0), (3, .int x3), (4, .int x4), (5, .int x5), (6, .int x6)] [] (g, I, P) r h' := by
  refine z_iload 4 dX12_after_41 rfl (z_aload_n 0 dX12_after_43 rfl rfl ?_)
  obtain ⟨oe3, b1, e3, H2⟩ := H
  refine z_getP dX12_after_44 wf_X12_7 (by decide) (by decide) rfl oe3 (fun q => (by cases q.symm.trans e3)) (fun j q => ?_)
  cases q.symm.trans e3
  refine z_aload_n 0 dX12_after_47 rfl rfl (z_getI dX12_after_48 wf_X12_217 (by decide) (by decide) rfl H2.1 (z_iald dX12_after_51 H2.2.1 H2.2.2.1 ?_))
  refine z_icmp_ge (t := 190) dX12_after_52 (by decide) (fun q => ?_) (fun q => ?_)
  · have H4 := H2.2.2.2.1 q
    refine z_iconst (w := 0) dX12_after_190 (by decide) (z_istore (lv' := [(6, .int 0), (0, .ref a0), (3, .int x3), (4, .int x4), (5, .int x5)]) dX12_after_191 (by decide) rfl (z_iconst (w := 0) dX12_after_193 (by decide) (z_istore (lv' := [(7, .int 0), (6, .int 0), (0, .ref a0), (3, .int x3), (4, .int x4), (5, .int x5)]) dX12_after_194 (by decide) rfl (z_iconst (w := 0) dX12_after_196 (by decide) (z_istore (lv' := [(8, .int 0), (7, .int 0), (6, .int 0), (0, .ref a0), (3, .int x3), (4, .int x4), (5, .int x5)]) dX12_after_197 (by decide) rfl ?_)))))
    exact z_less [3, 4, 5, 6, 2, 1, 0] rfl H4
  · have H5 := H2.2.2.2.2 q
    refine z_aload_n 0 dX12_after_55 rfl rfl (z_aload_n 0 dX12_after_56 rfl rfl ?_)
    obtain ⟨oe8, b6, e8, H7⟩ := H5
    refine z_getP dX12_after_57 wf_X12_7 (by decide) (by decide) rfl oe8 (fun q => (by cases q.symm.trans e8)) (fun j q => ?_)
    cases q.symm.trans e8
    refine z_aload_n 0 dX12_after_60 rfl rfl (z_getI dX12_after_61 wf_X12_217 (by decide) (by decide) rfl H7.1 (z_iconst (w := 1) dX12_after_64 (by decide) (z_iadd dX12_after_65 (z_iconst (w := 3) dX12_after_66 (by decide) (z_iload 4 dX12_after_67 rfl (z_imul dX12_after_69 (z_iadd dX12_after_70 (z_iald dX12_after_71 H7.2.1 H7.2.2.1 (z_aload_n 0 dX12_after_72 rfl rfl ?_)))))))))
    obtain ⟨oe11, b9, e11, H10⟩ := H7.2.2.2
    refine z_getP dX12_after_73 wf_X12_7 (by decide) (by decide) rfl oe11 (fun q => (by cases q.symm.trans e11)) (fun j q => ?_)
    cases q.symm.trans e11
    refine z_aload_n 0 dX12_after_76 rfl rfl (z_getI dX12_after_77 wf_X12_217 (by decide) (by decide) rfl H10.1 (z_iconst (w := 2) dX12_after_80 (by decide) (z_iadd dX12_after_81 (z_iconst (w := 3) dX12_after_82 (by decide) (z_iload 4 dX12_after_83 rfl (z_imul dX12_after_85 (z_iadd dX12_after_86 (z_iald dX12_after_87 H10.2.1 H10.2.2.1 (z_aload_n 0 dX12_after_88 rfl rfl ?_)))))))))
    obtain ⟨oe14, b12, e14, H13⟩ := H10.2.2.2
    refine z_getP dX12_after_89 wf_X12_7 (by decide) (by decide) rfl oe14 (fun q => (by cases q.symm.trans e14)) (fun j q => ?_)
    cases q.symm.trans e14
    refine z_aload_n 0 dX12_after_92 rfl rfl (z_getI dX12_after_93 wf_X12_217 (by decide) (by decide) rfl H13.1 (z_iconst (w := 3) dX12_after_96 (by decide) (z_iadd dX12_after_97 (z_iconst (w := 3) dX12_after_98 (by decide) (z_iload 4 dX12_after_99 rfl (z_imul dX12_after_101 (z_iadd dX12_after_102 (z_iald dX12_after_103 H13.2.1 H13.2.2.1 ?_))))))))
    obtain ⟨oc17, w15, I16, c17, H18⟩ := H13.2.2.2
    refine z_virt (As := [.int (I b6 (((I a0 16) + 1) + (3 * x6)).toNatClampNeg), .int (I b9 (((I a0 16) + 2) + (3 * x6)).toNatClampNeg), .int (I b12 (((I a0 16) + 3) + (3 * x6)).toNatClampNeg)]) (st := []) (r1 := (some (.int w15))) (h1 := (g, I16, P)) dX12_after_104 kX12_does wm_X12_254 ⟨by decide, by decide⟩ rfl rfl (Nat.le_of_ble_eq_true rfl) (by decide) (by decide) oc17 c17 ?_
    refine z_if_eq (t := 190) dX12_after_107 (by decide) (fun q => ?_) (fun q => ?_)
    · have H19 := H18.1 q
      refine z_iconst (w := 0) dX12_after_190 (by decide) (z_istore (lv' := [(6, .int 0), (0, .ref a0), (3, .int x3), (4, .int x4), (5, .int x5)]) dX12_after_191 (by decide) rfl (z_iconst (w := 0) dX12_after_193 (by decide) (z_istore (lv' := [(7, .int 0), (6, .int 0), (0, .ref a0), (3, .int x3), (4, .int x4), (5, .int x5)]) dX12_after_194 (by decide) rfl (z_iconst (w := 0) dX12_after_196 (by decide) (z_istore (lv' := [(8, .int 0), (7, .int 0), (6, .int 0), (0, .ref a0), (3, .int x3), (4, .int x4), (5, .int x5)]) dX12_after_197 (by decide) rfl ?_)))))
      exact z_less [3, 4, 5, 6, 2, 1, 0] rfl H19
    · have H20 := H18.2 q
      refine z_iload 2 dX12_after_110 rfl (z_iconst (w := (-1)) dX12_after_112 (by decide) ?_)
      refine z_icmp_ne (t := 140) dX12_after_113 (by decide) (fun q => ?_) (fun q => ?_)
      · have H21 := H20.1 q
        refine z_iconst (w := 0) dX12_after_140 (by decide) (z_istore (lv' := [(7, .int 0), (0, .ref a0), (3, .int x3), (4, .int x4), (5, .int x5), (6, .int x6)]) dX12_after_141 (by decide) rfl ?_)
        exact z_less [1, 2, 3, 4, 5, 0] rfl H21
      · have H22 := H20.2 q
        refine z_aload_n 0 dX12_after_116 rfl rfl ?_
        obtain ⟨oe25, b23, e25, H24⟩ := H22
        refine z_getP dX12_after_117 wf_X12_7 (by decide) (by decide) rfl oe25 (fun q => (by cases q.symm.trans e25)) (fun j q => ?_)
        cases q.symm.trans e25
        refine z_aload_n 0 dX12_after_120 rfl rfl (z_getI dX12_after_121 wf_X12_217 (by decide) (by decide) rfl H24.1 (z_iconst (w := 1) dX12_after_124 (by decide) (z_iadd dX12_after_125 (z_iconst (w := 3) dX12_after_126 (by decide) (z_iload 4 dX12_after_127 rfl (z_imul dX12_after_129 (z_iadd dX12_after_130 (z_iald dX12_after_131 H24.2.1 H24.2.2.1 (z_iconst (w := 2) dX12_after_132 (by decide) ?_)))))))))
        refine z_icmp_ne (t := 140) dX12_after_133 (by decide) (fun q => ?_) (fun q => ?_)
        · have H26 := H24.2.2.2.1 q
          refine z_iconst (w := 0) dX12_after_140 (by decide) (z_istore (lv' := [(7, .int 0), (0, .ref a0), (3, .int x3), (4, .int x4), (5, .int x5), (6, .int x6)]) dX12_after_141 (by decide) rfl ?_)
          exact z_less [1, 2, 3, 4, 5, 0] rfl H26
        · have H27 := H24.2.2.2.2 q
          refine z_iload 4 dX12_after_136 rfl (z_istore (lv' := [(4, .int x6), (0, .ref a0), (3, .int x3), (5, .int x5), (6, .int x6)]) dX12_after_138 (by decide) rfl (z_iconst (w := 0) dX12_after_140 (by decide) (z_istore (lv' := [(7, .int 0), (4, .int x6), (0, .ref a0), (3, .int x3), (5, .int x5), (6, .int x6)]) dX12_after_141 (by decide) rfl ?_)))
          exact z_less [2, 3, 1, 4, 5, 0] rfl H27
set_option maxRecDepth 10000 in
theorem wX12_after_143 {g : zG} {I : Nat → Nat → Int32} {P : Nat → Nat → Option Nat} {r : Option Value} {h' : zH} {a0 : Nat} {x3 : Int32} {x4 : Int32} {x5 : Int32} {x6 : Int32} {x7 : Int32} (H : zk g a0 12 ∧ ((I a0 14 ≤ x7) → Zt none mX12_after 0 0 41 [(0, .ref a0), (3, .int x3), (4, .int x4), (5, .int x5), (6, .int (x6 + 1))] [] (g, I, P) r h') ∧ ((¬ I a0 14 ≤ x7) → zk g a0 12 ∧ ∃ b3, P a0 21 = some b3 ∧ zk g b3 13 ∧ vp_in x7 (g.2.2 b3) ∧ ((I b3 x7.toNatClampNeg ≤ x5) → Zt none mX12_after 0 0 143 [(0, .ref a0), (3, .int x3), (4, .int x4), (5, .int x5), (6, .int x6), (7, .int (x7 + 1))] [] (g, I, P) r h') ∧ ((¬ I b3 x7.toNatClampNeg ≤ x5) → zk g a0 12 ∧ ∃ b8, P a0 21 = some b8 ∧ zk g b8 13 ∧ vp_in x7 (g.2.2 b8) ∧ Zt none mX12_after 0 0 143 [(0, .ref a0), (3, .int x3), (4, .int x4), (5, .int (I b8 x7.toNatClampNeg)), (6, .int x6), (7, .int (x7 + 1))] [] (g, I, P) r h'))) : Zt none mX12_after 0 0 143 [(0, .ref a0), (3, .int x3), (4, .int x4), (5, .int x5), (6, .int x6), (7, .int x7)] [] (g, I, P) r h' := by
  refine z_iload 5 dX12_after_143 rfl (z_aload_n 0 dX12_after_145 rfl rfl (z_getI dX12_after_146 wf_X12_187 (by decide) (by decide) rfl H.1 ?_))
  refine z_icmp_ge (t := 184) dX12_after_149 (by decide) (fun q => ?_) (fun q => ?_)
  · have H1 := H.2.1 q
    refine z_iinc (y := x6 + 1) (lv' := [(6, .int (x6 + 1)), (0, .ref a0), (3, .int x3), (4, .int x4), (5, .int x5), (7, .int x7)]) 4 dX12_after_184 rfl rfl (by decide) rfl (z_goto (t := 41) dX12_after_187 (by decide) ?_)
    exact z_less [1, 2, 3, 4, 0] rfl H1
  · have H2 := H.2.2 q
    refine z_aload_n 0 dX12_after_152 rfl rfl ?_
    obtain ⟨oe5, b3, e5, H4⟩ := H2
    refine z_getP dX12_after_153 wf_X12_32 (by decide) (by decide) rfl oe5 (fun q => (by cases q.symm.trans e5)) (fun j q => ?_)
    cases q.symm.trans e5
    refine z_iload 5 dX12_after_156 rfl (z_iald dX12_after_158 H4.1 H4.2.1 (z_iload 3 dX12_after_159 rfl ?_))
    refine z_icmp_le (t := 174) dX12_after_161 (by decide) (fun q => ?_) (fun q => ?_)
    · have H6 := H4.2.2.1 q
      refine z_iload 3 dX12_after_174 rfl (z_istore (lv' := [(5, .int x5), (0, .ref a0), (3, .int x3), (4, .int x4), (6, .int x6), (7, .int x7)]) dX12_after_176 (by decide) rfl (z_iinc (y := x7 + 1) (lv' := [(7, .int (x7 + 1)), (5, .int x5), (0, .ref a0), (3, .int x3), (4, .int x4), (6, .int x6)]) 5 dX12_after_178 rfl rfl (by decide) rfl (z_goto (t := 143) dX12_after_181 (by decide) ?_)))
      exact z_less [2, 3, 4, 1, 5, 0] rfl H6
    · have H7 := H4.2.2.2 q
      refine z_aload_n 0 dX12_after_164 rfl rfl ?_
      obtain ⟨oe10, b8, e10, H9⟩ := H7
      refine z_getP dX12_after_165 wf_X12_32 (by decide) (by decide) rfl oe10 (fun q => (by cases q.symm.trans e10)) (fun j q => ?_)
      cases q.symm.trans e10
      refine z_iload 5 dX12_after_168 rfl (z_iald dX12_after_170 H9.1 H9.2.1 (z_goto (t := 176) dX12_after_171 (by decide) (z_istore (lv' := [(5, .int (I b8 x7.toNatClampNeg)), (0, .ref a0), (3, .int x3), (4, .int x4), (6, .int x6), (7, .int x7)]) dX12_after_176 (by decide) rfl (z_iinc (y := x7 + 1) (lv' := [(7, .int (x7 + 1)), (5, .int (I b8 x7.toNatClampNeg)), (0, .ref a0), (3, .int x3), (4, .int x4), (6, .int x6)]) 5 dX12_after_178 rfl rfl (by decide) rfl (z_goto (t := 143) dX12_after_181 (by decide) ?_)))))
      exact z_less [2, 3, 4, 1, 5, 0] rfl H9.2.2
set_option maxRecDepth 10000 in
theorem wX12_after_199 {g : zG} {I : Nat → Nat → Int32} {P : Nat → Nat → Option Nat} {r : Option Value} {h' : zH} {a0 : Nat} {x3 : Int32} {x4 : Int32} {x5 : Int32} {x6 : Int32} {x7 : Int32} {x8 : Int32} (H : zk g a0 12 ∧ ((I a0 14 ≤ x8) → ((x3 = 0) → zk g a0 12 ∧ ∃ b4, P a0 23 = some b4 ∧ zk g b4 13 ∧ vp_in x6 (g.2.2 b4) ∧ ((¬ I b4 x6.toNatClampNeg = 0) → r = some (.int x6) ∧ h' = (g, I, P)) ∧ ((I b4 x6.toNatClampNeg = 0) → r = some (.int (-1)) ∧ h' = (g, I, P))) ∧ ((x3 = 1) → r = some (.int x4) ∧ h' = (g, I, P)) ∧ ((x3 = 2) → r = some (.int x5) ∧ h' = (g, I, P)) ∧ (¬ x3 = 0 → ¬ x3 = 1 → ¬ x3 = 2 → r = some (.int x7) ∧ h' = (g, I, P))) ∧ ((¬ I a0 14 ≤ x8) → zk g a0 12 ∧ ∃ b15, P a0 23 = some b15 ∧ zk g b15 13 ∧ vp_in x8 (g.2.2 b15) ∧ zk g a0 12 ∧ ∃ b18, P a0 23 = some b18 ∧ zk g b18 13 ∧ vp_in x6 (g.2.2 b18) ∧ ((I b15 x8.toNatClampNeg ≤ I b18 x6.toNatClampNeg) → Zt none mX12_after 0 0 232 [(0, .ref a0), (3, .int x3), (4, .int x4), (5, .int x5), (7, .int x7), (8, .int x8)] [.int x6] (g, I, P) r h') ∧ ((¬ I b15 x8.toNatClampNeg ≤ I b18 x6.toNatClampNeg) → Zt none mX12_after 0 0 232 [(0, .ref a0), (3, .int x3), (4, .int x4), (5, .int x5), (7, .int x7), (8, .int x8)] [.int x8] (g, I, P) r h'))) : Zt none mX12_after 0 0 199 [(0, .ref a0), (3, .int x3), (4, .int x4), (5, .int x5), (6, .int x6), (7, .int x7), (8, .int x8)] [] (g, I, P) r h' := by
  refine z_iload 6 dX12_after_199 rfl (z_aload_n 0 dX12_after_201 rfl rfl (z_getI dX12_after_202 wf_X12_187 (by decide) (by decide) rfl H.1 ?_))
  refine z_icmp_ge (t := 262) dX12_after_205 (by decide) (fun q => ?_) (fun q => ?_)
  · have H1 := H.2.1 q
    refine z_iload_n 1 dX12_after_262 rfl ?_
    by_cases q2 : x3 = 0
    · have H3 := H1.1 q2
      have eq2 : (x3 : Int32).toInt = 0 := by rw [q2]; decide
      refine z_tableIn (off := 25) (t := 288) dX12_after_263 (by rw [eq2]; decide) (by rw [eq2]; decide) (by rw [eq2]; rfl) (by decide) ?_
      refine z_aload_n 0 dX12_after_288 rfl rfl ?_
      obtain ⟨oe6, b4, e6, H5⟩ := H3
      refine z_getP dX12_after_289 wf_X12_38 (by decide) (by decide) rfl oe6 (fun q => (by cases q.symm.trans e6)) (fun j q => ?_)
      cases q.symm.trans e6
      refine z_iload 4 dX12_after_292 rfl (z_iald dX12_after_294 H5.1 H5.2.1 ?_)
      refine z_if_ne (t := 302) dX12_after_295 (by decide) (fun q => ?_) (fun q => ?_)
      · have H7 := H5.2.2.1 q
        refine z_iload 4 dX12_after_302 rfl ?_
        obtain ⟨rfl, rfl⟩ := H7
        exact z_iret dX12_after_304 rfl (by decide) (by decide)
      · have H8 := H5.2.2.2 q
        refine z_iconst (w := (-1)) dX12_after_298 (by decide) (z_goto (t := 304) dX12_after_299 (by decide) ?_)
        obtain ⟨rfl, rfl⟩ := H8
        exact z_iret dX12_after_304 rfl (by decide) (by decide)
    by_cases q9 : x3 = 1
    · have H10 := H1.2.1 q9
      have eq9 : (x3 : Int32).toInt = 1 := by rw [q9]; decide
      refine z_tableIn (off := 42) (t := 305) dX12_after_263 (by rw [eq9]; decide) (by rw [eq9]; decide) (by rw [eq9]; rfl) (by decide) ?_
      refine z_iload 2 dX12_after_305 rfl ?_
      obtain ⟨rfl, rfl⟩ := H10
      exact z_iret dX12_after_307 rfl (by decide) (by decide)
    by_cases q11 : x3 = 2
    · have H12 := H1.2.2.1 q11
      have eq11 : (x3 : Int32).toInt = 2 := by rw [q11]; decide
      refine z_tableIn (off := 45) (t := 308) dX12_after_263 (by rw [eq11]; decide) (by rw [eq11]; decide) (by rw [eq11]; rfl) (by decide) ?_
      refine z_iload 3 dX12_after_308 rfl ?_
      obtain ⟨rfl, rfl⟩ := H12
      exact z_iret dX12_after_310 rfl (by decide) (by decide)
    have H13 := H1.2.2.2 q2 q9 q11
    have nq2 := lv_neT q2 (show (0 : Int32).toInt = 0 by decide)
    have nq9 := lv_neT q9 (show (1 : Int32).toInt = 1 by decide)
    have nq11 := lv_neT q11 (show (2 : Int32).toInt = 2 by decide)
    refine z_tableOut (t := 311) dX12_after_263 (by omega) (by decide) ?_
    refine z_iload 5 dX12_after_311 rfl ?_
    obtain ⟨rfl, rfl⟩ := H13
    exact z_iret dX12_after_313 rfl (by decide) (by decide)
  · have H14 := H.2.2 q
    refine z_aload_n 0 dX12_after_208 rfl rfl ?_
    obtain ⟨oe17, b15, e17, H16⟩ := H14
    refine z_getP dX12_after_209 wf_X12_38 (by decide) (by decide) rfl oe17 (fun q => (by cases q.symm.trans e17)) (fun j q => ?_)
    cases q.symm.trans e17
    refine z_iload 6 dX12_after_212 rfl (z_iald dX12_after_214 H16.1 H16.2.1 (z_aload_n 0 dX12_after_215 rfl rfl ?_))
    obtain ⟨oe20, b18, e20, H19⟩ := H16.2.2
    refine z_getP dX12_after_216 wf_X12_38 (by decide) (by decide) rfl oe20 (fun q => (by cases q.symm.trans e20)) (fun j q => ?_)
    cases q.symm.trans e20
    refine z_iload 4 dX12_after_219 rfl (z_iald dX12_after_221 H19.1 H19.2.1 ?_)
    refine z_icmp_le (t := 230) dX12_after_222 (by decide) (fun q => ?_) (fun q => ?_)
    · have H21 := H19.2.2.1 q
      refine z_iload 4 dX12_after_230 rfl ?_
      exact z_less [0, 1, 2, 3, 5, 6] rfl H21
    · have H22 := H19.2.2.2 q
      refine z_iload 6 dX12_after_225 rfl (z_goto (t := 232) dX12_after_227 (by decide) ?_)
      exact z_less [0, 1, 2, 3, 5, 6] rfl H22
set_option maxRecDepth 10000 in
theorem wX12_after_232 {g : zG} {I : Nat → Nat → Int32} {P : Nat → Nat → Option Nat} {r : Option Value} {h' : zH} {a0 : Nat} {x3 : Int32} {x4 : Int32} {x5 : Int32} {x7 : Int32} {x8 : Int32} {xs0 : Int32} (H : zk g a0 12 ∧ ∃ (w1 : Int32), Cl mX12_feignedOn [.ref a0, .int x8] (g, I, P) (some (.int w1)) (g, I, P) ∧ ((w1 ≤ 0) → Zt none mX12_after 0 0 199 [(0, .ref a0), (3, .int x3), (4, .int x4), (5, .int x5), (6, .int xs0), (7, .int (x7 ||| 0)), (8, .int (x8 + 1))] [] (g, I, P) r h') ∧ ((¬ w1 ≤ 0) → ∀ y6 : Int32, y6 = x7 ||| ((1 : Int32) <<< (x8 &&& 31)) → Zt none mX12_after 0 0 199 [(0, .ref a0), (3, .int x3), (4, .int x4), (5, .int x5), (6, .int xs0), (7, .int y6), (8, .int (x8 + 1))] [] (g, I, P) r h')) : Zt none mX12_after 0 0 232 [(0, .ref a0), (3, .int x3), (4, .int x4), (5, .int x5), (7, .int x7), (8, .int x8)] [.int xs0] (g, I, P) r h' := by
  refine z_istore (lv' := [(6, .int xs0), (0, .ref a0), (3, .int x3), (4, .int x4), (5, .int x5), (7, .int x7), (8, .int x8)]) dX12_after_232 (by decide) rfl (z_iload 5 dX12_after_234 rfl (z_aload_n 1 dX12_after_236 rfl rfl (z_iload 6 dX12_after_237 rfl ?_)))
  obtain ⟨oc2, w1, c2, H3⟩ := H
  refine z_virt (As := [.int x8]) (st := [.int x7]) (r1 := (some (.int w1))) (h1 := (g, I, P)) dX12_after_239 kX12_feignedOn wm_X12_260 ⟨by decide, by decide⟩ rfl rfl (Nat.le_of_ble_eq_true rfl) (by decide) (by decide) oc2 c2 ?_
  refine z_if_le (t := 252) dX12_after_242 (by decide) (fun q => ?_) (fun q => ?_)
  · have H4 := H3.1 q
    refine z_iconst (w := 0) dX12_after_252 (by decide) (z_ior dX12_after_253 (z_istore (lv' := [(7, .int (x7 ||| 0)), (6, .int xs0), (0, .ref a0), (3, .int x3), (4, .int x4), (5, .int x5), (8, .int x8)]) dX12_after_254 (by decide) rfl (z_iinc (y := x8 + 1) (lv' := [(8, .int (x8 + 1)), (7, .int (x7 ||| 0)), (6, .int xs0), (0, .ref a0), (3, .int x3), (4, .int x4), (5, .int x5)]) 6 dX12_after_256 rfl rfl (by decide) rfl (z_goto (t := 199) dX12_after_259 (by decide) ?_))))
    exact z_less [3, 4, 5, 6, 2, 1, 0] rfl H4
  · have H5 := H3.2 q
    refine z_iconst (w := 1) dX12_after_245 (by decide) (z_iload 6 dX12_after_246 rfl (z_ishl dX12_after_248 (z_goto (t := 253) dX12_after_249 (by decide) (z_ior dX12_after_253 ?_))))
    refine z_nm (fun y6 e_y6 => ?_)
    have H7 := H5 y6 e_y6
    refine z_istore (lv' := [(7, .int y6), (6, .int xs0), (0, .ref a0), (3, .int x3), (4, .int x4), (5, .int x5), (8, .int x8)]) dX12_after_254 (by decide) rfl (z_iinc (y := x8 + 1) (lv' := [(8, .int (x8 + 1)), (7, .int y6), (6, .int xs0), (0, .ref a0), (3, .int x3), (4, .int x4), (5, .int x5)]) 6 dX12_after_256 rfl rfl (by decide) rfl (z_goto (t := 199) dX12_after_259 (by decide) ?_))
    exact z_less [3, 4, 5, 6, 2, 1, 0] rfl H7
theorem dX12_isLine_0 : decode cX12_isLine 0 = .ok (.aload_n 0, 1) := by decide +kernel
theorem dX12_isLine_1 : decode cX12_isLine 1 = .ok (.iconst 2, 1) := by decide +kernel
theorem dX12_isLine_2 : decode cX12_isLine 2 = .ok (.iload_n 1, 1) := by decide +kernel
theorem dX12_isLine_3 : decode cX12_isLine 3 = .ok (.invokevirtual 158, 3) := by decide +kernel
theorem dX12_isLine_6 : decode cX12_isLine 6 = .ok (.ifCond .eq 23, 3) := by decide +kernel
theorem dX12_isLine_9 : decode cX12_isLine 9 = .ok (.iload_n 2, 1) := by decide +kernel
theorem dX12_isLine_10 : decode cX12_isLine 10 = .ok (.iconst 0, 1) := by decide +kernel
theorem dX12_isLine_11 : decode cX12_isLine 11 = .ok (.aload_n 0, 1) := by decide +kernel
theorem dX12_isLine_12 : decode cX12_isLine 12 = .ok (.getfield 7, 3) := by decide +kernel
theorem dX12_isLine_15 : decode cX12_isLine 15 = .ok (.iconst 2, 1) := by decide +kernel
theorem dX12_isLine_16 : decode cX12_isLine 16 = .ok (.iload_n 1, 1) := by decide +kernel
theorem dX12_isLine_17 : decode cX12_isLine 17 = .ok (.invokestatic 181, 3) := by decide +kernel
theorem dX12_isLine_20 : decode cX12_isLine 20 = .ok (.iaload, 1) := by decide +kernel
theorem dX12_isLine_21 : decode cX12_isLine 21 = .ok (.iconst 1, 1) := by decide +kernel
theorem dX12_isLine_22 : decode cX12_isLine 22 = .ok (.isub, 1) := by decide +kernel
theorem dX12_isLine_23 : decode cX12_isLine 23 = .ok (.invokestatic 120, 3) := by decide +kernel
theorem dX12_isLine_26 : decode cX12_isLine 26 = .ok (.ifCond .ne 5, 3) := by decide +kernel
theorem dX12_isLine_29 : decode cX12_isLine 29 = .ok (.iconst 0, 1) := by decide +kernel
theorem dX12_isLine_30 : decode cX12_isLine 30 = .ok (.ireturn, 1) := by decide +kernel
theorem dX12_isLine_31 : decode cX12_isLine 31 = .ok (.aload_n 0, 1) := by decide +kernel
theorem dX12_isLine_32 : decode cX12_isLine 32 = .ok (.iconst 2, 1) := by decide +kernel
theorem dX12_isLine_33 : decode cX12_isLine 33 = .ok (.iload_n 1, 1) := by decide +kernel
theorem dX12_isLine_34 : decode cX12_isLine 34 = .ok (.invokestatic 181, 3) := by decide +kernel
theorem dX12_isLine_37 : decode cX12_isLine 37 = .ok (.iconst 1, 1) := by decide +kernel
theorem dX12_isLine_38 : decode cX12_isLine 38 = .ok (.iadd, 1) := by decide +kernel
theorem dX12_isLine_39 : decode cX12_isLine 39 = .ok (.bipush 13, 2) := by decide +kernel
theorem dX12_isLine_41 : decode cX12_isLine 41 = .ok (.iload_n 2, 1) := by decide +kernel
theorem dX12_isLine_42 : decode cX12_isLine 42 = .ok (.imul, 1) := by decide +kernel
theorem dX12_isLine_43 : decode cX12_isLine 43 = .ok (.iadd, 1) := by decide +kernel
theorem dX12_isLine_44 : decode cX12_isLine 44 = .ok (.putfield 266, 3) := by decide +kernel
theorem dX12_isLine_47 : decode cX12_isLine 47 = .ok (.aload_n 0, 1) := by decide +kernel
theorem dX12_isLine_48 : decode cX12_isLine 48 = .ok (.aload_n 0, 1) := by decide +kernel
theorem dX12_isLine_49 : decode cX12_isLine 49 = .ok (.getfield 7, 3) := by decide +kernel
theorem dX12_isLine_52 : decode cX12_isLine 52 = .ok (.aload_n 0, 1) := by decide +kernel
theorem dX12_isLine_53 : decode cX12_isLine 53 = .ok (.getfield 266, 3) := by decide +kernel
theorem dX12_isLine_56 : decode cX12_isLine 56 = .ok (.iaload, 1) := by decide +kernel
theorem dX12_isLine_57 : decode cX12_isLine 57 = .ok (.putfield 269, 3) := by decide +kernel
theorem dX12_isLine_60 : decode cX12_isLine 60 = .ok (.iconst 1, 1) := by decide +kernel
theorem dX12_isLine_61 : decode cX12_isLine 61 = .ok (.ireturn, 1) := by decide +kernel
set_option maxRecDepth 10000 in
theorem wX12_isLine_0 {g : zG} {I : Nat → Nat → Int32} {P : Nat → Nat → Option Nat} {r : Option Value} {h' : zH} {a0 : Nat} {x1 : Int32} {x2 : Int32} (H : zk g a0 12 ∧ ∃ (w1 : Int32), Cl mX12_isOf [.ref a0, .int 2, .int x1] (g, I, P) (some (.int w1)) (g, I, P) ∧ ((w1 = 0) → r = some (.int 0) ∧ h' = (g, I, P)) ∧ ((¬ w1 = 0) → zk g a0 12 ∧ ∃ b6, P a0 0 = some b6 ∧ ∃ (w9 : Int32), Cl mX12_placeOf [.int 2, .int x1] (g, I, P) (some (.int w9)) (g, I, P) ∧ zk g b6 13 ∧ vp_in w9 (g.2.2 b6) ∧ ∃ (w12 : Int32), Cl mX12_isIn [.int x2, .int 0, .int ((I b6 w9.toNatClampNeg) - 1)] (g, I, P) (some (.int w12)) (g, I, P) ∧ ((¬ w12 = 0) → ∃ (w16 : Int32), Cl mX12_placeOf [.int 2, .int x1] (g, I, P) (some (.int w16)) (g, I, P) ∧ zk g a0 12 ∧ zk g a0 12 ∧ ∃ b19, P a0 0 = some b19 ∧ zk g a0 12 ∧ zk g b19 13 ∧ vp_in ((zU I a0 26 ((w16 + 1) + (13 * x2))) a0 26) (g.2.2 b19) ∧ zk g a0 12 ∧ r = some (.int 1) ∧ h' = (g, zU (zU I a0 26 ((w16 + 1) + (13 * x2))) a0 27 ((zU I a0 26 ((w16 + 1) + (13 * x2))) b19 ((zU I a0 26 ((w16 + 1) + (13 * x2))) a0 26).toNatClampNeg), P)) ∧ ((w12 = 0) → r = some (.int 0) ∧ h' = (g, I, P)))) : Zt none mX12_isLine 0 0 0 [(0, .ref a0), (1, .int x1), (2, .int x2)] [] (g, I, P) r h' := by
  refine z_aload_n 0 dX12_isLine_0 rfl rfl (z_iconst (w := 2) dX12_isLine_1 (by decide) (z_iload_n 1 dX12_isLine_2 rfl ?_))
  obtain ⟨oc2, w1, c2, H3⟩ := H
  refine z_virt (As := [.int 2, .int x1]) (st := []) (r1 := (some (.int w1))) (h1 := (g, I, P)) dX12_isLine_3 kX12_isOf wm_X12_158 ⟨by decide, by decide⟩ rfl rfl (Nat.le_of_ble_eq_true rfl) (by decide) (by decide) oc2 c2 ?_
  refine z_if_eq (t := 29) dX12_isLine_6 (by decide) (fun q => ?_) (fun q => ?_)
  · have H4 := H3.1 q
    refine z_iconst (w := 0) dX12_isLine_29 (by decide) ?_
    obtain ⟨rfl, rfl⟩ := H4
    exact z_zret dX12_isLine_30 rfl (Or.inl rfl) (by decide) (by decide)
  · have H5 := H3.2 q
    refine z_iload_n 2 dX12_isLine_9 rfl (z_iconst (w := 0) dX12_isLine_10 (by decide) (z_aload_n 0 dX12_isLine_11 rfl rfl ?_))
    obtain ⟨oe8, b6, e8, H7⟩ := H5
    refine z_getP dX12_isLine_12 wf_X12_7 (by decide) (by decide) rfl oe8 (fun q => (by cases q.symm.trans e8)) (fun j q => ?_)
    cases q.symm.trans e8
    refine z_iconst (w := 2) dX12_isLine_15 (by decide) (z_iload_n 1 dX12_isLine_16 rfl ?_)
    obtain ⟨w9, c10, H11⟩ := H7
    refine z_stat (As := [.int 2, .int x1]) (st := [.ref b6, .int 0, .int x2]) (r1 := (some (.int w9))) (h1 := (g, I, P)) dX12_isLine_17 kX12_placeOf wm_X12_181 ⟨by decide, by decide⟩ rfl rfl (Nat.le_of_ble_eq_true rfl) (by decide) (by decide) c10 ?_
    refine z_iald dX12_isLine_20 H11.1 H11.2.1 (z_iconst (w := 1) dX12_isLine_21 (by decide) (z_isub dX12_isLine_22 ?_))
    obtain ⟨w12, c13, H14⟩ := H11.2.2
    refine z_stat (As := [.int x2, .int 0, .int ((I b6 w9.toNatClampNeg) - 1)]) (st := []) (r1 := (some (.int w12))) (h1 := (g, I, P)) dX12_isLine_23 kX12_isIn wm_X12_120 ⟨by decide, by decide⟩ rfl rfl (Nat.le_of_ble_eq_true rfl) (by decide) (by decide) c13 ?_
    refine z_if_ne (t := 31) dX12_isLine_26 (by decide) (fun q => ?_) (fun q => ?_)
    · have H15 := H14.1 q
      refine z_aload_n 0 dX12_isLine_31 rfl rfl (z_iconst (w := 2) dX12_isLine_32 (by decide) (z_iload_n 1 dX12_isLine_33 rfl ?_))
      obtain ⟨w16, c17, H18⟩ := H15
      refine z_stat (As := [.int 2, .int x1]) (st := [.ref a0]) (r1 := (some (.int w16))) (h1 := (g, I, P)) dX12_isLine_34 kX12_placeOf wm_X12_181 ⟨by decide, by decide⟩ rfl rfl (Nat.le_of_ble_eq_true rfl) (by decide) (by decide) c17 ?_
      refine z_iconst (w := 1) dX12_isLine_37 (by decide) (z_iadd dX12_isLine_38 (z_bipush (w := 13) dX12_isLine_39 (by decide) (z_iload_n 2 dX12_isLine_41 rfl (z_imul dX12_isLine_42 (z_iadd dX12_isLine_43 (z_putI (g := g) (I := I) (Q := P) dX12_isLine_44 wf_X12_266 (by decide) (by decide) rfl (Or.inl rfl) (zfit_int rfl) H18.1 (z_aload_n 0 dX12_isLine_47 rfl rfl (z_aload_n 0 dX12_isLine_48 rfl rfl ?_))))))))
      obtain ⟨oe21, b19, e21, H20⟩ := H18.2
      refine z_getP dX12_isLine_49 wf_X12_7 (by decide) (by decide) rfl oe21 (fun q => (by cases q.symm.trans e21)) (fun j q => ?_)
      cases q.symm.trans e21
      refine z_aload_n 0 dX12_isLine_52 rfl rfl (z_getI dX12_isLine_53 wf_X12_266 (by decide) (by decide) rfl H20.1 (z_iald dX12_isLine_56 H20.2.1 H20.2.2.1 (z_putI (g := g) (I := zU I a0 26 ((w16 + 1) + (13 * x2))) (Q := P) dX12_isLine_57 wf_X12_269 (by decide) (by decide) rfl (Or.inl rfl) (zfit_int rfl) H20.2.2.2.1 (z_iconst (w := 1) dX12_isLine_60 (by decide) ?_))))
      obtain ⟨rfl, rfl⟩ := H20.2.2.2.2
      exact z_zret dX12_isLine_61 rfl (Or.inr rfl) (by decide) (by decide)
    · have H22 := H14.2 q
      refine z_iconst (w := 0) dX12_isLine_29 (by decide) ?_
      obtain ⟨rfl, rfl⟩ := H22
      exact z_zret dX12_isLine_30 rfl (Or.inl rfl) (by decide) (by decide)
theorem eX12_isLine {g : zG} {I : Nat → Nat → Int32} {P : Nat → Nat → Option Nat} {r : Option Value} {h' : zH} {a0 : Nat} {x1 : Int32} {x2 : Int32} (H : Zt none mX12_isLine 0 0 0 [(0, .ref a0), (1, .int x1), (2, .int x2)] [] (g, I, P) r h') : Cl mX12_isLine [.ref a0, .int x1, .int x2] (g, I, P) r h' := Cl.of (by decide) (Nat.le_of_ble_eq_true rfl) H
theorem dX12_inLine_0 : decode cX12_inLine 0 = .ok (.aload_n 0, 1) := by decide +kernel
theorem dX12_inLine_1 : decode cX12_inLine 1 = .ok (.getfield 7, 3) := by decide +kernel
theorem dX12_inLine_4 : decode cX12_inLine 4 = .ok (.aload_n 0, 1) := by decide +kernel
theorem dX12_inLine_5 : decode cX12_inLine 5 = .ok (.getfield 266, 3) := by decide +kernel
theorem dX12_inLine_8 : decode cX12_inLine 8 = .ok (.iconst 1, 1) := by decide +kernel
theorem dX12_inLine_9 : decode cX12_inLine 9 = .ok (.iadd, 1) := by decide +kernel
theorem dX12_inLine_10 : decode cX12_inLine 10 = .ok (.iload_n 1, 1) := by decide +kernel
theorem dX12_inLine_11 : decode cX12_inLine 11 = .ok (.iadd, 1) := by decide +kernel
theorem dX12_inLine_12 : decode cX12_inLine 12 = .ok (.iaload, 1) := by decide +kernel
theorem dX12_inLine_13 : decode cX12_inLine 13 = .ok (.ireturn, 1) := by decide +kernel
set_option maxRecDepth 10000 in
theorem wX12_inLine_0 {g : zG} {I : Nat → Nat → Int32} {P : Nat → Nat → Option Nat} {r : Option Value} {h' : zH} {a0 : Nat} {x1 : Int32} (H : zk g a0 12 ∧ ∃ b1, P a0 0 = some b1 ∧ zk g a0 12 ∧ zk g b1 13 ∧ vp_in (((I a0 26) + 1) + x1) (g.2.2 b1) ∧ r = some (.int (I b1 (((I a0 26) + 1) + x1).toNatClampNeg)) ∧ h' = (g, I, P)) : Zt none mX12_inLine 0 0 0 [(0, .ref a0), (1, .int x1)] [] (g, I, P) r h' := by
  refine z_aload_n 0 dX12_inLine_0 rfl rfl ?_
  obtain ⟨oe3, b1, e3, H2⟩ := H
  refine z_getP dX12_inLine_1 wf_X12_7 (by decide) (by decide) rfl oe3 (fun q => (by cases q.symm.trans e3)) (fun j q => ?_)
  cases q.symm.trans e3
  refine z_aload_n 0 dX12_inLine_4 rfl rfl (z_getI dX12_inLine_5 wf_X12_266 (by decide) (by decide) rfl H2.1 (z_iconst (w := 1) dX12_inLine_8 (by decide) (z_iadd dX12_inLine_9 (z_iload_n 1 dX12_inLine_10 rfl (z_iadd dX12_inLine_11 (z_iald dX12_inLine_12 H2.2.1 H2.2.2.1 ?_))))))
  obtain ⟨rfl, rfl⟩ := H2.2.2.2
  exact z_iret dX12_inLine_13 rfl (by decide) (by decide)
theorem eX12_inLine {g : zG} {I : Nat → Nat → Int32} {P : Nat → Nat → Option Nat} {r : Option Value} {h' : zH} {a0 : Nat} {x1 : Int32} (H : Zt none mX12_inLine 0 0 0 [(0, .ref a0), (1, .int x1)] [] (g, I, P) r h') : Cl mX12_inLine [.ref a0, .int x1] (g, I, P) r h' := Cl.of (by decide) (Nat.le_of_ble_eq_true rfl) H
theorem dX12_line_0 : decode cX12_line 0 = .ok (.aload_n 0, 1) := by decide +kernel
theorem dX12_line_1 : decode cX12_line 1 = .ok (.iconst 2, 1) := by decide +kernel
theorem dX12_line_2 : decode cX12_line 2 = .ok (.iload_n 1, 1) := by decide +kernel
theorem dX12_line_3 : decode cX12_line 3 = .ok (.invokevirtual 158, 3) := by decide +kernel
theorem dX12_line_6 : decode cX12_line 6 = .ok (.ifCond .ne 6, 3) := by decide +kernel
theorem dX12_line_9 : decode cX12_line 9 = .ok (.bipush (-2), 2) := by decide +kernel
theorem dX12_line_11 : decode cX12_line 11 = .ok (.ireturn, 1) := by decide +kernel
theorem dX12_line_12 : decode cX12_line 12 = .ok (.iload_n 2, 1) := by decide +kernel
theorem dX12_line_13 : decode cX12_line 13 = .ok (.iconst (-1), 1) := by decide +kernel
theorem dX12_line_14 : decode cX12_line 14 = .ok (.if_icmp .ne 23, 3) := by decide +kernel
theorem dX12_line_17 : decode cX12_line 17 = .ok (.iload_n 3, 1) := by decide +kernel
theorem dX12_line_18 : decode cX12_line 18 = .ok (.ifCond .ne 16, 3) := by decide +kernel
theorem dX12_line_21 : decode cX12_line 21 = .ok (.aload_n 0, 1) := by decide +kernel
theorem dX12_line_22 : decode cX12_line 22 = .ok (.getfield 7, 3) := by decide +kernel
theorem dX12_line_25 : decode cX12_line 25 = .ok (.iconst 2, 1) := by decide +kernel
theorem dX12_line_26 : decode cX12_line 26 = .ok (.iload_n 1, 1) := by decide +kernel
theorem dX12_line_27 : decode cX12_line 27 = .ok (.invokestatic 181, 3) := by decide +kernel
theorem dX12_line_30 : decode cX12_line 30 = .ok (.iaload, 1) := by decide +kernel
theorem dX12_line_31 : decode cX12_line 31 = .ok (.goto 5, 3) := by decide +kernel
theorem dX12_line_34 : decode cX12_line 34 = .ok (.bipush (-2), 2) := by decide +kernel
theorem dX12_line_36 : decode cX12_line 36 = .ok (.ireturn, 1) := by decide +kernel
theorem dX12_line_37 : decode cX12_line 37 = .ok (.aload_n 0, 1) := by decide +kernel
theorem dX12_line_38 : decode cX12_line 38 = .ok (.iload_n 1, 1) := by decide +kernel
theorem dX12_line_39 : decode cX12_line 39 = .ok (.iload_n 2, 1) := by decide +kernel
theorem dX12_line_40 : decode cX12_line 40 = .ok (.invokevirtual 272, 3) := by decide +kernel
theorem dX12_line_43 : decode cX12_line 43 = .ok (.ifCond .ne 6, 3) := by decide +kernel
theorem dX12_line_46 : decode cX12_line 46 = .ok (.bipush (-2), 2) := by decide +kernel
theorem dX12_line_48 : decode cX12_line 48 = .ok (.ireturn, 1) := by decide +kernel
theorem dX12_line_49 : decode cX12_line 49 = .ok (.iload_n 3, 1) := by decide +kernel
theorem dX12_line_50 : decode cX12_line 50 = .ok (.iconst (-1), 1) := by decide +kernel
theorem dX12_line_51 : decode cX12_line 51 = .ok (.if_icmp .ne 10, 3) := by decide +kernel
theorem dX12_line_54 : decode cX12_line 54 = .ok (.aload_n 0, 1) := by decide +kernel
theorem dX12_line_55 : decode cX12_line 55 = .ok (.getfield 269, 3) := by decide +kernel
theorem dX12_line_58 : decode cX12_line 58 = .ok (.goto 27, 3) := by decide +kernel
theorem dX12_line_61 : decode cX12_line 61 = .ok (.iload_n 3, 1) := by decide +kernel
theorem dX12_line_62 : decode cX12_line 62 = .ok (.iconst 0, 1) := by decide +kernel
theorem dX12_line_63 : decode cX12_line 63 = .ok (.aload_n 0, 1) := by decide +kernel
theorem dX12_line_64 : decode cX12_line 64 = .ok (.getfield 269, 3) := by decide +kernel
theorem dX12_line_67 : decode cX12_line 67 = .ok (.iconst 1, 1) := by decide +kernel
theorem dX12_line_68 : decode cX12_line 68 = .ok (.isub, 1) := by decide +kernel
theorem dX12_line_69 : decode cX12_line 69 = .ok (.invokestatic 120, 3) := by decide +kernel
theorem dX12_line_72 : decode cX12_line 72 = .ok (.ifCond .eq 11, 3) := by decide +kernel
theorem dX12_line_75 : decode cX12_line 75 = .ok (.aload_n 0, 1) := by decide +kernel
theorem dX12_line_76 : decode cX12_line 76 = .ok (.iload_n 3, 1) := by decide +kernel
theorem dX12_line_77 : decode cX12_line 77 = .ok (.invokevirtual 275, 3) := by decide +kernel
theorem dX12_line_80 : decode cX12_line 80 = .ok (.goto 5, 3) := by decide +kernel
theorem dX12_line_83 : decode cX12_line 83 = .ok (.bipush (-2), 2) := by decide +kernel
theorem dX12_line_85 : decode cX12_line 85 = .ok (.ireturn, 1) := by decide +kernel
set_option maxRecDepth 10000 in
theorem wX12_line_0 {g : zG} {I : Nat → Nat → Int32} {P : Nat → Nat → Option Nat} {r : Option Value} {h' : zH} {a0 : Nat} {x1 : Int32} {x2 : Int32} {x3 : Int32} (H : zk g a0 12 ∧ ∃ (w1 : Int32), Cl mX12_isOf [.ref a0, .int 2, .int x1] (g, I, P) (some (.int w1)) (g, I, P) ∧ ((¬ w1 = 0) → ((¬ x2 = (-1)) → zk g a0 12 ∧ ∃ (w6 : Int32) (I7 : Nat → Nat → Int32), Cl mX12_isLine [.ref a0, .int x1, .int x2] (g, I, P) (some (.int w6)) (g, I7, P) ∧ ((¬ w6 = 0) → ((¬ x3 = (-1)) → zk g a0 12 ∧ ∃ (w12 : Int32), Cl mX12_isIn [.int x3, .int 0, .int ((I7 a0 27) - 1)] (g, I7, P) (some (.int w12)) (g, I7, P) ∧ ((w12 = 0) → r = some (.int (-2)) ∧ h' = (g, I7, P)) ∧ ((¬ w12 = 0) → zk g a0 12 ∧ ∃ (w17 : Int32), Cl mX12_inLine [.ref a0, .int x3] (g, I7, P) (some (.int w17)) (g, I7, P) ∧ r = some (.int w17) ∧ h' = (g, I7, P))) ∧ ((x3 = (-1)) → zk g a0 12 ∧ r = some (.int (I7 a0 27)) ∧ h' = (g, I7, P))) ∧ ((w6 = 0) → r = some (.int (-2)) ∧ h' = (g, I7, P))) ∧ ((x2 = (-1)) → ((¬ x3 = 0) → r = some (.int (-2)) ∧ h' = (g, I, P)) ∧ ((x3 = 0) → zk g a0 12 ∧ ∃ b25, P a0 0 = some b25 ∧ ∃ (w28 : Int32), Cl mX12_placeOf [.int 2, .int x1] (g, I, P) (some (.int w28)) (g, I, P) ∧ zk g b25 13 ∧ vp_in w28 (g.2.2 b25) ∧ r = some (.int (I b25 w28.toNatClampNeg)) ∧ h' = (g, I, P)))) ∧ ((w1 = 0) → r = some (.int (-2)) ∧ h' = (g, I, P))) : Zt none mX12_line 0 0 0 [(0, .ref a0), (1, .int x1), (2, .int x2), (3, .int x3)] [] (g, I, P) r h' := by
  refine z_aload_n 0 dX12_line_0 rfl rfl (z_iconst (w := 2) dX12_line_1 (by decide) (z_iload_n 1 dX12_line_2 rfl ?_))
  obtain ⟨oc2, w1, c2, H3⟩ := H
  refine z_virt (As := [.int 2, .int x1]) (st := []) (r1 := (some (.int w1))) (h1 := (g, I, P)) dX12_line_3 kX12_isOf wm_X12_158 ⟨by decide, by decide⟩ rfl rfl (Nat.le_of_ble_eq_true rfl) (by decide) (by decide) oc2 c2 ?_
  refine z_if_ne (t := 12) dX12_line_6 (by decide) (fun q => ?_) (fun q => ?_)
  · have H4 := H3.1 q
    refine z_iload_n 2 dX12_line_12 rfl (z_iconst (w := (-1)) dX12_line_13 (by decide) ?_)
    refine z_icmp_ne (t := 37) dX12_line_14 (by decide) (fun q => ?_) (fun q => ?_)
    · have H5 := H4.1 q
      refine z_aload_n 0 dX12_line_37 rfl rfl (z_iload_n 1 dX12_line_38 rfl (z_iload_n 2 dX12_line_39 rfl ?_))
      obtain ⟨oc8, w6, I7, c8, H9⟩ := H5
      refine z_virt (As := [.int x1, .int x2]) (st := []) (r1 := (some (.int w6))) (h1 := (g, I7, P)) dX12_line_40 kX12_isLine wm_X12_272 ⟨by decide, by decide⟩ rfl rfl (Nat.le_of_ble_eq_true rfl) (by decide) (by decide) oc8 c8 ?_
      refine z_if_ne (t := 49) dX12_line_43 (by decide) (fun q => ?_) (fun q => ?_)
      · have H10 := H9.1 q
        refine z_iload_n 3 dX12_line_49 rfl (z_iconst (w := (-1)) dX12_line_50 (by decide) ?_)
        refine z_icmp_ne (t := 61) dX12_line_51 (by decide) (fun q => ?_) (fun q => ?_)
        · have H11 := H10.1 q
          refine z_iload_n 3 dX12_line_61 rfl (z_iconst (w := 0) dX12_line_62 (by decide) (z_aload_n 0 dX12_line_63 rfl rfl (z_getI dX12_line_64 wf_X12_269 (by decide) (by decide) rfl H11.1 (z_iconst (w := 1) dX12_line_67 (by decide) (z_isub dX12_line_68 ?_)))))
          obtain ⟨w12, c13, H14⟩ := H11.2
          refine z_stat (As := [.int x3, .int 0, .int ((I7 a0 27) - 1)]) (st := []) (r1 := (some (.int w12))) (h1 := (g, I7, P)) dX12_line_69 kX12_isIn wm_X12_120 ⟨by decide, by decide⟩ rfl rfl (Nat.le_of_ble_eq_true rfl) (by decide) (by decide) c13 ?_
          refine z_if_eq (t := 83) dX12_line_72 (by decide) (fun q => ?_) (fun q => ?_)
          · have H15 := H14.1 q
            refine z_bipush (w := (-2)) dX12_line_83 (by decide) ?_
            obtain ⟨rfl, rfl⟩ := H15
            exact z_iret dX12_line_85 rfl (by decide) (by decide)
          · have H16 := H14.2 q
            refine z_aload_n 0 dX12_line_75 rfl rfl (z_iload_n 3 dX12_line_76 rfl ?_)
            obtain ⟨oc18, w17, c18, H19⟩ := H16
            refine z_virt (As := [.int x3]) (st := []) (r1 := (some (.int w17))) (h1 := (g, I7, P)) dX12_line_77 kX12_inLine wm_X12_275 ⟨by decide, by decide⟩ rfl rfl (Nat.le_of_ble_eq_true rfl) (by decide) (by decide) oc18 c18 ?_
            refine z_goto (t := 85) dX12_line_80 (by decide) ?_
            obtain ⟨rfl, rfl⟩ := H19
            exact z_iret dX12_line_85 rfl (by decide) (by decide)
        · have H20 := H10.2 q
          refine z_aload_n 0 dX12_line_54 rfl rfl (z_getI dX12_line_55 wf_X12_269 (by decide) (by decide) rfl H20.1 (z_goto (t := 85) dX12_line_58 (by decide) ?_))
          obtain ⟨rfl, rfl⟩ := H20.2
          exact z_iret dX12_line_85 rfl (by decide) (by decide)
      · have H21 := H9.2 q
        refine z_bipush (w := (-2)) dX12_line_46 (by decide) ?_
        obtain ⟨rfl, rfl⟩ := H21
        exact z_iret dX12_line_48 rfl (by decide) (by decide)
    · have H22 := H4.2 q
      refine z_iload_n 3 dX12_line_17 rfl ?_
      refine z_if_ne (t := 34) dX12_line_18 (by decide) (fun q => ?_) (fun q => ?_)
      · have H23 := H22.1 q
        refine z_bipush (w := (-2)) dX12_line_34 (by decide) ?_
        obtain ⟨rfl, rfl⟩ := H23
        exact z_iret dX12_line_36 rfl (by decide) (by decide)
      · have H24 := H22.2 q
        refine z_aload_n 0 dX12_line_21 rfl rfl ?_
        obtain ⟨oe27, b25, e27, H26⟩ := H24
        refine z_getP dX12_line_22 wf_X12_7 (by decide) (by decide) rfl oe27 (fun q => (by cases q.symm.trans e27)) (fun j q => ?_)
        cases q.symm.trans e27
        refine z_iconst (w := 2) dX12_line_25 (by decide) (z_iload_n 1 dX12_line_26 rfl ?_)
        obtain ⟨w28, c29, H30⟩ := H26
        refine z_stat (As := [.int 2, .int x1]) (st := [.ref b25]) (r1 := (some (.int w28))) (h1 := (g, I, P)) dX12_line_27 kX12_placeOf wm_X12_181 ⟨by decide, by decide⟩ rfl rfl (Nat.le_of_ble_eq_true rfl) (by decide) (by decide) c29 ?_
        refine z_iald dX12_line_30 H30.1 H30.2.1 (z_goto (t := 36) dX12_line_31 (by decide) ?_)
        obtain ⟨rfl, rfl⟩ := H30.2.2
        exact z_iret dX12_line_36 rfl (by decide) (by decide)
  · have H31 := H3.2 q
    refine z_bipush (w := (-2)) dX12_line_9 (by decide) ?_
    obtain ⟨rfl, rfl⟩ := H31
    exact z_iret dX12_line_11 rfl (by decide) (by decide)
theorem eX12_line {g : zG} {I : Nat → Nat → Int32} {P : Nat → Nat → Option Nat} {r : Option Value} {h' : zH} {a0 : Nat} {x1 : Int32} {x2 : Int32} {x3 : Int32} (H : Zt none mX12_line 0 0 0 [(0, .ref a0), (1, .int x1), (2, .int x2), (3, .int x3)] [] (g, I, P) r h') : Cl mX12_line [.ref a0, .int x1, .int x2, .int x3] (g, I, P) r h' := Cl.of (by decide) (Nat.le_of_ble_eq_true rfl) H
theorem dX12_saidOf_0 : decode cX12_saidOf 0 = .ok (.iconst 0, 1) := by decide +kernel
theorem dX12_saidOf_1 : decode cX12_saidOf 1 = .ok (.istore_n 1, 1) := by decide +kernel
theorem dX12_saidOf_2 : decode cX12_saidOf 2 = .ok (.iconst 0, 1) := by decide +kernel
theorem dX12_saidOf_3 : decode cX12_saidOf 3 = .ok (.istore_n 2, 1) := by decide +kernel
theorem dX12_saidOf_4 : decode cX12_saidOf 4 = .ok (.iload_n 2, 1) := by decide +kernel
theorem dX12_saidOf_5 : decode cX12_saidOf 5 = .ok (.aload_n 0, 1) := by decide +kernel
theorem dX12_saidOf_6 : decode cX12_saidOf 6 = .ok (.getfield 190, 3) := by decide +kernel
theorem dX12_saidOf_9 : decode cX12_saidOf 9 = .ok (.if_icmp .ge 85, 3) := by decide +kernel
theorem dX12_saidOf_12 : decode cX12_saidOf 12 = .ok (.aload_n 0, 1) := by decide +kernel
theorem dX12_saidOf_13 : decode cX12_saidOf 13 = .ok (.iload_n 2, 1) := by decide +kernel
theorem dX12_saidOf_14 : decode cX12_saidOf 14 = .ok (.invokevirtual 205, 3) := by decide +kernel
theorem dX12_saidOf_17 : decode cX12_saidOf 17 = .ok (.aload_n 0, 1) := by decide +kernel
theorem dX12_saidOf_18 : decode cX12_saidOf 18 = .ok (.getfield 269, 3) := by decide +kernel
theorem dX12_saidOf_21 : decode cX12_saidOf 21 = .ok (.if_icmp .lt 7, 3) := by decide +kernel
theorem dX12_saidOf_24 : decode cX12_saidOf 24 = .ok (.iconst 1, 1) := by decide +kernel
theorem dX12_saidOf_25 : decode cX12_saidOf 25 = .ok (.goto 4, 3) := by decide +kernel
theorem dX12_saidOf_28 : decode cX12_saidOf 28 = .ok (.iconst 0, 1) := by decide +kernel
theorem dX12_saidOf_29 : decode cX12_saidOf 29 = .ok (.istore_n 3, 1) := by decide +kernel
theorem dX12_saidOf_30 : decode cX12_saidOf 30 = .ok (.iconst 0, 1) := by decide +kernel
theorem dX12_saidOf_31 : decode cX12_saidOf 31 = .ok (.istore 4, 2) := by decide +kernel
theorem dX12_saidOf_33 : decode cX12_saidOf 33 = .ok (.iload 4, 2) := by decide +kernel
theorem dX12_saidOf_35 : decode cX12_saidOf 35 = .ok (.aload_n 0, 1) := by decide +kernel
theorem dX12_saidOf_36 : decode cX12_saidOf 36 = .ok (.getfield 269, 3) := by decide +kernel
theorem dX12_saidOf_39 : decode cX12_saidOf 39 = .ok (.if_icmp .ge 35, 3) := by decide +kernel
theorem dX12_saidOf_42 : decode cX12_saidOf 42 = .ok (.iload_n 3, 1) := by decide +kernel
theorem dX12_saidOf_43 : decode cX12_saidOf 43 = .ok (.ifCond .eq 31, 3) := by decide +kernel
theorem dX12_saidOf_46 : decode cX12_saidOf 46 = .ok (.aload_n 0, 1) := by decide +kernel
theorem dX12_saidOf_47 : decode cX12_saidOf 47 = .ok (.iload_n 2, 1) := by decide +kernel
theorem dX12_saidOf_48 : decode cX12_saidOf 48 = .ok (.iload 4, 2) := by decide +kernel
theorem dX12_saidOf_50 : decode cX12_saidOf 50 = .ok (.invokevirtual 214, 3) := by decide +kernel
theorem dX12_saidOf_53 : decode cX12_saidOf 53 = .ok (.aload_n 0, 1) := by decide +kernel
theorem dX12_saidOf_54 : decode cX12_saidOf 54 = .ok (.iload 4, 2) := by decide +kernel
theorem dX12_saidOf_56 : decode cX12_saidOf 56 = .ok (.invokevirtual 275, 3) := by decide +kernel
theorem dX12_saidOf_59 : decode cX12_saidOf 59 = .ok (.if_icmp .ne 7, 3) := by decide +kernel
theorem dX12_saidOf_62 : decode cX12_saidOf 62 = .ok (.iconst 1, 1) := by decide +kernel
theorem dX12_saidOf_63 : decode cX12_saidOf 63 = .ok (.goto 4, 3) := by decide +kernel
theorem dX12_saidOf_66 : decode cX12_saidOf 66 = .ok (.iconst 0, 1) := by decide +kernel
theorem dX12_saidOf_67 : decode cX12_saidOf 67 = .ok (.istore_n 3, 1) := by decide +kernel
theorem dX12_saidOf_68 : decode cX12_saidOf 68 = .ok (.iinc 4 1, 3) := by decide +kernel
theorem dX12_saidOf_71 : decode cX12_saidOf 71 = .ok (.goto (-38), 3) := by decide +kernel
theorem dX12_saidOf_74 : decode cX12_saidOf 74 = .ok (.iload_n 1, 1) := by decide +kernel
theorem dX12_saidOf_75 : decode cX12_saidOf 75 = .ok (.iload_n 3, 1) := by decide +kernel
theorem dX12_saidOf_76 : decode cX12_saidOf 76 = .ok (.ifCond .eq 9, 3) := by decide +kernel
theorem dX12_saidOf_79 : decode cX12_saidOf 79 = .ok (.iconst 1, 1) := by decide +kernel
theorem dX12_saidOf_80 : decode cX12_saidOf 80 = .ok (.iload_n 2, 1) := by decide +kernel
theorem dX12_saidOf_81 : decode cX12_saidOf 81 = .ok (.ishl, 1) := by decide +kernel
theorem dX12_saidOf_82 : decode cX12_saidOf 82 = .ok (.goto 4, 3) := by decide +kernel
theorem dX12_saidOf_85 : decode cX12_saidOf 85 = .ok (.iconst 0, 1) := by decide +kernel
theorem dX12_saidOf_86 : decode cX12_saidOf 86 = .ok (.ior, 1) := by decide +kernel
theorem dX12_saidOf_87 : decode cX12_saidOf 87 = .ok (.istore_n 1, 1) := by decide +kernel
theorem dX12_saidOf_88 : decode cX12_saidOf 88 = .ok (.iinc 2 1, 3) := by decide +kernel
theorem dX12_saidOf_91 : decode cX12_saidOf 91 = .ok (.goto (-87), 3) := by decide +kernel
theorem dX12_saidOf_94 : decode cX12_saidOf 94 = .ok (.iload_n 1, 1) := by decide +kernel
theorem dX12_saidOf_95 : decode cX12_saidOf 95 = .ok (.ireturn, 1) := by decide +kernel
set_option maxRecDepth 10000 in
theorem wX12_saidOf_0 {g : zG} {I : Nat → Nat → Int32} {P : Nat → Nat → Option Nat} {r : Option Value} {h' : zH} {a0 : Nat} (H : Zt none mX12_saidOf 0 0 4 [(0, .ref a0), (1, .int 0), (2, .int 0)] [] (g, I, P) r h') : Zt none mX12_saidOf 0 0 0 [(0, .ref a0)] [] (g, I, P) r h' := by
  refine z_iconst (w := 0) dX12_saidOf_0 (by decide) (z_istore_n (lv' := [(1, .int 0), (0, .ref a0)]) dX12_saidOf_1 (by decide) rfl (z_iconst (w := 0) dX12_saidOf_2 (by decide) (z_istore_n (lv' := [(2, .int 0), (1, .int 0), (0, .ref a0)]) dX12_saidOf_3 (by decide) rfl ?_)))
  exact z_less [2, 1, 0] rfl H
theorem eX12_saidOf {g : zG} {I : Nat → Nat → Int32} {P : Nat → Nat → Option Nat} {r : Option Value} {h' : zH} {a0 : Nat} (H : Zt none mX12_saidOf 0 0 0 [(0, .ref a0)] [] (g, I, P) r h') : Cl mX12_saidOf [.ref a0] (g, I, P) r h' := Cl.of (by decide) (Nat.le_of_ble_eq_true rfl) H
set_option maxRecDepth 10000 in
theorem wX12_saidOf_4 {g : zG} {I : Nat → Nat → Int32} {P : Nat → Nat → Option Nat} {r : Option Value} {h' : zH} {a0 : Nat} {x1 : Int32} {x2 : Int32} (H : zk g a0 12 ∧ ((I a0 15 ≤ x2) → r = some (.int x1) ∧ h' = (g, I, P)) ∧ ((¬ I a0 15 ≤ x2) → zk g a0 12 ∧ ∃ (w3 : Int32), Cl mX12_longOf [.ref a0, .int x2] (g, I, P) (some (.int w3)) (g, I, P) ∧ zk g a0 12 ∧ ((w3 < I a0 27) → Zt none mX12_saidOf 0 0 33 [(0, .ref a0), (1, .int x1), (2, .int x2), (3, .int 0), (4, .int 0)] [] (g, I, P) r h') ∧ ((¬ w3 < I a0 27) → Zt none mX12_saidOf 0 0 33 [(0, .ref a0), (1, .int x1), (2, .int x2), (3, .int 1), (4, .int 0)] [] (g, I, P) r h'))) : Zt none mX12_saidOf 0 0 4 [(0, .ref a0), (1, .int x1), (2, .int x2)] [] (g, I, P) r h' := by
  refine z_iload_n 2 dX12_saidOf_4 rfl (z_aload_n 0 dX12_saidOf_5 rfl rfl (z_getI dX12_saidOf_6 wf_X12_190 (by decide) (by decide) rfl H.1 ?_))
  refine z_icmp_ge (t := 94) dX12_saidOf_9 (by decide) (fun q => ?_) (fun q => ?_)
  · have H1 := H.2.1 q
    refine z_iload_n 1 dX12_saidOf_94 rfl ?_
    obtain ⟨rfl, rfl⟩ := H1
    exact z_iret dX12_saidOf_95 rfl (by decide) (by decide)
  · have H2 := H.2.2 q
    refine z_aload_n 0 dX12_saidOf_12 rfl rfl (z_iload_n 2 dX12_saidOf_13 rfl ?_)
    obtain ⟨oc4, w3, c4, H5⟩ := H2
    refine z_virt (As := [.int x2]) (st := []) (r1 := (some (.int w3))) (h1 := (g, I, P)) dX12_saidOf_14 kX12_longOf wm_X12_205 ⟨by decide, by decide⟩ rfl rfl (Nat.le_of_ble_eq_true rfl) (by decide) (by decide) oc4 c4 ?_
    refine z_aload_n 0 dX12_saidOf_17 rfl rfl (z_getI dX12_saidOf_18 wf_X12_269 (by decide) (by decide) rfl H5.1 ?_)
    refine z_icmp_lt (t := 28) dX12_saidOf_21 (by decide) (fun q => ?_) (fun q => ?_)
    · have H6 := H5.2.1 q
      refine z_iconst (w := 0) dX12_saidOf_28 (by decide) (z_istore_n (lv' := [(3, .int 0), (0, .ref a0), (1, .int x1), (2, .int x2)]) dX12_saidOf_29 (by decide) rfl (z_iconst (w := 0) dX12_saidOf_30 (by decide) (z_istore (lv' := [(4, .int 0), (3, .int 0), (0, .ref a0), (1, .int x1), (2, .int x2)]) dX12_saidOf_31 (by decide) rfl ?_)))
      exact z_less [2, 3, 4, 1, 0] rfl H6
    · have H7 := H5.2.2 q
      refine z_iconst (w := 1) dX12_saidOf_24 (by decide) (z_goto (t := 29) dX12_saidOf_25 (by decide) (z_istore_n (lv' := [(3, .int 1), (0, .ref a0), (1, .int x1), (2, .int x2)]) dX12_saidOf_29 (by decide) rfl (z_iconst (w := 0) dX12_saidOf_30 (by decide) (z_istore (lv' := [(4, .int 0), (3, .int 1), (0, .ref a0), (1, .int x1), (2, .int x2)]) dX12_saidOf_31 (by decide) rfl ?_))))
      exact z_less [2, 3, 4, 1, 0] rfl H7
set_option maxRecDepth 10000 in
theorem wX12_saidOf_33 {g : zG} {I : Nat → Nat → Int32} {P : Nat → Nat → Option Nat} {r : Option Value} {h' : zH} {a0 : Nat} {x1 : Int32} {x2 : Int32} {x3 : Int32} {x4 : Int32} (H : zk g a0 12 ∧ ((I a0 27 ≤ x4) → Zt none mX12_saidOf 0 0 74 [(0, .ref a0), (1, .int x1), (2, .int x2), (3, .int x3)] [] (g, I, P) r h') ∧ ((¬ I a0 27 ≤ x4) → ((x3 = 0) → Zt none mX12_saidOf 0 0 74 [(0, .ref a0), (1, .int x1), (2, .int x2), (3, .int x3)] [] (g, I, P) r h') ∧ ((¬ x3 = 0) → zk g a0 12 ∧ ∃ (w5 : Int32), Cl mX12_letterOf [.ref a0, .int x2, .int x4] (g, I, P) (some (.int w5)) (g, I, P) ∧ zk g a0 12 ∧ ∃ (w8 : Int32), Cl mX12_inLine [.ref a0, .int x4] (g, I, P) (some (.int w8)) (g, I, P) ∧ ((¬ w5 = w8) → Zt none mX12_saidOf 0 0 33 [(0, .ref a0), (1, .int x1), (2, .int x2), (3, .int 0), (4, .int (x4 + 1))] [] (g, I, P) r h') ∧ ((w5 = w8) → Zt none mX12_saidOf 0 0 33 [(0, .ref a0), (1, .int x1), (2, .int x2), (3, .int 1), (4, .int (x4 + 1))] [] (g, I, P) r h')))) : Zt none mX12_saidOf 0 0 33 [(0, .ref a0), (1, .int x1), (2, .int x2), (3, .int x3), (4, .int x4)] [] (g, I, P) r h' := by
  refine z_iload 4 dX12_saidOf_33 rfl (z_aload_n 0 dX12_saidOf_35 rfl rfl (z_getI dX12_saidOf_36 wf_X12_269 (by decide) (by decide) rfl H.1 ?_))
  refine z_icmp_ge (t := 74) dX12_saidOf_39 (by decide) (fun q => ?_) (fun q => ?_)
  · have H1 := H.2.1 q
    exact z_less [0, 1, 2, 3] rfl H1
  · have H2 := H.2.2 q
    refine z_iload_n 3 dX12_saidOf_42 rfl ?_
    refine z_if_eq (t := 74) dX12_saidOf_43 (by decide) (fun q => ?_) (fun q => ?_)
    · have H3 := H2.1 q
      exact z_less [0, 1, 2, 3] rfl H3
    · have H4 := H2.2 q
      refine z_aload_n 0 dX12_saidOf_46 rfl rfl (z_iload_n 2 dX12_saidOf_47 rfl (z_iload 4 dX12_saidOf_48 rfl ?_))
      obtain ⟨oc6, w5, c6, H7⟩ := H4
      refine z_virt (As := [.int x2, .int x4]) (st := []) (r1 := (some (.int w5))) (h1 := (g, I, P)) dX12_saidOf_50 kX12_letterOf wm_X12_214 ⟨by decide, by decide⟩ rfl rfl (Nat.le_of_ble_eq_true rfl) (by decide) (by decide) oc6 c6 ?_
      refine z_aload_n 0 dX12_saidOf_53 rfl rfl (z_iload 4 dX12_saidOf_54 rfl ?_)
      obtain ⟨oc9, w8, c9, H10⟩ := H7
      refine z_virt (As := [.int x4]) (st := [.int w5]) (r1 := (some (.int w8))) (h1 := (g, I, P)) dX12_saidOf_56 kX12_inLine wm_X12_275 ⟨by decide, by decide⟩ rfl rfl (Nat.le_of_ble_eq_true rfl) (by decide) (by decide) oc9 c9 ?_
      refine z_icmp_ne (t := 66) dX12_saidOf_59 (by decide) (fun q => ?_) (fun q => ?_)
      · have H11 := H10.1 q
        refine z_iconst (w := 0) dX12_saidOf_66 (by decide) (z_istore_n (lv' := [(3, .int 0), (0, .ref a0), (1, .int x1), (2, .int x2), (4, .int x4)]) dX12_saidOf_67 (by decide) rfl (z_iinc (y := x4 + 1) (lv' := [(4, .int (x4 + 1)), (3, .int 0), (0, .ref a0), (1, .int x1), (2, .int x2)]) 4 dX12_saidOf_68 rfl rfl (by decide) rfl (z_goto (t := 33) dX12_saidOf_71 (by decide) ?_)))
        exact z_less [2, 3, 4, 1, 0] rfl H11
      · have H12 := H10.2 q
        refine z_iconst (w := 1) dX12_saidOf_62 (by decide) (z_goto (t := 67) dX12_saidOf_63 (by decide) (z_istore_n (lv' := [(3, .int 1), (0, .ref a0), (1, .int x1), (2, .int x2), (4, .int x4)]) dX12_saidOf_67 (by decide) rfl (z_iinc (y := x4 + 1) (lv' := [(4, .int (x4 + 1)), (3, .int 1), (0, .ref a0), (1, .int x1), (2, .int x2)]) 4 dX12_saidOf_68 rfl rfl (by decide) rfl (z_goto (t := 33) dX12_saidOf_71 (by decide) ?_))))
        exact z_less [2, 3, 4, 1, 0] rfl H12
set_option maxRecDepth 10000 in
theorem wX12_saidOf_74 {g : zG} {I : Nat → Nat → Int32} {P : Nat → Nat → Option Nat} {r : Option Value} {h' : zH} {a0 : Nat} {x1 : Int32} {x2 : Int32} {x3 : Int32} (H : ((x3 = 0) → Zt none mX12_saidOf 0 0 4 [(0, .ref a0), (1, .int (x1 ||| 0)), (2, .int (x2 + 1))] [] (g, I, P) r h') ∧ ((¬ x3 = 0) → ∀ y3 : Int32, y3 = x1 ||| ((1 : Int32) <<< (x2 &&& 31)) → Zt none mX12_saidOf 0 0 4 [(0, .ref a0), (1, .int y3), (2, .int (x2 + 1))] [] (g, I, P) r h')) : Zt none mX12_saidOf 0 0 74 [(0, .ref a0), (1, .int x1), (2, .int x2), (3, .int x3)] [] (g, I, P) r h' := by
  refine z_iload_n 1 dX12_saidOf_74 rfl (z_iload_n 3 dX12_saidOf_75 rfl ?_)
  refine z_if_eq (t := 85) dX12_saidOf_76 (by decide) (fun q => ?_) (fun q => ?_)
  · have H1 := H.1 q
    refine z_iconst (w := 0) dX12_saidOf_85 (by decide) (z_ior dX12_saidOf_86 (z_istore_n (lv' := [(1, .int (x1 ||| 0)), (0, .ref a0), (2, .int x2), (3, .int x3)]) dX12_saidOf_87 (by decide) rfl (z_iinc (y := x2 + 1) (lv' := [(2, .int (x2 + 1)), (1, .int (x1 ||| 0)), (0, .ref a0), (3, .int x3)]) 2 dX12_saidOf_88 rfl rfl (by decide) rfl (z_goto (t := 4) dX12_saidOf_91 (by decide) ?_))))
    exact z_less [2, 1, 0] rfl H1
  · have H2 := H.2 q
    refine z_iconst (w := 1) dX12_saidOf_79 (by decide) (z_iload_n 2 dX12_saidOf_80 rfl (z_ishl dX12_saidOf_81 (z_goto (t := 86) dX12_saidOf_82 (by decide) (z_ior dX12_saidOf_86 ?_))))
    refine z_nm (fun y3 e_y3 => ?_)
    have H4 := H2 y3 e_y3
    refine z_istore_n (lv' := [(1, .int y3), (0, .ref a0), (2, .int x2), (3, .int x3)]) dX12_saidOf_87 (by decide) rfl (z_iinc (y := x2 + 1) (lv' := [(2, .int (x2 + 1)), (1, .int y3), (0, .ref a0), (3, .int x3)]) 2 dX12_saidOf_88 rfl rfl (by decide) rfl (z_goto (t := 4) dX12_saidOf_91 (by decide) ?_))
    exact z_less [2, 1, 0] rfl H4
theorem dX12_oftenIn_0 : decode cX12_oftenIn 0 = .ok (.iconst 0, 1) := by decide +kernel
theorem dX12_oftenIn_1 : decode cX12_oftenIn 1 = .ok (.istore_n 2, 1) := by decide +kernel
theorem dX12_oftenIn_2 : decode cX12_oftenIn 2 = .ok (.iconst 0, 1) := by decide +kernel
theorem dX12_oftenIn_3 : decode cX12_oftenIn 3 = .ok (.istore_n 3, 1) := by decide +kernel
theorem dX12_oftenIn_4 : decode cX12_oftenIn 4 = .ok (.iload_n 3, 1) := by decide +kernel
theorem dX12_oftenIn_5 : decode cX12_oftenIn 5 = .ok (.aload_n 0, 1) := by decide +kernel
theorem dX12_oftenIn_6 : decode cX12_oftenIn 6 = .ok (.getfield 190, 3) := by decide +kernel
theorem dX12_oftenIn_9 : decode cX12_oftenIn 9 = .ok (.if_icmp .ge 29, 3) := by decide +kernel
theorem dX12_oftenIn_12 : decode cX12_oftenIn 12 = .ok (.iload_n 2, 1) := by decide +kernel
theorem dX12_oftenIn_13 : decode cX12_oftenIn 13 = .ok (.iload_n 1, 1) := by decide +kernel
theorem dX12_oftenIn_14 : decode cX12_oftenIn 14 = .ok (.iload_n 3, 1) := by decide +kernel
theorem dX12_oftenIn_15 : decode cX12_oftenIn 15 = .ok (.invokestatic 229, 3) := by decide +kernel
theorem dX12_oftenIn_18 : decode cX12_oftenIn 18 = .ok (.ifCond .eq 11, 3) := by decide +kernel
theorem dX12_oftenIn_21 : decode cX12_oftenIn 21 = .ok (.aload_n 0, 1) := by decide +kernel
theorem dX12_oftenIn_22 : decode cX12_oftenIn 22 = .ok (.iload_n 3, 1) := by decide +kernel
theorem dX12_oftenIn_23 : decode cX12_oftenIn 23 = .ok (.invokevirtual 208, 3) := by decide +kernel
theorem dX12_oftenIn_26 : decode cX12_oftenIn 26 = .ok (.goto 4, 3) := by decide +kernel
theorem dX12_oftenIn_29 : decode cX12_oftenIn 29 = .ok (.iconst 0, 1) := by decide +kernel
theorem dX12_oftenIn_30 : decode cX12_oftenIn 30 = .ok (.iadd, 1) := by decide +kernel
theorem dX12_oftenIn_31 : decode cX12_oftenIn 31 = .ok (.istore_n 2, 1) := by decide +kernel
theorem dX12_oftenIn_32 : decode cX12_oftenIn 32 = .ok (.iinc 3 1, 3) := by decide +kernel
theorem dX12_oftenIn_35 : decode cX12_oftenIn 35 = .ok (.goto (-31), 3) := by decide +kernel
theorem dX12_oftenIn_38 : decode cX12_oftenIn 38 = .ok (.iload_n 2, 1) := by decide +kernel
theorem dX12_oftenIn_39 : decode cX12_oftenIn 39 = .ok (.ireturn, 1) := by decide +kernel
set_option maxRecDepth 10000 in
theorem wX12_oftenIn_0 {g : zG} {I : Nat → Nat → Int32} {P : Nat → Nat → Option Nat} {r : Option Value} {h' : zH} {a0 : Nat} {x1 : Int32} (H : Zt none mX12_oftenIn 0 0 4 [(0, .ref a0), (1, .int x1), (2, .int 0), (3, .int 0)] [] (g, I, P) r h') : Zt none mX12_oftenIn 0 0 0 [(0, .ref a0), (1, .int x1)] [] (g, I, P) r h' := by
  refine z_iconst (w := 0) dX12_oftenIn_0 (by decide) (z_istore_n (lv' := [(2, .int 0), (0, .ref a0), (1, .int x1)]) dX12_oftenIn_1 (by decide) rfl (z_iconst (w := 0) dX12_oftenIn_2 (by decide) (z_istore_n (lv' := [(3, .int 0), (2, .int 0), (0, .ref a0), (1, .int x1)]) dX12_oftenIn_3 (by decide) rfl ?_)))
  exact z_less [2, 3, 1, 0] rfl H
theorem eX12_oftenIn {g : zG} {I : Nat → Nat → Int32} {P : Nat → Nat → Option Nat} {r : Option Value} {h' : zH} {a0 : Nat} {x1 : Int32} (H : Zt none mX12_oftenIn 0 0 0 [(0, .ref a0), (1, .int x1)] [] (g, I, P) r h') : Cl mX12_oftenIn [.ref a0, .int x1] (g, I, P) r h' := Cl.of (by decide) (Nat.le_of_ble_eq_true rfl) H
set_option maxRecDepth 10000 in
theorem wX12_oftenIn_4 {g : zG} {I : Nat → Nat → Int32} {P : Nat → Nat → Option Nat} {r : Option Value} {h' : zH} {a0 : Nat} {x1 : Int32} {x2 : Int32} {x3 : Int32} (H : zk g a0 12 ∧ ((I a0 15 ≤ x3) → r = some (.int x2) ∧ h' = (g, I, P)) ∧ ((¬ I a0 15 ≤ x3) → ∃ (w3 : Int32), Cl mX12_holds [.int x1, .int x3] (g, I, P) (some (.int w3)) (g, I, P) ∧ ((w3 = 0) → Zt none mX12_oftenIn 0 0 4 [(0, .ref a0), (1, .int x1), (2, .int (x2 + 0)), (3, .int (x3 + 1))] [] (g, I, P) r h') ∧ ((¬ w3 = 0) → zk g a0 12 ∧ ∃ (w8 : Int32), Cl mX12_oftenOf [.ref a0, .int x3] (g, I, P) (some (.int w8)) (g, I, P) ∧ Zt none mX12_oftenIn 0 0 4 [(0, .ref a0), (1, .int x1), (2, .int (x2 + w8)), (3, .int (x3 + 1))] [] (g, I, P) r h'))) : Zt none mX12_oftenIn 0 0 4 [(0, .ref a0), (1, .int x1), (2, .int x2), (3, .int x3)] [] (g, I, P) r h' := by
  refine z_iload_n 3 dX12_oftenIn_4 rfl (z_aload_n 0 dX12_oftenIn_5 rfl rfl (z_getI dX12_oftenIn_6 wf_X12_190 (by decide) (by decide) rfl H.1 ?_))
  refine z_icmp_ge (t := 38) dX12_oftenIn_9 (by decide) (fun q => ?_) (fun q => ?_)
  · have H1 := H.2.1 q
    refine z_iload_n 2 dX12_oftenIn_38 rfl ?_
    obtain ⟨rfl, rfl⟩ := H1
    exact z_iret dX12_oftenIn_39 rfl (by decide) (by decide)
  · have H2 := H.2.2 q
    refine z_iload_n 2 dX12_oftenIn_12 rfl (z_iload_n 1 dX12_oftenIn_13 rfl (z_iload_n 3 dX12_oftenIn_14 rfl ?_))
    obtain ⟨w3, c4, H5⟩ := H2
    refine z_stat (As := [.int x1, .int x3]) (st := [.int x2]) (r1 := (some (.int w3))) (h1 := (g, I, P)) dX12_oftenIn_15 kX12_holds wm_X12_229 ⟨by decide, by decide⟩ rfl rfl (Nat.le_of_ble_eq_true rfl) (by decide) (by decide) c4 ?_
    refine z_if_eq (t := 29) dX12_oftenIn_18 (by decide) (fun q => ?_) (fun q => ?_)
    · have H6 := H5.1 q
      refine z_iconst (w := 0) dX12_oftenIn_29 (by decide) (z_iadd dX12_oftenIn_30 (z_istore_n (lv' := [(2, .int (x2 + 0)), (0, .ref a0), (1, .int x1), (3, .int x3)]) dX12_oftenIn_31 (by decide) rfl (z_iinc (y := x3 + 1) (lv' := [(3, .int (x3 + 1)), (2, .int (x2 + 0)), (0, .ref a0), (1, .int x1)]) 3 dX12_oftenIn_32 rfl rfl (by decide) rfl (z_goto (t := 4) dX12_oftenIn_35 (by decide) ?_))))
      exact z_less [2, 3, 1, 0] rfl H6
    · have H7 := H5.2 q
      refine z_aload_n 0 dX12_oftenIn_21 rfl rfl (z_iload_n 3 dX12_oftenIn_22 rfl ?_)
      obtain ⟨oc9, w8, c9, H10⟩ := H7
      refine z_virt (As := [.int x3]) (st := [.int x2]) (r1 := (some (.int w8))) (h1 := (g, I, P)) dX12_oftenIn_23 kX12_oftenOf wm_X12_208 ⟨by decide, by decide⟩ rfl rfl (Nat.le_of_ble_eq_true rfl) (by decide) (by decide) oc9 c9 ?_
      refine z_goto (t := 30) dX12_oftenIn_26 (by decide) (z_iadd dX12_oftenIn_30 (z_istore_n (lv' := [(2, .int (x2 + w8)), (0, .ref a0), (1, .int x1), (3, .int x3)]) dX12_oftenIn_31 (by decide) rfl (z_iinc (y := x3 + 1) (lv' := [(3, .int (x3 + 1)), (2, .int (x2 + w8)), (0, .ref a0), (1, .int x1)]) 3 dX12_oftenIn_32 rfl rfl (by decide) rfl (z_goto (t := 4) dX12_oftenIn_35 (by decide) ?_))))
      exact z_less [2, 3, 1, 0] rfl H10
theorem dX12_said_0 : decode cX12_said 0 = .ok (.aload_n 0, 1) := by decide +kernel
theorem dX12_said_1 : decode cX12_said 1 = .ok (.iload_n 1, 1) := by decide +kernel
theorem dX12_said_2 : decode cX12_said 2 = .ok (.invokevirtual 196, 3) := by decide +kernel
theorem dX12_said_5 : decode cX12_said 5 = .ok (.ifCond .eq 22, 3) := by decide +kernel
theorem dX12_said_8 : decode cX12_said 8 = .ok (.aload_n 0, 1) := by decide +kernel
theorem dX12_said_9 : decode cX12_said 9 = .ok (.iload_n 2, 1) := by decide +kernel
theorem dX12_said_10 : decode cX12_said 10 = .ok (.iload_n 3, 1) := by decide +kernel
theorem dX12_said_11 : decode cX12_said 11 = .ok (.invokevirtual 272, 3) := by decide +kernel
theorem dX12_said_14 : decode cX12_said 14 = .ok (.ifCond .eq 13, 3) := by decide +kernel
theorem dX12_said_17 : decode cX12_said 17 = .ok (.iload 4, 2) := by decide +kernel
theorem dX12_said_19 : decode cX12_said 19 = .ok (.iconst 0, 1) := by decide +kernel
theorem dX12_said_20 : decode cX12_said 20 = .ok (.iconst 1, 1) := by decide +kernel
theorem dX12_said_21 : decode cX12_said 21 = .ok (.invokestatic 120, 3) := by decide +kernel
theorem dX12_said_24 : decode cX12_said 24 = .ok (.ifCond .ne 6, 3) := by decide +kernel
theorem dX12_said_27 : decode cX12_said 27 = .ok (.bipush (-2), 2) := by decide +kernel
theorem dX12_said_29 : decode cX12_said 29 = .ok (.ireturn, 1) := by decide +kernel
theorem dX12_said_30 : decode cX12_said 30 = .ok (.aload_n 0, 1) := by decide +kernel
theorem dX12_said_31 : decode cX12_said 31 = .ok (.invokevirtual 278, 3) := by decide +kernel
theorem dX12_said_34 : decode cX12_said 34 = .ok (.istore 5, 2) := by decide +kernel
theorem dX12_said_36 : decode cX12_said 36 = .ok (.iload 4, 2) := by decide +kernel
theorem dX12_said_38 : decode cX12_said 38 = .ok (.ifCond .ne 6, 3) := by decide +kernel
theorem dX12_said_41 : decode cX12_said 41 = .ok (.iload 5, 2) := by decide +kernel
theorem dX12_said_43 : decode cX12_said 43 = .ok (.ireturn, 1) := by decide +kernel
theorem dX12_said_44 : decode cX12_said 44 = .ok (.iconst (-1), 1) := by decide +kernel
theorem dX12_said_45 : decode cX12_said 45 = .ok (.istore 6, 2) := by decide +kernel
theorem dX12_said_47 : decode cX12_said 47 = .ok (.iconst 0, 1) := by decide +kernel
theorem dX12_said_48 : decode cX12_said 48 = .ok (.istore 7, 2) := by decide +kernel
theorem dX12_said_50 : decode cX12_said 50 = .ok (.iload 7, 2) := by decide +kernel
theorem dX12_said_52 : decode cX12_said 52 = .ok (.aload_n 0, 1) := by decide +kernel
theorem dX12_said_53 : decode cX12_said 53 = .ok (.getfield 190, 3) := by decide +kernel
theorem dX12_said_56 : decode cX12_said 56 = .ok (.if_icmp .ge 44, 3) := by decide +kernel
theorem dX12_said_59 : decode cX12_said 59 = .ok (.iload 5, 2) := by decide +kernel
theorem dX12_said_61 : decode cX12_said 61 = .ok (.iload 7, 2) := by decide +kernel
theorem dX12_said_63 : decode cX12_said 63 = .ok (.invokestatic 229, 3) := by decide +kernel
theorem dX12_said_66 : decode cX12_said 66 = .ok (.ifCond .eq 28, 3) := by decide +kernel
theorem dX12_said_69 : decode cX12_said 69 = .ok (.iload 6, 2) := by decide +kernel
theorem dX12_said_71 : decode cX12_said 71 = .ok (.iconst (-1), 1) := by decide +kernel
theorem dX12_said_72 : decode cX12_said 72 = .ok (.if_icmp .eq 18, 3) := by decide +kernel
theorem dX12_said_75 : decode cX12_said 75 = .ok (.aload_n 0, 1) := by decide +kernel
theorem dX12_said_76 : decode cX12_said 76 = .ok (.iload 7, 2) := by decide +kernel
theorem dX12_said_78 : decode cX12_said 78 = .ok (.invokevirtual 208, 3) := by decide +kernel
theorem dX12_said_81 : decode cX12_said 81 = .ok (.aload_n 0, 1) := by decide +kernel
theorem dX12_said_82 : decode cX12_said 82 = .ok (.iload 6, 2) := by decide +kernel
theorem dX12_said_84 : decode cX12_said 84 = .ok (.invokevirtual 208, 3) := by decide +kernel
theorem dX12_said_87 : decode cX12_said 87 = .ok (.if_icmp .le 7, 3) := by decide +kernel
theorem dX12_said_90 : decode cX12_said 90 = .ok (.iload 7, 2) := by decide +kernel
theorem dX12_said_92 : decode cX12_said 92 = .ok (.istore 6, 2) := by decide +kernel
theorem dX12_said_94 : decode cX12_said 94 = .ok (.iinc 7 1, 3) := by decide +kernel
theorem dX12_said_97 : decode cX12_said 97 = .ok (.goto (-47), 3) := by decide +kernel
theorem dX12_said_100 : decode cX12_said 100 = .ok (.iload 6, 2) := by decide +kernel
theorem dX12_said_102 : decode cX12_said 102 = .ok (.ireturn, 1) := by decide +kernel
set_option maxRecDepth 10000 in
theorem wX12_said_0 {g : zG} {I : Nat → Nat → Int32} {P : Nat → Nat → Option Nat} {r : Option Value} {h' : zH} {a0 : Nat} {x1 : Int32} {x2 : Int32} {x3 : Int32} {x4 : Int32} (H : zk g a0 12 ∧ ∃ (w1 : Int32) (I2 : Nat → Nat → Int32), Cl mX12_isHill [.ref a0, .int x1] (g, I, P) (some (.int w1)) (g, I2, P) ∧ ((w1 = 0) → r = some (.int (-2)) ∧ h' = (g, I2, P)) ∧ ((¬ w1 = 0) → zk g a0 12 ∧ ∃ (w7 : Int32) (I8 : Nat → Nat → Int32), Cl mX12_isLine [.ref a0, .int x2, .int x3] (g, I2, P) (some (.int w7)) (g, I8, P) ∧ ((w7 = 0) → r = some (.int (-2)) ∧ h' = (g, I8, P)) ∧ ((¬ w7 = 0) → ∃ (w13 : Int32), Cl mX12_isIn [.int x4, .int 0, .int 1] (g, I8, P) (some (.int w13)) (g, I8, P) ∧ ((¬ w13 = 0) → zk g a0 12 ∧ ∃ (w17 : Int32), Cl mX12_saidOf [.ref a0] (g, I8, P) (some (.int w17)) (g, I8, P) ∧ ((¬ x4 = 0) → Zt none mX12_said 0 0 50 [(0, .ref a0), (5, .int w17), (6, .int (-1)), (7, .int 0)] [] (g, I8, P) r h') ∧ ((x4 = 0) → r = some (.int w17) ∧ h' = (g, I8, P))) ∧ ((w13 = 0) → r = some (.int (-2)) ∧ h' = (g, I8, P))))) : Zt none mX12_said 0 0 0 [(0, .ref a0), (1, .int x1), (2, .int x2), (3, .int x3), (4, .int x4)] [] (g, I, P) r h' := by
  refine z_aload_n 0 dX12_said_0 rfl rfl (z_iload_n 1 dX12_said_1 rfl ?_)
  obtain ⟨oc3, w1, I2, c3, H4⟩ := H
  refine z_virt (As := [.int x1]) (st := []) (r1 := (some (.int w1))) (h1 := (g, I2, P)) dX12_said_2 kX12_isHill wm_X12_196 ⟨by decide, by decide⟩ rfl rfl (Nat.le_of_ble_eq_true rfl) (by decide) (by decide) oc3 c3 ?_
  refine z_if_eq (t := 27) dX12_said_5 (by decide) (fun q => ?_) (fun q => ?_)
  · have H5 := H4.1 q
    refine z_bipush (w := (-2)) dX12_said_27 (by decide) ?_
    obtain ⟨rfl, rfl⟩ := H5
    exact z_iret dX12_said_29 rfl (by decide) (by decide)
  · have H6 := H4.2 q
    refine z_aload_n 0 dX12_said_8 rfl rfl (z_iload_n 2 dX12_said_9 rfl (z_iload_n 3 dX12_said_10 rfl ?_))
    obtain ⟨oc9, w7, I8, c9, H10⟩ := H6
    refine z_virt (As := [.int x2, .int x3]) (st := []) (r1 := (some (.int w7))) (h1 := (g, I8, P)) dX12_said_11 kX12_isLine wm_X12_272 ⟨by decide, by decide⟩ rfl rfl (Nat.le_of_ble_eq_true rfl) (by decide) (by decide) oc9 c9 ?_
    refine z_if_eq (t := 27) dX12_said_14 (by decide) (fun q => ?_) (fun q => ?_)
    · have H11 := H10.1 q
      refine z_bipush (w := (-2)) dX12_said_27 (by decide) ?_
      obtain ⟨rfl, rfl⟩ := H11
      exact z_iret dX12_said_29 rfl (by decide) (by decide)
    · have H12 := H10.2 q
      refine z_iload 4 dX12_said_17 rfl (z_iconst (w := 0) dX12_said_19 (by decide) (z_iconst (w := 1) dX12_said_20 (by decide) ?_))
      obtain ⟨w13, c14, H15⟩ := H12
      refine z_stat (As := [.int x4, .int 0, .int 1]) (st := []) (r1 := (some (.int w13))) (h1 := (g, I8, P)) dX12_said_21 kX12_isIn wm_X12_120 ⟨by decide, by decide⟩ rfl rfl (Nat.le_of_ble_eq_true rfl) (by decide) (by decide) c14 ?_
      refine z_if_ne (t := 30) dX12_said_24 (by decide) (fun q => ?_) (fun q => ?_)
      · have H16 := H15.1 q
        refine z_aload_n 0 dX12_said_30 rfl rfl ?_
        obtain ⟨oc18, w17, c18, H19⟩ := H16
        refine z_virt (As := []) (st := []) (r1 := (some (.int w17))) (h1 := (g, I8, P)) dX12_said_31 kX12_saidOf wm_X12_278 ⟨by decide, by decide⟩ rfl rfl (Nat.le_of_ble_eq_true rfl) (by decide) (by decide) oc18 c18 ?_
        refine z_istore (lv' := [(5, .int w17), (0, .ref a0), (1, .int x1), (2, .int x2), (3, .int x3), (4, .int x4)]) dX12_said_34 (by decide) rfl (z_iload 5 dX12_said_36 rfl ?_)
        refine z_if_ne (t := 44) dX12_said_38 (by decide) (fun q => ?_) (fun q => ?_)
        · have H20 := H19.1 q
          refine z_iconst (w := (-1)) dX12_said_44 (by decide) (z_istore (lv' := [(6, .int (-1)), (5, .int w17), (0, .ref a0), (1, .int x1), (2, .int x2), (3, .int x3), (4, .int x4)]) dX12_said_45 (by decide) rfl (z_iconst (w := 0) dX12_said_47 (by decide) (z_istore (lv' := [(7, .int 0), (6, .int (-1)), (5, .int w17), (0, .ref a0), (1, .int x1), (2, .int x2), (3, .int x3), (4, .int x4)]) dX12_said_48 (by decide) rfl ?_)))
          exact z_less [3, 2, 1, 0] rfl H20
        · have H21 := H19.2 q
          refine z_iload 0 dX12_said_41 rfl ?_
          obtain ⟨rfl, rfl⟩ := H21
          exact z_iret dX12_said_43 rfl (by decide) (by decide)
      · have H22 := H15.2 q
        refine z_bipush (w := (-2)) dX12_said_27 (by decide) ?_
        obtain ⟨rfl, rfl⟩ := H22
        exact z_iret dX12_said_29 rfl (by decide) (by decide)
theorem eX12_said {g : zG} {I : Nat → Nat → Int32} {P : Nat → Nat → Option Nat} {r : Option Value} {h' : zH} {a0 : Nat} {x1 : Int32} {x2 : Int32} {x3 : Int32} {x4 : Int32} (H : Zt none mX12_said 0 0 0 [(0, .ref a0), (1, .int x1), (2, .int x2), (3, .int x3), (4, .int x4)] [] (g, I, P) r h') : Cl mX12_said [.ref a0, .int x1, .int x2, .int x3, .int x4] (g, I, P) r h' := Cl.of (by decide) (Nat.le_of_ble_eq_true rfl) H
set_option maxRecDepth 10000 in
theorem wX12_said_50 {g : zG} {I : Nat → Nat → Int32} {P : Nat → Nat → Option Nat} {r : Option Value} {h' : zH} {a0 : Nat} {x5 : Int32} {x6 : Int32} {x7 : Int32} (H : zk g a0 12 ∧ ((I a0 15 ≤ x7) → r = some (.int x6) ∧ h' = (g, I, P)) ∧ ((¬ I a0 15 ≤ x7) → ∃ (w3 : Int32), Cl mX12_holds [.int x5, .int x7] (g, I, P) (some (.int w3)) (g, I, P) ∧ ((w3 = 0) → Zt none mX12_said 0 0 50 [(0, .ref a0), (5, .int x5), (6, .int x6), (7, .int (x7 + 1))] [] (g, I, P) r h') ∧ ((¬ w3 = 0) → ((x6 = (-1)) → Zt none mX12_said 0 0 50 [(0, .ref a0), (5, .int x5), (6, .int x7), (7, .int (x7 + 1))] [] (g, I, P) r h') ∧ ((¬ x6 = (-1)) → zk g a0 12 ∧ ∃ (w10 : Int32), Cl mX12_oftenOf [.ref a0, .int x7] (g, I, P) (some (.int w10)) (g, I, P) ∧ zk g a0 12 ∧ ∃ (w13 : Int32), Cl mX12_oftenOf [.ref a0, .int x6] (g, I, P) (some (.int w13)) (g, I, P) ∧ ((w10 ≤ w13) → Zt none mX12_said 0 0 50 [(0, .ref a0), (5, .int x5), (6, .int x6), (7, .int (x7 + 1))] [] (g, I, P) r h') ∧ ((¬ w10 ≤ w13) → Zt none mX12_said 0 0 50 [(0, .ref a0), (5, .int x5), (6, .int x7), (7, .int (x7 + 1))] [] (g, I, P) r h'))))) : Zt none mX12_said 0 0 50 [(0, .ref a0), (5, .int x5), (6, .int x6), (7, .int x7)] [] (g, I, P) r h' := by
  refine z_iload 3 dX12_said_50 rfl (z_aload_n 0 dX12_said_52 rfl rfl (z_getI dX12_said_53 wf_X12_190 (by decide) (by decide) rfl H.1 ?_))
  refine z_icmp_ge (t := 100) dX12_said_56 (by decide) (fun q => ?_) (fun q => ?_)
  · have H1 := H.2.1 q
    refine z_iload 2 dX12_said_100 rfl ?_
    obtain ⟨rfl, rfl⟩ := H1
    exact z_iret dX12_said_102 rfl (by decide) (by decide)
  · have H2 := H.2.2 q
    refine z_iload 1 dX12_said_59 rfl (z_iload 3 dX12_said_61 rfl ?_)
    obtain ⟨w3, c4, H5⟩ := H2
    refine z_stat (As := [.int x5, .int x7]) (st := []) (r1 := (some (.int w3))) (h1 := (g, I, P)) dX12_said_63 kX12_holds wm_X12_229 ⟨by decide, by decide⟩ rfl rfl (Nat.le_of_ble_eq_true rfl) (by decide) (by decide) c4 ?_
    refine z_if_eq (t := 94) dX12_said_66 (by decide) (fun q => ?_) (fun q => ?_)
    · have H6 := H5.1 q
      refine z_iinc (y := x7 + 1) (lv' := [(7, .int (x7 + 1)), (0, .ref a0), (5, .int x5), (6, .int x6)]) 3 dX12_said_94 rfl rfl (by decide) rfl (z_goto (t := 50) dX12_said_97 (by decide) ?_)
      exact z_less [1, 2, 3, 0] rfl H6
    · have H7 := H5.2 q
      refine z_iload 2 dX12_said_69 rfl (z_iconst (w := (-1)) dX12_said_71 (by decide) ?_)
      refine z_icmp_eq (t := 90) dX12_said_72 (by decide) (fun q => ?_) (fun q => ?_)
      · have H8 := H7.1 q
        refine z_iload 3 dX12_said_90 rfl (z_istore (lv' := [(6, .int x7), (0, .ref a0), (5, .int x5), (7, .int x7)]) dX12_said_92 (by decide) rfl (z_iinc (y := x7 + 1) (lv' := [(7, .int (x7 + 1)), (6, .int x7), (0, .ref a0), (5, .int x5)]) 3 dX12_said_94 rfl rfl (by decide) rfl (z_goto (t := 50) dX12_said_97 (by decide) ?_)))
        exact z_less [2, 3, 1, 0] rfl H8
      · have H9 := H7.2 q
        refine z_aload_n 0 dX12_said_75 rfl rfl (z_iload 3 dX12_said_76 rfl ?_)
        obtain ⟨oc11, w10, c11, H12⟩ := H9
        refine z_virt (As := [.int x7]) (st := []) (r1 := (some (.int w10))) (h1 := (g, I, P)) dX12_said_78 kX12_oftenOf wm_X12_208 ⟨by decide, by decide⟩ rfl rfl (Nat.le_of_ble_eq_true rfl) (by decide) (by decide) oc11 c11 ?_
        refine z_aload_n 0 dX12_said_81 rfl rfl (z_iload 2 dX12_said_82 rfl ?_)
        obtain ⟨oc14, w13, c14, H15⟩ := H12
        refine z_virt (As := [.int x6]) (st := [.int w10]) (r1 := (some (.int w13))) (h1 := (g, I, P)) dX12_said_84 kX12_oftenOf wm_X12_208 ⟨by decide, by decide⟩ rfl rfl (Nat.le_of_ble_eq_true rfl) (by decide) (by decide) oc14 c14 ?_
        refine z_icmp_le (t := 94) dX12_said_87 (by decide) (fun q => ?_) (fun q => ?_)
        · have H16 := H15.1 q
          refine z_iinc (y := x7 + 1) (lv' := [(7, .int (x7 + 1)), (0, .ref a0), (5, .int x5), (6, .int x6)]) 3 dX12_said_94 rfl rfl (by decide) rfl (z_goto (t := 50) dX12_said_97 (by decide) ?_)
          exact z_less [1, 2, 3, 0] rfl H16
        · have H17 := H15.2 q
          refine z_iload 3 dX12_said_90 rfl (z_istore (lv' := [(6, .int x7), (0, .ref a0), (5, .int x5), (7, .int x7)]) dX12_said_92 (by decide) rfl (z_iinc (y := x7 + 1) (lv' := [(7, .int (x7 + 1)), (6, .int x7), (0, .ref a0), (5, .int x5)]) 3 dX12_said_94 rfl rfl (by decide) rfl (z_goto (t := 50) dX12_said_97 (by decide) ?_)))
          exact z_less [2, 3, 1, 0] rfl H17
theorem dX12_common_0 : decode cX12_common 0 = .ok (.lload_n 0, 1) := by decide +kernel
theorem dX12_common_1 : decode cX12_common 1 = .ok (.lstore 4, 2) := by decide +kernel
theorem dX12_common_3 : decode cX12_common 3 = .ok (.lload_n 2, 1) := by decide +kernel
theorem dX12_common_4 : decode cX12_common 4 = .ok (.lstore 6, 2) := by decide +kernel
theorem dX12_common_6 : decode cX12_common 6 = .ok (.lload 6, 2) := by decide +kernel
theorem dX12_common_8 : decode cX12_common 8 = .ok (.lconst 0, 1) := by decide +kernel
theorem dX12_common_9 : decode cX12_common 9 = .ok (.lcmp, 1) := by decide +kernel
theorem dX12_common_10 : decode cX12_common 10 = .ok (.ifCond .eq 21, 3) := by decide +kernel
theorem dX12_common_13 : decode cX12_common 13 = .ok (.lload 4, 2) := by decide +kernel
theorem dX12_common_15 : decode cX12_common 15 = .ok (.lload 6, 2) := by decide +kernel
theorem dX12_common_17 : decode cX12_common 17 = .ok (.lrem, 1) := by decide +kernel
theorem dX12_common_18 : decode cX12_common 18 = .ok (.lstore 8, 2) := by decide +kernel
theorem dX12_common_20 : decode cX12_common 20 = .ok (.lload 6, 2) := by decide +kernel
theorem dX12_common_22 : decode cX12_common 22 = .ok (.lstore 4, 2) := by decide +kernel
theorem dX12_common_24 : decode cX12_common 24 = .ok (.lload 8, 2) := by decide +kernel
theorem dX12_common_26 : decode cX12_common 26 = .ok (.lstore 6, 2) := by decide +kernel
theorem dX12_common_28 : decode cX12_common 28 = .ok (.goto (-22), 3) := by decide +kernel
theorem dX12_common_31 : decode cX12_common 31 = .ok (.lload 4, 2) := by decide +kernel
theorem dX12_common_33 : decode cX12_common 33 = .ok (.lreturn, 1) := by decide +kernel
set_option maxRecDepth 10000 in
theorem wX12_common_0 {g : zG} {I : Nat → Nat → Int32} {P : Nat → Nat → Option Nat} {r : Option Value} {h' : zH} {l0 : Int64} {l2 : Int64} (H : Zt none mX12_common 0 0 6 [(4, .long l0), (6, .long l2)] [] (g, I, P) r h') : Zt none mX12_common 0 0 0 [(0, .long l0), (2, .long l2)] [] (g, I, P) r h' := by
  refine z_lload_n 0 dX12_common_0 rfl (z_lstore (lv' := [(4, .long l0), (0, .long l0), (2, .long l2)]) dX12_common_1 (by decide) rfl (z_lload_n 2 dX12_common_3 rfl (z_lstore (lv' := [(6, .long l2), (4, .long l0), (0, .long l0), (2, .long l2)]) dX12_common_4 (by decide) rfl ?_)))
  exact z_less [1, 0] rfl H
theorem eX12_common {g : zG} {I : Nat → Nat → Int32} {P : Nat → Nat → Option Nat} {r : Option Value} {h' : zH} {l0 : Int64} {l2 : Int64} (H : Zt none mX12_common 0 0 0 [(0, .long l0), (2, .long l2)] [] (g, I, P) r h') : Cl mX12_common [.long l0, .long l2] (g, I, P) r h' := Cl.of (by decide) (Nat.le_of_ble_eq_true rfl) H
set_option maxRecDepth 10000 in
theorem wX12_common_6 {g : zG} {I : Nat → Nat → Int32} {P : Nat → Nat → Option Nat} {r : Option Value} {h' : zH} {l4 : Int64} {l6 : Int64} (H : ((lg_cmp l6 0 = 0) → r = some (.long l4) ∧ h' = (g, I, P)) ∧ ((¬ lg_cmp l6 0 = 0) → (¬ l6 = 0) ∧ Zt none mX12_common 0 0 6 [(4, .long l6), (6, .long (l4 - l4 / l6 * l6))] [] (g, I, P) r h')) : Zt none mX12_common 0 0 6 [(4, .long l4), (6, .long l6)] [] (g, I, P) r h' := by
  refine z_lload 1 dX12_common_6 rfl (z_lconst (w := 0) dX12_common_8 (by decide) (z_lcmp dX12_common_9 ?_))
  refine z_if_eq (t := 31) dX12_common_10 (by decide) (fun q => ?_) (fun q => ?_)
  · have H1 := H.1 q
    refine z_lload 0 dX12_common_31 rfl ?_
    obtain ⟨rfl, rfl⟩ := H1
    exact z_lret dX12_common_33 rfl (by decide) (by decide)
  · have H2 := H.2 q
    refine z_lload 0 dX12_common_13 rfl (z_lload 1 dX12_common_15 rfl (z_lrem dX12_common_17 H2.1 (z_lstore (lv' := [(8, .long (l4 - l4 / l6 * l6)), (4, .long l4), (6, .long l6)]) dX12_common_18 (by decide) rfl (z_lload 2 dX12_common_20 rfl (z_lstore (lv' := [(4, .long l6), (8, .long (l4 - l4 / l6 * l6)), (6, .long l6)]) dX12_common_22 (by decide) rfl (z_lload 1 dX12_common_24 rfl (z_lstore (lv' := [(6, .long (l4 - l4 / l6 * l6)), (4, .long l6), (8, .long (l4 - l4 / l6 * l6))]) dX12_common_26 (by decide) rfl (z_goto (t := 6) dX12_common_28 (by decide) ?_))))))))
    exact z_less [1, 0] rfl H2.2
theorem dX12_least_0 : decode cX12_least 0 = .ok (.iload 4, 2) := by decide +kernel
theorem dX12_least_2 : decode cX12_least 2 = .ok (.ifCond .eq 7, 3) := by decide +kernel
theorem dX12_least_5 : decode cX12_least 5 = .ok (.lload_n 2, 1) := by decide +kernel
theorem dX12_least_6 : decode cX12_least 6 = .ok (.goto 4, 3) := by decide +kernel
theorem dX12_least_9 : decode cX12_least 9 = .ok (.lload_n 0, 1) := by decide +kernel
theorem dX12_least_10 : decode cX12_least 10 = .ok (.lload_n 0, 1) := by decide +kernel
theorem dX12_least_11 : decode cX12_least 11 = .ok (.lload_n 2, 1) := by decide +kernel
theorem dX12_least_12 : decode cX12_least 12 = .ok (.invokestatic 281, 3) := by decide +kernel
theorem dX12_least_15 : decode cX12_least 15 = .ok (.ldiv, 1) := by decide +kernel
theorem dX12_least_16 : decode cX12_least 16 = .ok (.lreturn, 1) := by decide +kernel
set_option maxRecDepth 10000 in
theorem wX12_least_0 {g : zG} {I : Nat → Nat → Int32} {P : Nat → Nat → Option Nat} {r : Option Value} {h' : zH} {l0 : Int64} {l2 : Int64} {x4 : Int32} (H : ((x4 = 0) → ∃ (w2 : Int64), Cl mX12_common [.long l0, .long l2] (g, I, P) (some (.long w2)) (g, I, P) ∧ (¬ w2 = 0) ∧ r = some (.long (l0 / w2)) ∧ h' = (g, I, P)) ∧ ((¬ x4 = 0) → ∃ (w6 : Int64), Cl mX12_common [.long l0, .long l2] (g, I, P) (some (.long w6)) (g, I, P) ∧ (¬ w6 = 0) ∧ r = some (.long (l2 / w6)) ∧ h' = (g, I, P))) : Zt none mX12_least 0 0 0 [(0, .long l0), (2, .long l2), (4, .int x4)] [] (g, I, P) r h' := by
  refine z_iload 2 dX12_least_0 rfl ?_
  refine z_if_eq (t := 9) dX12_least_2 (by decide) (fun q => ?_) (fun q => ?_)
  · have H1 := H.1 q
    refine z_lload_n 0 dX12_least_9 rfl (z_lload_n 0 dX12_least_10 rfl (z_lload_n 1 dX12_least_11 rfl ?_))
    obtain ⟨w2, c3, H4⟩ := H1
    refine z_stat (As := [.long l0, .long l2]) (st := [.long l0]) (r1 := (some (.long w2))) (h1 := (g, I, P)) dX12_least_12 kX12_common wm_X12_281 ⟨by decide, by decide⟩ rfl rfl (Nat.le_of_ble_eq_true rfl) (by decide) (by decide) c3 ?_
    refine z_ldiv dX12_least_15 H4.1 ?_
    obtain ⟨rfl, rfl⟩ := H4.2
    exact z_lret dX12_least_16 rfl (by decide) (by decide)
  · have H5 := H.2 q
    refine z_lload_n 1 dX12_least_5 rfl (z_goto (t := 10) dX12_least_6 (by decide) (z_lload_n 0 dX12_least_10 rfl (z_lload_n 1 dX12_least_11 rfl ?_)))
    obtain ⟨w6, c7, H8⟩ := H5
    refine z_stat (As := [.long l0, .long l2]) (st := [.long l2]) (r1 := (some (.long w6))) (h1 := (g, I, P)) dX12_least_12 kX12_common wm_X12_281 ⟨by decide, by decide⟩ rfl rfl (Nat.le_of_ble_eq_true rfl) (by decide) (by decide) c7 ?_
    refine z_ldiv dX12_least_15 H8.1 ?_
    obtain ⟨rfl, rfl⟩ := H8.2
    exact z_lret dX12_least_16 rfl (by decide) (by decide)
theorem eX12_least {g : zG} {I : Nat → Nat → Int32} {P : Nat → Nat → Option Nat} {r : Option Value} {h' : zH} {l0 : Int64} {l2 : Int64} {x4 : Int32} (H : Zt none mX12_least 0 0 0 [(0, .long l0), (2, .long l2), (4, .int x4)] [] (g, I, P) r h') : Cl mX12_least [.long l0, .long l2, .int x4] (g, I, P) r h' := Cl.of (by decide) (Nat.le_of_ble_eq_true rfl) H
theorem dX12_odds_0 : decode cX12_odds 0 = .ok (.aload_n 0, 1) := by decide +kernel
theorem dX12_odds_1 : decode cX12_odds 1 = .ok (.iload_n 1, 1) := by decide +kernel
theorem dX12_odds_2 : decode cX12_odds 2 = .ok (.invokevirtual 196, 3) := by decide +kernel
theorem dX12_odds_5 : decode cX12_odds 5 = .ok (.ifCond .eq 21, 3) := by decide +kernel
theorem dX12_odds_8 : decode cX12_odds 8 = .ok (.aload_n 0, 1) := by decide +kernel
theorem dX12_odds_9 : decode cX12_odds 9 = .ok (.iload_n 2, 1) := by decide +kernel
theorem dX12_odds_10 : decode cX12_odds 10 = .ok (.iload_n 3, 1) := by decide +kernel
theorem dX12_odds_11 : decode cX12_odds 11 = .ok (.invokevirtual 272, 3) := by decide +kernel
theorem dX12_odds_14 : decode cX12_odds 14 = .ok (.ifCond .eq 12, 3) := by decide +kernel
theorem dX12_odds_17 : decode cX12_odds 17 = .ok (.aload_n 0, 1) := by decide +kernel
theorem dX12_odds_18 : decode cX12_odds 18 = .ok (.iload 4, 2) := by decide +kernel
theorem dX12_odds_20 : decode cX12_odds 20 = .ok (.invokevirtual 202, 3) := by decide +kernel
theorem dX12_odds_23 : decode cX12_odds 23 = .ok (.ifCond .ne 7, 3) := by decide +kernel
theorem dX12_odds_26 : decode cX12_odds 26 = .ok (.ldc2_w 285, 3) := by decide +kernel
theorem dX12_odds_29 : decode cX12_odds 29 = .ok (.lreturn, 1) := by decide +kernel
theorem dX12_odds_30 : decode cX12_odds 30 = .ok (.aload_n 0, 1) := by decide +kernel
theorem dX12_odds_31 : decode cX12_odds 31 = .ok (.invokevirtual 278, 3) := by decide +kernel
theorem dX12_odds_34 : decode cX12_odds 34 = .ok (.istore 6, 2) := by decide +kernel
theorem dX12_odds_36 : decode cX12_odds 36 = .ok (.aload_n 0, 1) := by decide +kernel
theorem dX12_odds_37 : decode cX12_odds 37 = .ok (.iload 6, 2) := by decide +kernel
theorem dX12_odds_39 : decode cX12_odds 39 = .ok (.invokevirtual 287, 3) := by decide +kernel
theorem dX12_odds_42 : decode cX12_odds 42 = .ok (.istore 7, 2) := by decide +kernel
theorem dX12_odds_44 : decode cX12_odds 44 = .ok (.iload 7, 2) := by decide +kernel
theorem dX12_odds_46 : decode cX12_odds 46 = .ok (.ifCond .ne 9, 3) := by decide +kernel
theorem dX12_odds_49 : decode cX12_odds 49 = .ok (.ldc2_w 285, 3) := by decide +kernel
theorem dX12_odds_52 : decode cX12_odds 52 = .ok (.goto 32, 3) := by decide +kernel
theorem dX12_odds_55 : decode cX12_odds 55 = .ok (.iload 6, 2) := by decide +kernel
theorem dX12_odds_57 : decode cX12_odds 57 = .ok (.iload 4, 2) := by decide +kernel
theorem dX12_odds_59 : decode cX12_odds 59 = .ok (.invokestatic 229, 3) := by decide +kernel
theorem dX12_odds_62 : decode cX12_odds 62 = .ok (.ifCond .eq 13, 3) := by decide +kernel
theorem dX12_odds_65 : decode cX12_odds 65 = .ok (.aload_n 0, 1) := by decide +kernel
theorem dX12_odds_66 : decode cX12_odds 66 = .ok (.iload 4, 2) := by decide +kernel
theorem dX12_odds_68 : decode cX12_odds 68 = .ok (.invokevirtual 208, 3) := by decide +kernel
theorem dX12_odds_71 : decode cX12_odds 71 = .ok (.i2l, 1) := by decide +kernel
theorem dX12_odds_72 : decode cX12_odds 72 = .ok (.goto 4, 3) := by decide +kernel
theorem dX12_odds_75 : decode cX12_odds 75 = .ok (.lconst 0, 1) := by decide +kernel
theorem dX12_odds_76 : decode cX12_odds 76 = .ok (.iload 7, 2) := by decide +kernel
theorem dX12_odds_78 : decode cX12_odds 78 = .ok (.i2l, 1) := by decide +kernel
theorem dX12_odds_79 : decode cX12_odds 79 = .ok (.iload 5, 2) := by decide +kernel
theorem dX12_odds_81 : decode cX12_odds 81 = .ok (.invokestatic 290, 3) := by decide +kernel
theorem dX12_odds_84 : decode cX12_odds 84 = .ok (.lreturn, 1) := by decide +kernel
set_option maxRecDepth 10000 in
theorem wX12_odds_0 {g : zG} {I : Nat → Nat → Int32} {P : Nat → Nat → Option Nat} {r : Option Value} {h' : zH} {a0 : Nat} {x1 : Int32} {x2 : Int32} {x3 : Int32} {x4 : Int32} {x5 : Int32} (H : zk g a0 12 ∧ ∃ (w1 : Int32) (I2 : Nat → Nat → Int32), Cl mX12_isHill [.ref a0, .int x1] (g, I, P) (some (.int w1)) (g, I2, P) ∧ ((w1 = 0) → r = some (.long (-1)) ∧ h' = (g, I2, P)) ∧ ((¬ w1 = 0) → zk g a0 12 ∧ ∃ (w7 : Int32) (I8 : Nat → Nat → Int32), Cl mX12_isLine [.ref a0, .int x2, .int x3] (g, I2, P) (some (.int w7)) (g, I8, P) ∧ ((w7 = 0) → r = some (.long (-1)) ∧ h' = (g, I8, P)) ∧ ((¬ w7 = 0) → zk g a0 12 ∧ ∃ (w13 : Int32), Cl mX12_isWord [.ref a0, .int x4] (g, I8, P) (some (.int w13)) (g, I8, P) ∧ ((¬ w13 = 0) → zk g a0 12 ∧ ∃ (w17 : Int32), Cl mX12_saidOf [.ref a0] (g, I8, P) (some (.int w17)) (g, I8, P) ∧ zk g a0 12 ∧ ∃ (w20 : Int32), Cl mX12_oftenIn [.ref a0, .int w17] (g, I8, P) (some (.int w20)) (g, I8, P) ∧ ((¬ w20 = 0) → ∃ (w24 : Int32), Cl mX12_holds [.int w17, .int x4] (g, I8, P) (some (.int w24)) (g, I8, P) ∧ ((w24 = 0) → ∃ (w28 : Int64), Cl mX12_least [.long 0, .long w20.toInt64, .int x5] (g, I8, P) (some (.long w28)) (g, I8, P) ∧ r = some (.long w28) ∧ h' = (g, I8, P)) ∧ ((¬ w24 = 0) → zk g a0 12 ∧ ∃ (w32 : Int32), Cl mX12_oftenOf [.ref a0, .int x4] (g, I8, P) (some (.int w32)) (g, I8, P) ∧ ∃ (w35 : Int64), Cl mX12_least [.long w32.toInt64, .long w20.toInt64, .int x5] (g, I8, P) (some (.long w35)) (g, I8, P) ∧ r = some (.long w35) ∧ h' = (g, I8, P))) ∧ ((w20 = 0) → r = some (.long (-1)) ∧ h' = (g, I8, P))) ∧ ((w13 = 0) → r = some (.long (-1)) ∧ h' = (g, I8, P))))) : Zt none mX12_odds 0 0 0 [(0, .ref a0), (1, .int x1), (2, .int x2), (3, .int x3), (4, .int x4), (5, .int x5)] [] (g, I, P) r h' := by
  refine z_aload_n 0 dX12_odds_0 rfl rfl (z_iload_n 1 dX12_odds_1 rfl ?_)
  obtain ⟨oc3, w1, I2, c3, H4⟩ := H
  refine z_virt (As := [.int x1]) (st := []) (r1 := (some (.int w1))) (h1 := (g, I2, P)) dX12_odds_2 kX12_isHill wm_X12_196 ⟨by decide, by decide⟩ rfl rfl (Nat.le_of_ble_eq_true rfl) (by decide) (by decide) oc3 c3 ?_
  refine z_if_eq (t := 26) dX12_odds_5 (by decide) (fun q => ?_) (fun q => ?_)
  · have H5 := H4.1 q
    refine z_ldc2 dX12_odds_26 wk_X12_285 ?_
    obtain ⟨rfl, rfl⟩ := H5
    exact z_lret dX12_odds_29 rfl (by decide) (by decide)
  · have H6 := H4.2 q
    refine z_aload_n 0 dX12_odds_8 rfl rfl (z_iload_n 2 dX12_odds_9 rfl (z_iload_n 3 dX12_odds_10 rfl ?_))
    obtain ⟨oc9, w7, I8, c9, H10⟩ := H6
    refine z_virt (As := [.int x2, .int x3]) (st := []) (r1 := (some (.int w7))) (h1 := (g, I8, P)) dX12_odds_11 kX12_isLine wm_X12_272 ⟨by decide, by decide⟩ rfl rfl (Nat.le_of_ble_eq_true rfl) (by decide) (by decide) oc9 c9 ?_
    refine z_if_eq (t := 26) dX12_odds_14 (by decide) (fun q => ?_) (fun q => ?_)
    · have H11 := H10.1 q
      refine z_ldc2 dX12_odds_26 wk_X12_285 ?_
      obtain ⟨rfl, rfl⟩ := H11
      exact z_lret dX12_odds_29 rfl (by decide) (by decide)
    · have H12 := H10.2 q
      refine z_aload_n 0 dX12_odds_17 rfl rfl (z_iload 4 dX12_odds_18 rfl ?_)
      obtain ⟨oc14, w13, c14, H15⟩ := H12
      refine z_virt (As := [.int x4]) (st := []) (r1 := (some (.int w13))) (h1 := (g, I8, P)) dX12_odds_20 kX12_isWord wm_X12_202 ⟨by decide, by decide⟩ rfl rfl (Nat.le_of_ble_eq_true rfl) (by decide) (by decide) oc14 c14 ?_
      refine z_if_ne (t := 30) dX12_odds_23 (by decide) (fun q => ?_) (fun q => ?_)
      · have H16 := H15.1 q
        refine z_aload_n 0 dX12_odds_30 rfl rfl ?_
        obtain ⟨oc18, w17, c18, H19⟩ := H16
        refine z_virt (As := []) (st := []) (r1 := (some (.int w17))) (h1 := (g, I8, P)) dX12_odds_31 kX12_saidOf wm_X12_278 ⟨by decide, by decide⟩ rfl rfl (Nat.le_of_ble_eq_true rfl) (by decide) (by decide) oc18 c18 ?_
        refine z_istore (lv' := [(6, .int w17), (0, .ref a0), (1, .int x1), (2, .int x2), (3, .int x3), (4, .int x4), (5, .int x5)]) dX12_odds_34 (by decide) rfl (z_aload_n 1 dX12_odds_36 rfl rfl (z_iload 0 dX12_odds_37 rfl ?_))
        obtain ⟨oc21, w20, c21, H22⟩ := H19
        refine z_virt (As := [.int w17]) (st := []) (r1 := (some (.int w20))) (h1 := (g, I8, P)) dX12_odds_39 kX12_oftenIn wm_X12_287 ⟨by decide, by decide⟩ rfl rfl (Nat.le_of_ble_eq_true rfl) (by decide) (by decide) oc21 c21 ?_
        refine z_istore (lv' := [(7, .int w20), (6, .int w17), (0, .ref a0), (1, .int x1), (2, .int x2), (3, .int x3), (4, .int x4), (5, .int x5)]) dX12_odds_42 (by decide) rfl (z_iload 0 dX12_odds_44 rfl ?_)
        refine z_if_ne (t := 55) dX12_odds_46 (by decide) (fun q => ?_) (fun q => ?_)
        · have H23 := H22.1 q
          refine z_iload 1 dX12_odds_55 rfl (z_iload 6 dX12_odds_57 rfl ?_)
          obtain ⟨w24, c25, H26⟩ := H23
          refine z_stat (As := [.int w17, .int x4]) (st := []) (r1 := (some (.int w24))) (h1 := (g, I8, P)) dX12_odds_59 kX12_holds wm_X12_229 ⟨by decide, by decide⟩ rfl rfl (Nat.le_of_ble_eq_true rfl) (by decide) (by decide) c25 ?_
          refine z_if_eq (t := 75) dX12_odds_62 (by decide) (fun q => ?_) (fun q => ?_)
          · have H27 := H26.1 q
            refine z_lconst (w := 0) dX12_odds_75 (by decide) (z_iload 0 dX12_odds_76 rfl (z_i2l dX12_odds_78 (z_iload 7 dX12_odds_79 rfl ?_)))
            obtain ⟨w28, c29, H30⟩ := H27
            refine z_stat (As := [.long 0, .long w20.toInt64, .int x5]) (st := []) (r1 := (some (.long w28))) (h1 := (g, I8, P)) dX12_odds_81 kX12_least wm_X12_290 ⟨by decide, by decide⟩ rfl rfl (Nat.le_of_ble_eq_true rfl) (by decide) (by decide) c29 ?_
            obtain ⟨rfl, rfl⟩ := H30
            exact z_lret dX12_odds_84 rfl (by decide) (by decide)
          · have H31 := H26.2 q
            refine z_aload_n 2 dX12_odds_65 rfl rfl (z_iload 6 dX12_odds_66 rfl ?_)
            obtain ⟨oc33, w32, c33, H34⟩ := H31
            refine z_virt (As := [.int x4]) (st := []) (r1 := (some (.int w32))) (h1 := (g, I8, P)) dX12_odds_68 kX12_oftenOf wm_X12_208 ⟨by decide, by decide⟩ rfl rfl (Nat.le_of_ble_eq_true rfl) (by decide) (by decide) oc33 c33 ?_
            refine z_i2l dX12_odds_71 (z_goto (t := 76) dX12_odds_72 (by decide) (z_iload 0 dX12_odds_76 rfl (z_i2l dX12_odds_78 (z_iload 7 dX12_odds_79 rfl ?_))))
            obtain ⟨w35, c36, H37⟩ := H34
            refine z_stat (As := [.long w32.toInt64, .long w20.toInt64, .int x5]) (st := []) (r1 := (some (.long w35))) (h1 := (g, I8, P)) dX12_odds_81 kX12_least wm_X12_290 ⟨by decide, by decide⟩ rfl rfl (Nat.le_of_ble_eq_true rfl) (by decide) (by decide) c36 ?_
            obtain ⟨rfl, rfl⟩ := H37
            exact z_lret dX12_odds_84 rfl (by decide) (by decide)
        · have H38 := H22.2 q
          refine z_ldc2 dX12_odds_49 wk_X12_285 (z_goto (t := 84) dX12_odds_52 (by decide) ?_)
          obtain ⟨rfl, rfl⟩ := H38
          exact z_lret dX12_odds_84 rfl (by decide) (by decide)
      · have H39 := H15.2 q
        refine z_ldc2 dX12_odds_26 wk_X12_285 ?_
        obtain ⟨rfl, rfl⟩ := H39
        exact z_lret dX12_odds_29 rfl (by decide) (by decide)
theorem eX12_odds {g : zG} {I : Nat → Nat → Int32} {P : Nat → Nat → Option Nat} {r : Option Value} {h' : zH} {a0 : Nat} {x1 : Int32} {x2 : Int32} {x3 : Int32} {x4 : Int32} {x5 : Int32} (H : Zt none mX12_odds 0 0 0 [(0, .ref a0), (1, .int x1), (2, .int x2), (3, .int x3), (4, .int x4), (5, .int x5)] [] (g, I, P) r h') : Cl mX12_odds [.ref a0, .int x1, .int x2, .int x3, .int x4, .int x5] (g, I, P) r h' := Cl.of (by decide) (Nat.le_of_ble_eq_true rfl) H
theorem dX12_alikeOf_0 : decode cX12_alikeOf 0 = .ok (.iconst 0, 1) := by decide +kernel
theorem dX12_alikeOf_1 : decode cX12_alikeOf 1 = .ok (.istore_n 3, 1) := by decide +kernel
theorem dX12_alikeOf_2 : decode cX12_alikeOf 2 = .ok (.iload_n 3, 1) := by decide +kernel
theorem dX12_alikeOf_3 : decode cX12_alikeOf 3 = .ok (.aload_n 0, 1) := by decide +kernel
theorem dX12_alikeOf_4 : decode cX12_alikeOf 4 = .ok (.iload_n 1, 1) := by decide +kernel
theorem dX12_alikeOf_5 : decode cX12_alikeOf 5 = .ok (.invokevirtual 205, 3) := by decide +kernel
theorem dX12_alikeOf_8 : decode cX12_alikeOf 8 = .ok (.if_icmp .ge 33, 3) := by decide +kernel
theorem dX12_alikeOf_11 : decode cX12_alikeOf 11 = .ok (.iload_n 3, 1) := by decide +kernel
theorem dX12_alikeOf_12 : decode cX12_alikeOf 12 = .ok (.aload_n 0, 1) := by decide +kernel
theorem dX12_alikeOf_13 : decode cX12_alikeOf 13 = .ok (.iload_n 2, 1) := by decide +kernel
theorem dX12_alikeOf_14 : decode cX12_alikeOf 14 = .ok (.invokevirtual 205, 3) := by decide +kernel
theorem dX12_alikeOf_17 : decode cX12_alikeOf 17 = .ok (.if_icmp .ge 24, 3) := by decide +kernel
theorem dX12_alikeOf_20 : decode cX12_alikeOf 20 = .ok (.aload_n 0, 1) := by decide +kernel
theorem dX12_alikeOf_21 : decode cX12_alikeOf 21 = .ok (.iload_n 1, 1) := by decide +kernel
theorem dX12_alikeOf_22 : decode cX12_alikeOf 22 = .ok (.iload_n 3, 1) := by decide +kernel
theorem dX12_alikeOf_23 : decode cX12_alikeOf 23 = .ok (.invokevirtual 214, 3) := by decide +kernel
theorem dX12_alikeOf_26 : decode cX12_alikeOf 26 = .ok (.aload_n 0, 1) := by decide +kernel
theorem dX12_alikeOf_27 : decode cX12_alikeOf 27 = .ok (.iload_n 2, 1) := by decide +kernel
theorem dX12_alikeOf_28 : decode cX12_alikeOf 28 = .ok (.iload_n 3, 1) := by decide +kernel
theorem dX12_alikeOf_29 : decode cX12_alikeOf 29 = .ok (.invokevirtual 214, 3) := by decide +kernel
theorem dX12_alikeOf_32 : decode cX12_alikeOf 32 = .ok (.if_icmp .ne 9, 3) := by decide +kernel
theorem dX12_alikeOf_35 : decode cX12_alikeOf 35 = .ok (.iinc 3 1, 3) := by decide +kernel
theorem dX12_alikeOf_38 : decode cX12_alikeOf 38 = .ok (.goto (-36), 3) := by decide +kernel
theorem dX12_alikeOf_41 : decode cX12_alikeOf 41 = .ok (.iload_n 3, 1) := by decide +kernel
theorem dX12_alikeOf_42 : decode cX12_alikeOf 42 = .ok (.ireturn, 1) := by decide +kernel
set_option maxRecDepth 10000 in
theorem wX12_alikeOf_0 {g : zG} {I : Nat → Nat → Int32} {P : Nat → Nat → Option Nat} {r : Option Value} {h' : zH} {a0 : Nat} {x1 : Int32} {x2 : Int32} (H : Zt none mX12_alikeOf 0 0 2 [(0, .ref a0), (1, .int x1), (2, .int x2), (3, .int 0)] [] (g, I, P) r h') : Zt none mX12_alikeOf 0 0 0 [(0, .ref a0), (1, .int x1), (2, .int x2)] [] (g, I, P) r h' := by
  refine z_iconst (w := 0) dX12_alikeOf_0 (by decide) (z_istore_n (lv' := [(3, .int 0), (0, .ref a0), (1, .int x1), (2, .int x2)]) dX12_alikeOf_1 (by decide) rfl ?_)
  exact z_less [1, 2, 3, 0] rfl H
theorem eX12_alikeOf {g : zG} {I : Nat → Nat → Int32} {P : Nat → Nat → Option Nat} {r : Option Value} {h' : zH} {a0 : Nat} {x1 : Int32} {x2 : Int32} (H : Zt none mX12_alikeOf 0 0 0 [(0, .ref a0), (1, .int x1), (2, .int x2)] [] (g, I, P) r h') : Cl mX12_alikeOf [.ref a0, .int x1, .int x2] (g, I, P) r h' := Cl.of (by decide) (Nat.le_of_ble_eq_true rfl) H
set_option maxRecDepth 10000 in
theorem wX12_alikeOf_2 {g : zG} {I : Nat → Nat → Int32} {P : Nat → Nat → Option Nat} {r : Option Value} {h' : zH} {a0 : Nat} {x1 : Int32} {x2 : Int32} {x3 : Int32} (H : zk g a0 12 ∧ ∃ (w1 : Int32), Cl mX12_longOf [.ref a0, .int x1] (g, I, P) (some (.int w1)) (g, I, P) ∧ ((w1 ≤ x3) → r = some (.int x3) ∧ h' = (g, I, P)) ∧ ((¬ w1 ≤ x3) → zk g a0 12 ∧ ∃ (w6 : Int32), Cl mX12_longOf [.ref a0, .int x2] (g, I, P) (some (.int w6)) (g, I, P) ∧ ((w6 ≤ x3) → r = some (.int x3) ∧ h' = (g, I, P)) ∧ ((¬ w6 ≤ x3) → zk g a0 12 ∧ ∃ (w11 : Int32), Cl mX12_letterOf [.ref a0, .int x1, .int x3] (g, I, P) (some (.int w11)) (g, I, P) ∧ zk g a0 12 ∧ ∃ (w14 : Int32), Cl mX12_letterOf [.ref a0, .int x2, .int x3] (g, I, P) (some (.int w14)) (g, I, P) ∧ ((¬ w11 = w14) → r = some (.int x3) ∧ h' = (g, I, P)) ∧ ((w11 = w14) → Zt none mX12_alikeOf 0 0 2 [(0, .ref a0), (1, .int x1), (2, .int x2), (3, .int (x3 + 1))] [] (g, I, P) r h')))) : Zt none mX12_alikeOf 0 0 2 [(0, .ref a0), (1, .int x1), (2, .int x2), (3, .int x3)] [] (g, I, P) r h' := by
  refine z_iload_n 3 dX12_alikeOf_2 rfl (z_aload_n 0 dX12_alikeOf_3 rfl rfl (z_iload_n 1 dX12_alikeOf_4 rfl ?_))
  obtain ⟨oc2, w1, c2, H3⟩ := H
  refine z_virt (As := [.int x1]) (st := [.int x3]) (r1 := (some (.int w1))) (h1 := (g, I, P)) dX12_alikeOf_5 kX12_longOf wm_X12_205 ⟨by decide, by decide⟩ rfl rfl (Nat.le_of_ble_eq_true rfl) (by decide) (by decide) oc2 c2 ?_
  refine z_icmp_ge (t := 41) dX12_alikeOf_8 (by decide) (fun q => ?_) (fun q => ?_)
  · have H4 := H3.1 q
    refine z_iload_n 3 dX12_alikeOf_41 rfl ?_
    obtain ⟨rfl, rfl⟩ := H4
    exact z_iret dX12_alikeOf_42 rfl (by decide) (by decide)
  · have H5 := H3.2 q
    refine z_iload_n 3 dX12_alikeOf_11 rfl (z_aload_n 0 dX12_alikeOf_12 rfl rfl (z_iload_n 2 dX12_alikeOf_13 rfl ?_))
    obtain ⟨oc7, w6, c7, H8⟩ := H5
    refine z_virt (As := [.int x2]) (st := [.int x3]) (r1 := (some (.int w6))) (h1 := (g, I, P)) dX12_alikeOf_14 kX12_longOf wm_X12_205 ⟨by decide, by decide⟩ rfl rfl (Nat.le_of_ble_eq_true rfl) (by decide) (by decide) oc7 c7 ?_
    refine z_icmp_ge (t := 41) dX12_alikeOf_17 (by decide) (fun q => ?_) (fun q => ?_)
    · have H9 := H8.1 q
      refine z_iload_n 3 dX12_alikeOf_41 rfl ?_
      obtain ⟨rfl, rfl⟩ := H9
      exact z_iret dX12_alikeOf_42 rfl (by decide) (by decide)
    · have H10 := H8.2 q
      refine z_aload_n 0 dX12_alikeOf_20 rfl rfl (z_iload_n 1 dX12_alikeOf_21 rfl (z_iload_n 3 dX12_alikeOf_22 rfl ?_))
      obtain ⟨oc12, w11, c12, H13⟩ := H10
      refine z_virt (As := [.int x1, .int x3]) (st := []) (r1 := (some (.int w11))) (h1 := (g, I, P)) dX12_alikeOf_23 kX12_letterOf wm_X12_214 ⟨by decide, by decide⟩ rfl rfl (Nat.le_of_ble_eq_true rfl) (by decide) (by decide) oc12 c12 ?_
      refine z_aload_n 0 dX12_alikeOf_26 rfl rfl (z_iload_n 2 dX12_alikeOf_27 rfl (z_iload_n 3 dX12_alikeOf_28 rfl ?_))
      obtain ⟨oc15, w14, c15, H16⟩ := H13
      refine z_virt (As := [.int x2, .int x3]) (st := [.int w11]) (r1 := (some (.int w14))) (h1 := (g, I, P)) dX12_alikeOf_29 kX12_letterOf wm_X12_214 ⟨by decide, by decide⟩ rfl rfl (Nat.le_of_ble_eq_true rfl) (by decide) (by decide) oc15 c15 ?_
      refine z_icmp_ne (t := 41) dX12_alikeOf_32 (by decide) (fun q => ?_) (fun q => ?_)
      · have H17 := H16.1 q
        refine z_iload_n 3 dX12_alikeOf_41 rfl ?_
        obtain ⟨rfl, rfl⟩ := H17
        exact z_iret dX12_alikeOf_42 rfl (by decide) (by decide)
      · have H18 := H16.2 q
        refine z_iinc (y := x3 + 1) (lv' := [(3, .int (x3 + 1)), (0, .ref a0), (1, .int x1), (2, .int x2)]) 3 dX12_alikeOf_35 rfl rfl (by decide) rfl (z_goto (t := 2) dX12_alikeOf_38 (by decide) ?_)
        exact z_less [1, 2, 3, 0] rfl H18
theorem dX12_sureIn_0 : decode cX12_sureIn 0 = .ok (.iconst 0, 1) := by decide +kernel
theorem dX12_sureIn_1 : decode cX12_sureIn 1 = .ok (.istore_n 3, 1) := by decide +kernel
theorem dX12_sureIn_2 : decode cX12_sureIn 2 = .ok (.iconst 0, 1) := by decide +kernel
theorem dX12_sureIn_3 : decode cX12_sureIn 3 = .ok (.istore 4, 2) := by decide +kernel
theorem dX12_sureIn_5 : decode cX12_sureIn 5 = .ok (.iload 4, 2) := by decide +kernel
theorem dX12_sureIn_7 : decode cX12_sureIn 7 = .ok (.aload_n 0, 1) := by decide +kernel
theorem dX12_sureIn_8 : decode cX12_sureIn 8 = .ok (.getfield 190, 3) := by decide +kernel
theorem dX12_sureIn_11 : decode cX12_sureIn 11 = .ok (.if_icmp .ge 118, 3) := by decide +kernel
theorem dX12_sureIn_14 : decode cX12_sureIn 14 = .ok (.iload_n 1, 1) := by decide +kernel
theorem dX12_sureIn_15 : decode cX12_sureIn 15 = .ok (.iload 4, 2) := by decide +kernel
theorem dX12_sureIn_17 : decode cX12_sureIn 17 = .ok (.invokestatic 229, 3) := by decide +kernel
theorem dX12_sureIn_20 : decode cX12_sureIn 20 = .ok (.ifCond .ne 6, 3) := by decide +kernel
theorem dX12_sureIn_23 : decode cX12_sureIn 23 = .ok (.goto 100, 3) := by decide +kernel
theorem dX12_sureIn_26 : decode cX12_sureIn 26 = .ok (.iload_n 2, 1) := by decide +kernel
theorem dX12_sureIn_27 : decode cX12_sureIn 27 = .ok (.istore 5, 2) := by decide +kernel
theorem dX12_sureIn_29 : decode cX12_sureIn 29 = .ok (.iconst 0, 1) := by decide +kernel
theorem dX12_sureIn_30 : decode cX12_sureIn 30 = .ok (.istore 6, 2) := by decide +kernel
theorem dX12_sureIn_32 : decode cX12_sureIn 32 = .ok (.iload 6, 2) := by decide +kernel
theorem dX12_sureIn_34 : decode cX12_sureIn 34 = .ok (.aload_n 0, 1) := by decide +kernel
theorem dX12_sureIn_35 : decode cX12_sureIn 35 = .ok (.getfield 190, 3) := by decide +kernel
theorem dX12_sureIn_38 : decode cX12_sureIn 38 = .ok (.if_icmp .ge 52, 3) := by decide +kernel
theorem dX12_sureIn_41 : decode cX12_sureIn 41 = .ok (.iload 6, 2) := by decide +kernel
theorem dX12_sureIn_43 : decode cX12_sureIn 43 = .ok (.iload 4, 2) := by decide +kernel
theorem dX12_sureIn_45 : decode cX12_sureIn 45 = .ok (.if_icmp .eq 39, 3) := by decide +kernel
theorem dX12_sureIn_48 : decode cX12_sureIn 48 = .ok (.iload_n 1, 1) := by decide +kernel
theorem dX12_sureIn_49 : decode cX12_sureIn 49 = .ok (.iload 6, 2) := by decide +kernel
theorem dX12_sureIn_51 : decode cX12_sureIn 51 = .ok (.invokestatic 229, 3) := by decide +kernel
theorem dX12_sureIn_54 : decode cX12_sureIn 54 = .ok (.ifCond .eq 30, 3) := by decide +kernel
theorem dX12_sureIn_57 : decode cX12_sureIn 57 = .ok (.aload_n 0, 1) := by decide +kernel
theorem dX12_sureIn_58 : decode cX12_sureIn 58 = .ok (.iload 4, 2) := by decide +kernel
theorem dX12_sureIn_60 : decode cX12_sureIn 60 = .ok (.iload 6, 2) := by decide +kernel
theorem dX12_sureIn_62 : decode cX12_sureIn 62 = .ok (.invokevirtual 294, 3) := by decide +kernel
theorem dX12_sureIn_65 : decode cX12_sureIn 65 = .ok (.iconst 1, 1) := by decide +kernel
theorem dX12_sureIn_66 : decode cX12_sureIn 66 = .ok (.iadd, 1) := by decide +kernel
theorem dX12_sureIn_67 : decode cX12_sureIn 67 = .ok (.iload 5, 2) := by decide +kernel
theorem dX12_sureIn_69 : decode cX12_sureIn 69 = .ok (.if_icmp .le 15, 3) := by decide +kernel
theorem dX12_sureIn_72 : decode cX12_sureIn 72 = .ok (.aload_n 0, 1) := by decide +kernel
theorem dX12_sureIn_73 : decode cX12_sureIn 73 = .ok (.iload 4, 2) := by decide +kernel
theorem dX12_sureIn_75 : decode cX12_sureIn 75 = .ok (.iload 6, 2) := by decide +kernel
theorem dX12_sureIn_77 : decode cX12_sureIn 77 = .ok (.invokevirtual 294, 3) := by decide +kernel
theorem dX12_sureIn_80 : decode cX12_sureIn 80 = .ok (.iconst 1, 1) := by decide +kernel
theorem dX12_sureIn_81 : decode cX12_sureIn 81 = .ok (.iadd, 1) := by decide +kernel
theorem dX12_sureIn_82 : decode cX12_sureIn 82 = .ok (.istore 5, 2) := by decide +kernel
theorem dX12_sureIn_84 : decode cX12_sureIn 84 = .ok (.iinc 6 1, 3) := by decide +kernel
theorem dX12_sureIn_87 : decode cX12_sureIn 87 = .ok (.goto (-55), 3) := by decide +kernel
theorem dX12_sureIn_90 : decode cX12_sureIn 90 = .ok (.iload 5, 2) := by decide +kernel
theorem dX12_sureIn_92 : decode cX12_sureIn 92 = .ok (.aload_n 0, 1) := by decide +kernel
theorem dX12_sureIn_93 : decode cX12_sureIn 93 = .ok (.iload 4, 2) := by decide +kernel
theorem dX12_sureIn_95 : decode cX12_sureIn 95 = .ok (.invokevirtual 205, 3) := by decide +kernel
theorem dX12_sureIn_98 : decode cX12_sureIn 98 = .ok (.if_icmp .le 11, 3) := by decide +kernel
theorem dX12_sureIn_101 : decode cX12_sureIn 101 = .ok (.aload_n 0, 1) := by decide +kernel
theorem dX12_sureIn_102 : decode cX12_sureIn 102 = .ok (.iload 4, 2) := by decide +kernel
theorem dX12_sureIn_104 : decode cX12_sureIn 104 = .ok (.invokevirtual 205, 3) := by decide +kernel
theorem dX12_sureIn_107 : decode cX12_sureIn 107 = .ok (.istore 5, 2) := by decide +kernel
theorem dX12_sureIn_109 : decode cX12_sureIn 109 = .ok (.iload_n 3, 1) := by decide +kernel
theorem dX12_sureIn_110 : decode cX12_sureIn 110 = .ok (.aload_n 0, 1) := by decide +kernel
theorem dX12_sureIn_111 : decode cX12_sureIn 111 = .ok (.iload 4, 2) := by decide +kernel
theorem dX12_sureIn_113 : decode cX12_sureIn 113 = .ok (.invokevirtual 208, 3) := by decide +kernel
theorem dX12_sureIn_116 : decode cX12_sureIn 116 = .ok (.iload 5, 2) := by decide +kernel
theorem dX12_sureIn_118 : decode cX12_sureIn 118 = .ok (.iload_n 2, 1) := by decide +kernel
theorem dX12_sureIn_119 : decode cX12_sureIn 119 = .ok (.isub, 1) := by decide +kernel
theorem dX12_sureIn_120 : decode cX12_sureIn 120 = .ok (.imul, 1) := by decide +kernel
theorem dX12_sureIn_121 : decode cX12_sureIn 121 = .ok (.iadd, 1) := by decide +kernel
theorem dX12_sureIn_122 : decode cX12_sureIn 122 = .ok (.istore_n 3, 1) := by decide +kernel
theorem dX12_sureIn_123 : decode cX12_sureIn 123 = .ok (.iinc 4 1, 3) := by decide +kernel
theorem dX12_sureIn_126 : decode cX12_sureIn 126 = .ok (.goto (-121), 3) := by decide +kernel
theorem dX12_sureIn_129 : decode cX12_sureIn 129 = .ok (.iload_n 3, 1) := by decide +kernel
theorem dX12_sureIn_130 : decode cX12_sureIn 130 = .ok (.ireturn, 1) := by decide +kernel
set_option maxRecDepth 10000 in
theorem wX12_sureIn_0 {g : zG} {I : Nat → Nat → Int32} {P : Nat → Nat → Option Nat} {r : Option Value} {h' : zH} {a0 : Nat} {x1 : Int32} {x2 : Int32} (H : Zt none mX12_sureIn 0 0 5 [(0, .ref a0), (1, .int x1), (2, .int x2), (3, .int 0), (4, .int 0)] [] (g, I, P) r h') : Zt none mX12_sureIn 0 0 0 [(0, .ref a0), (1, .int x1), (2, .int x2)] [] (g, I, P) r h' := by
  refine z_iconst (w := 0) dX12_sureIn_0 (by decide) (z_istore_n (lv' := [(3, .int 0), (0, .ref a0), (1, .int x1), (2, .int x2)]) dX12_sureIn_1 (by decide) rfl (z_iconst (w := 0) dX12_sureIn_2 (by decide) (z_istore (lv' := [(4, .int 0), (3, .int 0), (0, .ref a0), (1, .int x1), (2, .int x2)]) dX12_sureIn_3 (by decide) rfl ?_)))
  exact z_less [2, 3, 4, 1, 0] rfl H
theorem eX12_sureIn {g : zG} {I : Nat → Nat → Int32} {P : Nat → Nat → Option Nat} {r : Option Value} {h' : zH} {a0 : Nat} {x1 : Int32} {x2 : Int32} (H : Zt none mX12_sureIn 0 0 0 [(0, .ref a0), (1, .int x1), (2, .int x2)] [] (g, I, P) r h') : Cl mX12_sureIn [.ref a0, .int x1, .int x2] (g, I, P) r h' := Cl.of (by decide) (Nat.le_of_ble_eq_true rfl) H
set_option maxRecDepth 10000 in
theorem wX12_sureIn_5 {g : zG} {I : Nat → Nat → Int32} {P : Nat → Nat → Option Nat} {r : Option Value} {h' : zH} {a0 : Nat} {x1 : Int32} {x2 : Int32} {x3 : Int32} {x4 : Int32} (H : zk g a0 12 ∧ ((I a0 15 ≤ x4) → r = some (.int x3) ∧ h' = (g, I, P)) ∧ ((¬ I a0 15 ≤ x4) → ∃ (w3 : Int32), Cl mX12_holds [.int x1, .int x4] (g, I, P) (some (.int w3)) (g, I, P) ∧ ((¬ w3 = 0) → Zt none mX12_sureIn 0 0 32 [(0, .ref a0), (1, .int x1), (2, .int x2), (3, .int x3), (4, .int x4), (5, .int x2), (6, .int 0)] [] (g, I, P) r h') ∧ ((w3 = 0) → Zt none mX12_sureIn 0 0 5 [(0, .ref a0), (1, .int x1), (2, .int x2), (3, .int x3), (4, .int (x4 + 1))] [] (g, I, P) r h'))) : Zt none mX12_sureIn 0 0 5 [(0, .ref a0), (1, .int x1), (2, .int x2), (3, .int x3), (4, .int x4)] [] (g, I, P) r h' := by
  refine z_iload 4 dX12_sureIn_5 rfl (z_aload_n 0 dX12_sureIn_7 rfl rfl (z_getI dX12_sureIn_8 wf_X12_190 (by decide) (by decide) rfl H.1 ?_))
  refine z_icmp_ge (t := 129) dX12_sureIn_11 (by decide) (fun q => ?_) (fun q => ?_)
  · have H1 := H.2.1 q
    refine z_iload_n 3 dX12_sureIn_129 rfl ?_
    obtain ⟨rfl, rfl⟩ := H1
    exact z_iret dX12_sureIn_130 rfl (by decide) (by decide)
  · have H2 := H.2.2 q
    refine z_iload_n 1 dX12_sureIn_14 rfl (z_iload 4 dX12_sureIn_15 rfl ?_)
    obtain ⟨w3, c4, H5⟩ := H2
    refine z_stat (As := [.int x1, .int x4]) (st := []) (r1 := (some (.int w3))) (h1 := (g, I, P)) dX12_sureIn_17 kX12_holds wm_X12_229 ⟨by decide, by decide⟩ rfl rfl (Nat.le_of_ble_eq_true rfl) (by decide) (by decide) c4 ?_
    refine z_if_ne (t := 26) dX12_sureIn_20 (by decide) (fun q => ?_) (fun q => ?_)
    · have H6 := H5.1 q
      refine z_iload_n 2 dX12_sureIn_26 rfl (z_istore (lv' := [(5, .int x2), (0, .ref a0), (1, .int x1), (2, .int x2), (3, .int x3), (4, .int x4)]) dX12_sureIn_27 (by decide) rfl (z_iconst (w := 0) dX12_sureIn_29 (by decide) (z_istore (lv' := [(6, .int 0), (5, .int x2), (0, .ref a0), (1, .int x1), (2, .int x2), (3, .int x3), (4, .int x4)]) dX12_sureIn_30 (by decide) rfl ?_)))
      exact z_less [2, 3, 4, 5, 6, 1, 0] rfl H6
    · have H7 := H5.2 q
      refine z_goto (t := 123) dX12_sureIn_23 (by decide) (z_iinc (y := x4 + 1) (lv' := [(4, .int (x4 + 1)), (0, .ref a0), (1, .int x1), (2, .int x2), (3, .int x3)]) 4 dX12_sureIn_123 rfl rfl (by decide) rfl (z_goto (t := 5) dX12_sureIn_126 (by decide) ?_))
      exact z_less [1, 2, 3, 4, 0] rfl H7
set_option maxRecDepth 10000 in
theorem wX12_sureIn_32 {g : zG} {I : Nat → Nat → Int32} {P : Nat → Nat → Option Nat} {r : Option Value} {h' : zH} {a0 : Nat} {x1 : Int32} {x2 : Int32} {x3 : Int32} {x4 : Int32} {x5 : Int32} {x6 : Int32} (H : zk g a0 12 ∧ ((I a0 15 ≤ x6) → zk g a0 12 ∧ ∃ (w2 : Int32), Cl mX12_longOf [.ref a0, .int x4] (g, I, P) (some (.int w2)) (g, I, P) ∧ ((x5 ≤ w2) → zk g a0 12 ∧ ∃ (w6 : Int32), Cl mX12_oftenOf [.ref a0, .int x4] (g, I, P) (some (.int w6)) (g, I, P) ∧ Zt none mX12_sureIn 0 0 5 [(0, .ref a0), (1, .int x1), (2, .int x2), (3, .int (x3 + (w6 * (x5 - x2)))), (4, .int (x4 + 1))] [] (g, I, P) r h') ∧ ((¬ x5 ≤ w2) → zk g a0 12 ∧ ∃ (w10 : Int32), Cl mX12_longOf [.ref a0, .int x4] (g, I, P) (some (.int w10)) (g, I, P) ∧ zk g a0 12 ∧ ∃ (w13 : Int32), Cl mX12_oftenOf [.ref a0, .int x4] (g, I, P) (some (.int w13)) (g, I, P) ∧ Zt none mX12_sureIn 0 0 5 [(0, .ref a0), (1, .int x1), (2, .int x2), (3, .int (x3 + (w13 * (w10 - x2)))), (4, .int (x4 + 1))] [] (g, I, P) r h')) ∧ ((¬ I a0 15 ≤ x6) → ((x6 = x4) → Zt none mX12_sureIn 0 0 32 [(0, .ref a0), (1, .int x1), (2, .int x2), (3, .int x3), (4, .int x4), (5, .int x5), (6, .int (x6 + 1))] [] (g, I, P) r h') ∧ ((¬ x6 = x4) → ∃ (w19 : Int32), Cl mX12_holds [.int x1, .int x6] (g, I, P) (some (.int w19)) (g, I, P) ∧ ((w19 = 0) → Zt none mX12_sureIn 0 0 32 [(0, .ref a0), (1, .int x1), (2, .int x2), (3, .int x3), (4, .int x4), (5, .int x5), (6, .int (x6 + 1))] [] (g, I, P) r h') ∧ ((¬ w19 = 0) → zk g a0 12 ∧ ∃ (w24 : Int32), Cl mX12_alikeOf [.ref a0, .int x4, .int x6] (g, I, P) (some (.int w24)) (g, I, P) ∧ ((w24 + 1 ≤ x5) → Zt none mX12_sureIn 0 0 32 [(0, .ref a0), (1, .int x1), (2, .int x2), (3, .int x3), (4, .int x4), (5, .int x5), (6, .int (x6 + 1))] [] (g, I, P) r h') ∧ ((¬ w24 + 1 ≤ x5) → zk g a0 12 ∧ ∃ (w29 : Int32), Cl mX12_alikeOf [.ref a0, .int x4, .int x6] (g, I, P) (some (.int w29)) (g, I, P) ∧ Zt none mX12_sureIn 0 0 32 [(0, .ref a0), (1, .int x1), (2, .int x2), (3, .int x3), (4, .int x4), (5, .int (w29 + 1)), (6, .int (x6 + 1))] [] (g, I, P) r h'))))) : Zt none mX12_sureIn 0 0 32 [(0, .ref a0), (1, .int x1), (2, .int x2), (3, .int x3), (4, .int x4), (5, .int x5), (6, .int x6)] [] (g, I, P) r h' := by
  refine z_iload 6 dX12_sureIn_32 rfl (z_aload_n 0 dX12_sureIn_34 rfl rfl (z_getI dX12_sureIn_35 wf_X12_190 (by decide) (by decide) rfl H.1 ?_))
  refine z_icmp_ge (t := 90) dX12_sureIn_38 (by decide) (fun q => ?_) (fun q => ?_)
  · have H1 := H.2.1 q
    refine z_iload 5 dX12_sureIn_90 rfl (z_aload_n 0 dX12_sureIn_92 rfl rfl (z_iload 4 dX12_sureIn_93 rfl ?_))
    obtain ⟨oc3, w2, c3, H4⟩ := H1
    refine z_virt (As := [.int x4]) (st := [.int x5]) (r1 := (some (.int w2))) (h1 := (g, I, P)) dX12_sureIn_95 kX12_longOf wm_X12_205 ⟨by decide, by decide⟩ rfl rfl (Nat.le_of_ble_eq_true rfl) (by decide) (by decide) oc3 c3 ?_
    refine z_icmp_le (t := 109) dX12_sureIn_98 (by decide) (fun q => ?_) (fun q => ?_)
    · have H5 := H4.1 q
      refine z_iload_n 3 dX12_sureIn_109 rfl (z_aload_n 0 dX12_sureIn_110 rfl rfl (z_iload 4 dX12_sureIn_111 rfl ?_))
      obtain ⟨oc7, w6, c7, H8⟩ := H5
      refine z_virt (As := [.int x4]) (st := [.int x3]) (r1 := (some (.int w6))) (h1 := (g, I, P)) dX12_sureIn_113 kX12_oftenOf wm_X12_208 ⟨by decide, by decide⟩ rfl rfl (Nat.le_of_ble_eq_true rfl) (by decide) (by decide) oc7 c7 ?_
      refine z_iload 5 dX12_sureIn_116 rfl (z_iload_n 2 dX12_sureIn_118 rfl (z_isub dX12_sureIn_119 (z_imul dX12_sureIn_120 (z_iadd dX12_sureIn_121 (z_istore_n (lv' := [(3, .int (x3 + (w6 * (x5 - x2)))), (0, .ref a0), (1, .int x1), (2, .int x2), (4, .int x4), (5, .int x5), (6, .int x6)]) dX12_sureIn_122 (by decide) rfl (z_iinc (y := x4 + 1) (lv' := [(4, .int (x4 + 1)), (3, .int (x3 + (w6 * (x5 - x2)))), (0, .ref a0), (1, .int x1), (2, .int x2), (5, .int x5), (6, .int x6)]) 4 dX12_sureIn_123 rfl rfl (by decide) rfl (z_goto (t := 5) dX12_sureIn_126 (by decide) ?_)))))))
      exact z_less [2, 3, 4, 1, 0] rfl H8
    · have H9 := H4.2 q
      refine z_aload_n 0 dX12_sureIn_101 rfl rfl (z_iload 4 dX12_sureIn_102 rfl ?_)
      obtain ⟨oc11, w10, c11, H12⟩ := H9
      refine z_virt (As := [.int x4]) (st := []) (r1 := (some (.int w10))) (h1 := (g, I, P)) dX12_sureIn_104 kX12_longOf wm_X12_205 ⟨by decide, by decide⟩ rfl rfl (Nat.le_of_ble_eq_true rfl) (by decide) (by decide) oc11 c11 ?_
      refine z_istore (lv' := [(5, .int w10), (0, .ref a0), (1, .int x1), (2, .int x2), (3, .int x3), (4, .int x4), (6, .int x6)]) dX12_sureIn_107 (by decide) rfl (z_iload_n 4 dX12_sureIn_109 rfl (z_aload_n 1 dX12_sureIn_110 rfl rfl (z_iload 5 dX12_sureIn_111 rfl ?_)))
      obtain ⟨oc14, w13, c14, H15⟩ := H12
      refine z_virt (As := [.int x4]) (st := [.int x3]) (r1 := (some (.int w13))) (h1 := (g, I, P)) dX12_sureIn_113 kX12_oftenOf wm_X12_208 ⟨by decide, by decide⟩ rfl rfl (Nat.le_of_ble_eq_true rfl) (by decide) (by decide) oc14 c14 ?_
      refine z_iload 0 dX12_sureIn_116 rfl (z_iload_n 3 dX12_sureIn_118 rfl (z_isub dX12_sureIn_119 (z_imul dX12_sureIn_120 (z_iadd dX12_sureIn_121 (z_istore_n (lv' := [(3, .int (x3 + (w13 * (w10 - x2)))), (5, .int w10), (0, .ref a0), (1, .int x1), (2, .int x2), (4, .int x4), (6, .int x6)]) dX12_sureIn_122 (by decide) rfl (z_iinc (y := x4 + 1) (lv' := [(4, .int (x4 + 1)), (3, .int (x3 + (w13 * (w10 - x2)))), (5, .int w10), (0, .ref a0), (1, .int x1), (2, .int x2), (6, .int x6)]) 5 dX12_sureIn_123 rfl rfl (by decide) rfl (z_goto (t := 5) dX12_sureIn_126 (by decide) ?_)))))))
      exact z_less [3, 4, 5, 1, 0] rfl H15
  · have H16 := H.2.2 q
    refine z_iload 6 dX12_sureIn_41 rfl (z_iload 4 dX12_sureIn_43 rfl ?_)
    refine z_icmp_eq (t := 84) dX12_sureIn_45 (by decide) (fun q => ?_) (fun q => ?_)
    · have H17 := H16.1 q
      refine z_iinc (y := x6 + 1) (lv' := [(6, .int (x6 + 1)), (0, .ref a0), (1, .int x1), (2, .int x2), (3, .int x3), (4, .int x4), (5, .int x5)]) 6 dX12_sureIn_84 rfl rfl (by decide) rfl (z_goto (t := 32) dX12_sureIn_87 (by decide) ?_)
      exact z_less [1, 2, 3, 4, 5, 6, 0] rfl H17
    · have H18 := H16.2 q
      refine z_iload_n 1 dX12_sureIn_48 rfl (z_iload 6 dX12_sureIn_49 rfl ?_)
      obtain ⟨w19, c20, H21⟩ := H18
      refine z_stat (As := [.int x1, .int x6]) (st := []) (r1 := (some (.int w19))) (h1 := (g, I, P)) dX12_sureIn_51 kX12_holds wm_X12_229 ⟨by decide, by decide⟩ rfl rfl (Nat.le_of_ble_eq_true rfl) (by decide) (by decide) c20 ?_
      refine z_if_eq (t := 84) dX12_sureIn_54 (by decide) (fun q => ?_) (fun q => ?_)
      · have H22 := H21.1 q
        refine z_iinc (y := x6 + 1) (lv' := [(6, .int (x6 + 1)), (0, .ref a0), (1, .int x1), (2, .int x2), (3, .int x3), (4, .int x4), (5, .int x5)]) 6 dX12_sureIn_84 rfl rfl (by decide) rfl (z_goto (t := 32) dX12_sureIn_87 (by decide) ?_)
        exact z_less [1, 2, 3, 4, 5, 6, 0] rfl H22
      · have H23 := H21.2 q
        refine z_aload_n 0 dX12_sureIn_57 rfl rfl (z_iload 4 dX12_sureIn_58 rfl (z_iload 6 dX12_sureIn_60 rfl ?_))
        obtain ⟨oc25, w24, c25, H26⟩ := H23
        refine z_virt (As := [.int x4, .int x6]) (st := []) (r1 := (some (.int w24))) (h1 := (g, I, P)) dX12_sureIn_62 kX12_alikeOf wm_X12_294 ⟨by decide, by decide⟩ rfl rfl (Nat.le_of_ble_eq_true rfl) (by decide) (by decide) oc25 c25 ?_
        refine z_iconst (w := 1) dX12_sureIn_65 (by decide) (z_iadd dX12_sureIn_66 (z_iload 5 dX12_sureIn_67 rfl ?_))
        refine z_icmp_le (t := 84) dX12_sureIn_69 (by decide) (fun q => ?_) (fun q => ?_)
        · have H27 := H26.1 q
          refine z_iinc (y := x6 + 1) (lv' := [(6, .int (x6 + 1)), (0, .ref a0), (1, .int x1), (2, .int x2), (3, .int x3), (4, .int x4), (5, .int x5)]) 6 dX12_sureIn_84 rfl rfl (by decide) rfl (z_goto (t := 32) dX12_sureIn_87 (by decide) ?_)
          exact z_less [1, 2, 3, 4, 5, 6, 0] rfl H27
        · have H28 := H26.2 q
          refine z_aload_n 0 dX12_sureIn_72 rfl rfl (z_iload 4 dX12_sureIn_73 rfl (z_iload 6 dX12_sureIn_75 rfl ?_))
          obtain ⟨oc30, w29, c30, H31⟩ := H28
          refine z_virt (As := [.int x4, .int x6]) (st := []) (r1 := (some (.int w29))) (h1 := (g, I, P)) dX12_sureIn_77 kX12_alikeOf wm_X12_294 ⟨by decide, by decide⟩ rfl rfl (Nat.le_of_ble_eq_true rfl) (by decide) (by decide) oc30 c30 ?_
          refine z_iconst (w := 1) dX12_sureIn_80 (by decide) (z_iadd dX12_sureIn_81 (z_istore (lv' := [(5, .int (w29 + 1)), (0, .ref a0), (1, .int x1), (2, .int x2), (3, .int x3), (4, .int x4), (6, .int x6)]) dX12_sureIn_82 (by decide) rfl (z_iinc (y := x6 + 1) (lv' := [(6, .int (x6 + 1)), (5, .int (w29 + 1)), (0, .ref a0), (1, .int x1), (2, .int x2), (3, .int x3), (4, .int x4)]) 6 dX12_sureIn_84 rfl rfl (by decide) rfl (z_goto (t := 32) dX12_sureIn_87 (by decide) ?_))))
          exact z_less [2, 3, 4, 5, 6, 1, 0] rfl H31
theorem dX12_sure_0 : decode cX12_sure 0 = .ok (.aload_n 0, 1) := by decide +kernel
theorem dX12_sure_1 : decode cX12_sure 1 = .ok (.iload_n 1, 1) := by decide +kernel
theorem dX12_sure_2 : decode cX12_sure 2 = .ok (.invokevirtual 196, 3) := by decide +kernel
theorem dX12_sure_5 : decode cX12_sure 5 = .ok (.ifCond .eq 12, 3) := by decide +kernel
theorem dX12_sure_8 : decode cX12_sure 8 = .ok (.aload_n 0, 1) := by decide +kernel
theorem dX12_sure_9 : decode cX12_sure 9 = .ok (.iload_n 2, 1) := by decide +kernel
theorem dX12_sure_10 : decode cX12_sure 10 = .ok (.iload_n 3, 1) := by decide +kernel
theorem dX12_sure_11 : decode cX12_sure 11 = .ok (.invokevirtual 272, 3) := by decide +kernel
theorem dX12_sure_14 : decode cX12_sure 14 = .ok (.ifCond .ne 7, 3) := by decide +kernel
theorem dX12_sure_17 : decode cX12_sure 17 = .ok (.ldc2_w 285, 3) := by decide +kernel
theorem dX12_sure_20 : decode cX12_sure 20 = .ok (.lreturn, 1) := by decide +kernel
theorem dX12_sure_21 : decode cX12_sure 21 = .ok (.aload_n 0, 1) := by decide +kernel
theorem dX12_sure_22 : decode cX12_sure 22 = .ok (.invokevirtual 278, 3) := by decide +kernel
theorem dX12_sure_25 : decode cX12_sure 25 = .ok (.istore 5, 2) := by decide +kernel
theorem dX12_sure_27 : decode cX12_sure 27 = .ok (.aload_n 0, 1) := by decide +kernel
theorem dX12_sure_28 : decode cX12_sure 28 = .ok (.iload 5, 2) := by decide +kernel
theorem dX12_sure_30 : decode cX12_sure 30 = .ok (.invokevirtual 287, 3) := by decide +kernel
theorem dX12_sure_33 : decode cX12_sure 33 = .ok (.ifCond .ne 9, 3) := by decide +kernel
theorem dX12_sure_36 : decode cX12_sure 36 = .ok (.ldc2_w 285, 3) := by decide +kernel
theorem dX12_sure_39 : decode cX12_sure 39 = .ok (.goto 26, 3) := by decide +kernel
theorem dX12_sure_42 : decode cX12_sure 42 = .ok (.aload_n 0, 1) := by decide +kernel
theorem dX12_sure_43 : decode cX12_sure 43 = .ok (.iload 5, 2) := by decide +kernel
theorem dX12_sure_45 : decode cX12_sure 45 = .ok (.aload_n 0, 1) := by decide +kernel
theorem dX12_sure_46 : decode cX12_sure 46 = .ok (.getfield 269, 3) := by decide +kernel
theorem dX12_sure_49 : decode cX12_sure 49 = .ok (.invokevirtual 297, 3) := by decide +kernel
theorem dX12_sure_52 : decode cX12_sure 52 = .ok (.i2l, 1) := by decide +kernel
theorem dX12_sure_53 : decode cX12_sure 53 = .ok (.aload_n 0, 1) := by decide +kernel
theorem dX12_sure_54 : decode cX12_sure 54 = .ok (.iload 5, 2) := by decide +kernel
theorem dX12_sure_56 : decode cX12_sure 56 = .ok (.invokevirtual 287, 3) := by decide +kernel
theorem dX12_sure_59 : decode cX12_sure 59 = .ok (.i2l, 1) := by decide +kernel
theorem dX12_sure_60 : decode cX12_sure 60 = .ok (.iload 4, 2) := by decide +kernel
theorem dX12_sure_62 : decode cX12_sure 62 = .ok (.invokestatic 290, 3) := by decide +kernel
theorem dX12_sure_65 : decode cX12_sure 65 = .ok (.lreturn, 1) := by decide +kernel
set_option maxRecDepth 10000 in
theorem wX12_sure_0 {g : zG} {I : Nat → Nat → Int32} {P : Nat → Nat → Option Nat} {r : Option Value} {h' : zH} {a0 : Nat} {x1 : Int32} {x2 : Int32} {x3 : Int32} {x4 : Int32} (H : zk g a0 12 ∧ ∃ (w1 : Int32) (I2 : Nat → Nat → Int32), Cl mX12_isHill [.ref a0, .int x1] (g, I, P) (some (.int w1)) (g, I2, P) ∧ ((w1 = 0) → r = some (.long (-1)) ∧ h' = (g, I2, P)) ∧ ((¬ w1 = 0) → zk g a0 12 ∧ ∃ (w7 : Int32) (I8 : Nat → Nat → Int32), Cl mX12_isLine [.ref a0, .int x2, .int x3] (g, I2, P) (some (.int w7)) (g, I8, P) ∧ ((¬ w7 = 0) → zk g a0 12 ∧ ∃ (w12 : Int32), Cl mX12_saidOf [.ref a0] (g, I8, P) (some (.int w12)) (g, I8, P) ∧ zk g a0 12 ∧ ∃ (w15 : Int32), Cl mX12_oftenIn [.ref a0, .int w12] (g, I8, P) (some (.int w15)) (g, I8, P) ∧ ((¬ w15 = 0) → zk g a0 12 ∧ zk g a0 12 ∧ ∃ (w19 : Int32), Cl mX12_sureIn [.ref a0, .int w12, .int (I8 a0 27)] (g, I8, P) (some (.int w19)) (g, I8, P) ∧ zk g a0 12 ∧ ∃ (w22 : Int32), Cl mX12_oftenIn [.ref a0, .int w12] (g, I8, P) (some (.int w22)) (g, I8, P) ∧ ∃ (w25 : Int64), Cl mX12_least [.long w19.toInt64, .long w22.toInt64, .int x4] (g, I8, P) (some (.long w25)) (g, I8, P) ∧ r = some (.long w25) ∧ h' = (g, I8, P)) ∧ ((w15 = 0) → r = some (.long (-1)) ∧ h' = (g, I8, P))) ∧ ((w7 = 0) → r = some (.long (-1)) ∧ h' = (g, I8, P)))) : Zt none mX12_sure 0 0 0 [(0, .ref a0), (1, .int x1), (2, .int x2), (3, .int x3), (4, .int x4)] [] (g, I, P) r h' := by
  refine z_aload_n 0 dX12_sure_0 rfl rfl (z_iload_n 1 dX12_sure_1 rfl ?_)
  obtain ⟨oc3, w1, I2, c3, H4⟩ := H
  refine z_virt (As := [.int x1]) (st := []) (r1 := (some (.int w1))) (h1 := (g, I2, P)) dX12_sure_2 kX12_isHill wm_X12_196 ⟨by decide, by decide⟩ rfl rfl (Nat.le_of_ble_eq_true rfl) (by decide) (by decide) oc3 c3 ?_
  refine z_if_eq (t := 17) dX12_sure_5 (by decide) (fun q => ?_) (fun q => ?_)
  · have H5 := H4.1 q
    refine z_ldc2 dX12_sure_17 wk_X12_285 ?_
    obtain ⟨rfl, rfl⟩ := H5
    exact z_lret dX12_sure_20 rfl (by decide) (by decide)
  · have H6 := H4.2 q
    refine z_aload_n 0 dX12_sure_8 rfl rfl (z_iload_n 2 dX12_sure_9 rfl (z_iload_n 3 dX12_sure_10 rfl ?_))
    obtain ⟨oc9, w7, I8, c9, H10⟩ := H6
    refine z_virt (As := [.int x2, .int x3]) (st := []) (r1 := (some (.int w7))) (h1 := (g, I8, P)) dX12_sure_11 kX12_isLine wm_X12_272 ⟨by decide, by decide⟩ rfl rfl (Nat.le_of_ble_eq_true rfl) (by decide) (by decide) oc9 c9 ?_
    refine z_if_ne (t := 21) dX12_sure_14 (by decide) (fun q => ?_) (fun q => ?_)
    · have H11 := H10.1 q
      refine z_aload_n 0 dX12_sure_21 rfl rfl ?_
      obtain ⟨oc13, w12, c13, H14⟩ := H11
      refine z_virt (As := []) (st := []) (r1 := (some (.int w12))) (h1 := (g, I8, P)) dX12_sure_22 kX12_saidOf wm_X12_278 ⟨by decide, by decide⟩ rfl rfl (Nat.le_of_ble_eq_true rfl) (by decide) (by decide) oc13 c13 ?_
      refine z_istore (lv' := [(5, .int w12), (0, .ref a0), (1, .int x1), (2, .int x2), (3, .int x3), (4, .int x4)]) dX12_sure_25 (by decide) rfl (z_aload_n 1 dX12_sure_27 rfl rfl (z_iload 0 dX12_sure_28 rfl ?_))
      obtain ⟨oc16, w15, c16, H17⟩ := H14
      refine z_virt (As := [.int w12]) (st := []) (r1 := (some (.int w15))) (h1 := (g, I8, P)) dX12_sure_30 kX12_oftenIn wm_X12_287 ⟨by decide, by decide⟩ rfl rfl (Nat.le_of_ble_eq_true rfl) (by decide) (by decide) oc16 c16 ?_
      refine z_if_ne (t := 42) dX12_sure_33 (by decide) (fun q => ?_) (fun q => ?_)
      · have H18 := H17.1 q
        refine z_aload_n 1 dX12_sure_42 rfl rfl (z_iload 0 dX12_sure_43 rfl (z_aload_n 1 dX12_sure_45 rfl rfl (z_getI dX12_sure_46 wf_X12_269 (by decide) (by decide) rfl H18.1 ?_)))
        obtain ⟨oc20, w19, c20, H21⟩ := H18.2
        refine z_virt (As := [.int w12, .int (I8 a0 27)]) (st := []) (r1 := (some (.int w19))) (h1 := (g, I8, P)) dX12_sure_49 kX12_sureIn wm_X12_297 ⟨by decide, by decide⟩ rfl rfl (Nat.le_of_ble_eq_true rfl) (by decide) (by decide) oc20 c20 ?_
        refine z_i2l dX12_sure_52 (z_aload_n 1 dX12_sure_53 rfl rfl (z_iload 0 dX12_sure_54 rfl ?_))
        obtain ⟨oc23, w22, c23, H24⟩ := H21
        refine z_virt (As := [.int w12]) (st := [.long w19.toInt64]) (r1 := (some (.int w22))) (h1 := (g, I8, P)) dX12_sure_56 kX12_oftenIn wm_X12_287 ⟨by decide, by decide⟩ rfl rfl (Nat.le_of_ble_eq_true rfl) (by decide) (by decide) oc23 c23 ?_
        refine z_i2l dX12_sure_59 (z_iload 5 dX12_sure_60 rfl ?_)
        obtain ⟨w25, c26, H27⟩ := H24
        refine z_stat (As := [.long w19.toInt64, .long w22.toInt64, .int x4]) (st := []) (r1 := (some (.long w25))) (h1 := (g, I8, P)) dX12_sure_62 kX12_least wm_X12_290 ⟨by decide, by decide⟩ rfl rfl (Nat.le_of_ble_eq_true rfl) (by decide) (by decide) c26 ?_
        obtain ⟨rfl, rfl⟩ := H27
        exact z_lret dX12_sure_65 rfl (by decide) (by decide)
      · have H28 := H17.2 q
        refine z_ldc2 dX12_sure_36 wk_X12_285 (z_goto (t := 65) dX12_sure_39 (by decide) ?_)
        obtain ⟨rfl, rfl⟩ := H28
        exact z_lret dX12_sure_65 rfl (by decide) (by decide)
    · have H29 := H10.2 q
      refine z_ldc2 dX12_sure_17 wk_X12_285 ?_
      obtain ⟨rfl, rfl⟩ := H29
      exact z_lret dX12_sure_20 rfl (by decide) (by decide)
theorem eX12_sure {g : zG} {I : Nat → Nat → Int32} {P : Nat → Nat → Option Nat} {r : Option Value} {h' : zH} {a0 : Nat} {x1 : Int32} {x2 : Int32} {x3 : Int32} {x4 : Int32} (H : Zt none mX12_sure 0 0 0 [(0, .ref a0), (1, .int x1), (2, .int x2), (3, .int x3), (4, .int x4)] [] (g, I, P) r h') : Cl mX12_sure [.ref a0, .int x1, .int x2, .int x3, .int x4] (g, I, P) r h' := Cl.of (by decide) (Nat.le_of_ble_eq_true rfl) H
theorem dX12_asked_0 : decode cX12_asked 0 = .ok (.aload_n 0, 1) := by decide +kernel
theorem dX12_asked_1 : decode cX12_asked 1 = .ok (.iload_n 1, 1) := by decide +kernel
theorem dX12_asked_2 : decode cX12_asked 2 = .ok (.invokevirtual 196, 3) := by decide +kernel
theorem dX12_asked_5 : decode cX12_asked 5 = .ok (.ifCond .eq 12, 3) := by decide +kernel
theorem dX12_asked_8 : decode cX12_asked 8 = .ok (.iload_n 2, 1) := by decide +kernel
theorem dX12_asked_9 : decode cX12_asked 9 = .ok (.iconst 0, 1) := by decide +kernel
theorem dX12_asked_10 : decode cX12_asked 10 = .ok (.iconst 5, 1) := by decide +kernel
theorem dX12_asked_11 : decode cX12_asked 11 = .ok (.invokestatic 120, 3) := by decide +kernel
theorem dX12_asked_14 : decode cX12_asked 14 = .ok (.ifCond .ne 7, 3) := by decide +kernel
theorem dX12_asked_17 : decode cX12_asked 17 = .ok (.ldc2_w 285, 3) := by decide +kernel
theorem dX12_asked_20 : decode cX12_asked 20 = .ok (.lreturn, 1) := by decide +kernel
theorem dX12_asked_21 : decode cX12_asked 21 = .ok (.aload_n 0, 1) := by decide +kernel
theorem dX12_asked_22 : decode cX12_asked 22 = .ok (.iload_n 2, 1) := by decide +kernel
theorem dX12_asked_23 : decode cX12_asked 23 = .ok (.invokevirtual 199, 3) := by decide +kernel
theorem dX12_asked_26 : decode cX12_asked 26 = .ok (.istore 4, 2) := by decide +kernel
theorem dX12_asked_28 : decode cX12_asked 28 = .ok (.aload_n 0, 1) := by decide +kernel
theorem dX12_asked_29 : decode cX12_asked 29 = .ok (.iload 4, 2) := by decide +kernel
theorem dX12_asked_31 : decode cX12_asked 31 = .ok (.invokevirtual 287, 3) := by decide +kernel
theorem dX12_asked_34 : decode cX12_asked 34 = .ok (.ifCond .ne 9, 3) := by decide +kernel
theorem dX12_asked_37 : decode cX12_asked 37 = .ok (.ldc2_w 285, 3) := by decide +kernel
theorem dX12_asked_40 : decode cX12_asked 40 = .ok (.goto 22, 3) := by decide +kernel
theorem dX12_asked_43 : decode cX12_asked 43 = .ok (.aload_n 0, 1) := by decide +kernel
theorem dX12_asked_44 : decode cX12_asked 44 = .ok (.iload 4, 2) := by decide +kernel
theorem dX12_asked_46 : decode cX12_asked 46 = .ok (.iconst 0, 1) := by decide +kernel
theorem dX12_asked_47 : decode cX12_asked 47 = .ok (.invokevirtual 297, 3) := by decide +kernel
theorem dX12_asked_50 : decode cX12_asked 50 = .ok (.i2l, 1) := by decide +kernel
theorem dX12_asked_51 : decode cX12_asked 51 = .ok (.aload_n 0, 1) := by decide +kernel
theorem dX12_asked_52 : decode cX12_asked 52 = .ok (.iload 4, 2) := by decide +kernel
theorem dX12_asked_54 : decode cX12_asked 54 = .ok (.invokevirtual 287, 3) := by decide +kernel
theorem dX12_asked_57 : decode cX12_asked 57 = .ok (.i2l, 1) := by decide +kernel
theorem dX12_asked_58 : decode cX12_asked 58 = .ok (.iload_n 3, 1) := by decide +kernel
theorem dX12_asked_59 : decode cX12_asked 59 = .ok (.invokestatic 290, 3) := by decide +kernel
theorem dX12_asked_62 : decode cX12_asked 62 = .ok (.lreturn, 1) := by decide +kernel
set_option maxRecDepth 10000 in
theorem wX12_asked_0 {g : zG} {I : Nat → Nat → Int32} {P : Nat → Nat → Option Nat} {r : Option Value} {h' : zH} {a0 : Nat} {x1 : Int32} {x2 : Int32} {x3 : Int32} (H : zk g a0 12 ∧ ∃ (w1 : Int32) (I2 : Nat → Nat → Int32), Cl mX12_isHill [.ref a0, .int x1] (g, I, P) (some (.int w1)) (g, I2, P) ∧ ((w1 = 0) → r = some (.long (-1)) ∧ h' = (g, I2, P)) ∧ ((¬ w1 = 0) → ∃ (w7 : Int32), Cl mX12_isIn [.int x2, .int 0, .int 5] (g, I2, P) (some (.int w7)) (g, I2, P) ∧ ((¬ w7 = 0) → zk g a0 12 ∧ ∃ (w11 : Int32), Cl mX12_answersTo [.ref a0, .int x2] (g, I2, P) (some (.int w11)) (g, I2, P) ∧ zk g a0 12 ∧ ∃ (w14 : Int32), Cl mX12_oftenIn [.ref a0, .int w11] (g, I2, P) (some (.int w14)) (g, I2, P) ∧ ((¬ w14 = 0) → zk g a0 12 ∧ ∃ (w18 : Int32), Cl mX12_sureIn [.ref a0, .int w11, .int 0] (g, I2, P) (some (.int w18)) (g, I2, P) ∧ zk g a0 12 ∧ ∃ (w21 : Int32), Cl mX12_oftenIn [.ref a0, .int w11] (g, I2, P) (some (.int w21)) (g, I2, P) ∧ ∃ (w24 : Int64), Cl mX12_least [.long w18.toInt64, .long w21.toInt64, .int x3] (g, I2, P) (some (.long w24)) (g, I2, P) ∧ r = some (.long w24) ∧ h' = (g, I2, P)) ∧ ((w14 = 0) → r = some (.long (-1)) ∧ h' = (g, I2, P))) ∧ ((w7 = 0) → r = some (.long (-1)) ∧ h' = (g, I2, P)))) : Zt none mX12_asked 0 0 0 [(0, .ref a0), (1, .int x1), (2, .int x2), (3, .int x3)] [] (g, I, P) r h' := by
  refine z_aload_n 0 dX12_asked_0 rfl rfl (z_iload_n 1 dX12_asked_1 rfl ?_)
  obtain ⟨oc3, w1, I2, c3, H4⟩ := H
  refine z_virt (As := [.int x1]) (st := []) (r1 := (some (.int w1))) (h1 := (g, I2, P)) dX12_asked_2 kX12_isHill wm_X12_196 ⟨by decide, by decide⟩ rfl rfl (Nat.le_of_ble_eq_true rfl) (by decide) (by decide) oc3 c3 ?_
  refine z_if_eq (t := 17) dX12_asked_5 (by decide) (fun q => ?_) (fun q => ?_)
  · have H5 := H4.1 q
    refine z_ldc2 dX12_asked_17 wk_X12_285 ?_
    obtain ⟨rfl, rfl⟩ := H5
    exact z_lret dX12_asked_20 rfl (by decide) (by decide)
  · have H6 := H4.2 q
    refine z_iload_n 2 dX12_asked_8 rfl (z_iconst (w := 0) dX12_asked_9 (by decide) (z_iconst (w := 5) dX12_asked_10 (by decide) ?_))
    obtain ⟨w7, c8, H9⟩ := H6
    refine z_stat (As := [.int x2, .int 0, .int 5]) (st := []) (r1 := (some (.int w7))) (h1 := (g, I2, P)) dX12_asked_11 kX12_isIn wm_X12_120 ⟨by decide, by decide⟩ rfl rfl (Nat.le_of_ble_eq_true rfl) (by decide) (by decide) c8 ?_
    refine z_if_ne (t := 21) dX12_asked_14 (by decide) (fun q => ?_) (fun q => ?_)
    · have H10 := H9.1 q
      refine z_aload_n 0 dX12_asked_21 rfl rfl (z_iload_n 2 dX12_asked_22 rfl ?_)
      obtain ⟨oc12, w11, c12, H13⟩ := H10
      refine z_virt (As := [.int x2]) (st := []) (r1 := (some (.int w11))) (h1 := (g, I2, P)) dX12_asked_23 kX12_answersTo wm_X12_199 ⟨by decide, by decide⟩ rfl rfl (Nat.le_of_ble_eq_true rfl) (by decide) (by decide) oc12 c12 ?_
      refine z_istore (lv' := [(4, .int w11), (0, .ref a0), (1, .int x1), (2, .int x2), (3, .int x3)]) dX12_asked_26 (by decide) rfl (z_aload_n 1 dX12_asked_28 rfl rfl (z_iload 0 dX12_asked_29 rfl ?_))
      obtain ⟨oc15, w14, c15, H16⟩ := H13
      refine z_virt (As := [.int w11]) (st := []) (r1 := (some (.int w14))) (h1 := (g, I2, P)) dX12_asked_31 kX12_oftenIn wm_X12_287 ⟨by decide, by decide⟩ rfl rfl (Nat.le_of_ble_eq_true rfl) (by decide) (by decide) oc15 c15 ?_
      refine z_if_ne (t := 43) dX12_asked_34 (by decide) (fun q => ?_) (fun q => ?_)
      · have H17 := H16.1 q
        refine z_aload_n 1 dX12_asked_43 rfl rfl (z_iload 0 dX12_asked_44 rfl (z_iconst (w := 0) dX12_asked_46 (by decide) ?_))
        obtain ⟨oc19, w18, c19, H20⟩ := H17
        refine z_virt (As := [.int w11, .int 0]) (st := []) (r1 := (some (.int w18))) (h1 := (g, I2, P)) dX12_asked_47 kX12_sureIn wm_X12_297 ⟨by decide, by decide⟩ rfl rfl (Nat.le_of_ble_eq_true rfl) (by decide) (by decide) oc19 c19 ?_
        refine z_i2l dX12_asked_50 (z_aload_n 1 dX12_asked_51 rfl rfl (z_iload 0 dX12_asked_52 rfl ?_))
        obtain ⟨oc22, w21, c22, H23⟩ := H20
        refine z_virt (As := [.int w11]) (st := [.long w18.toInt64]) (r1 := (some (.int w21))) (h1 := (g, I2, P)) dX12_asked_54 kX12_oftenIn wm_X12_287 ⟨by decide, by decide⟩ rfl rfl (Nat.le_of_ble_eq_true rfl) (by decide) (by decide) oc22 c22 ?_
        refine z_i2l dX12_asked_57 (z_iload_n 4 dX12_asked_58 rfl ?_)
        obtain ⟨w24, c25, H26⟩ := H23
        refine z_stat (As := [.long w18.toInt64, .long w21.toInt64, .int x3]) (st := []) (r1 := (some (.long w24))) (h1 := (g, I2, P)) dX12_asked_59 kX12_least wm_X12_290 ⟨by decide, by decide⟩ rfl rfl (Nat.le_of_ble_eq_true rfl) (by decide) (by decide) c25 ?_
        obtain ⟨rfl, rfl⟩ := H26
        exact z_lret dX12_asked_62 rfl (by decide) (by decide)
      · have H27 := H16.2 q
        refine z_ldc2 dX12_asked_37 wk_X12_285 (z_goto (t := 62) dX12_asked_40 (by decide) ?_)
        obtain ⟨rfl, rfl⟩ := H27
        exact z_lret dX12_asked_62 rfl (by decide) (by decide)
    · have H28 := H9.2 q
      refine z_ldc2 dX12_asked_17 wk_X12_285 ?_
      obtain ⟨rfl, rfl⟩ := H28
      exact z_lret dX12_asked_20 rfl (by decide) (by decide)
theorem eX12_asked {g : zG} {I : Nat → Nat → Int32} {P : Nat → Nat → Option Nat} {r : Option Value} {h' : zH} {a0 : Nat} {x1 : Int32} {x2 : Int32} {x3 : Int32} (H : Zt none mX12_asked 0 0 0 [(0, .ref a0), (1, .int x1), (2, .int x2), (3, .int x3)] [] (g, I, P) r h') : Cl mX12_asked [.ref a0, .int x1, .int x2, .int x3] (g, I, P) r h' := Cl.of (by decide) (Nat.le_of_ble_eq_true rfl) H
theorem dX12_soonest_0 : decode cX12_soonest 0 = .ok (.aload_n 0, 1) := by decide +kernel
theorem dX12_soonest_1 : decode cX12_soonest 1 = .ok (.iload_n 1, 1) := by decide +kernel
theorem dX12_soonest_2 : decode cX12_soonest 2 = .ok (.invokevirtual 196, 3) := by decide +kernel
theorem dX12_soonest_5 : decode cX12_soonest 5 = .ok (.ifCond .ne 5, 3) := by decide +kernel
theorem dX12_soonest_8 : decode cX12_soonest 8 = .ok (.iconst (-1), 1) := by decide +kernel
theorem dX12_soonest_9 : decode cX12_soonest 9 = .ok (.ireturn, 1) := by decide +kernel
theorem dX12_soonest_10 : decode cX12_soonest 10 = .ok (.iconst (-1), 1) := by decide +kernel
theorem dX12_soonest_11 : decode cX12_soonest 11 = .ok (.istore_n 2, 1) := by decide +kernel
theorem dX12_soonest_12 : decode cX12_soonest 12 = .ok (.iconst 0, 1) := by decide +kernel
theorem dX12_soonest_13 : decode cX12_soonest 13 = .ok (.istore_n 3, 1) := by decide +kernel
theorem dX12_soonest_14 : decode cX12_soonest 14 = .ok (.iload_n 3, 1) := by decide +kernel
theorem dX12_soonest_15 : decode cX12_soonest 15 = .ok (.bipush 6, 2) := by decide +kernel
theorem dX12_soonest_17 : decode cX12_soonest 17 = .ok (.if_icmp .ge 72, 3) := by decide +kernel
theorem dX12_soonest_20 : decode cX12_soonest 20 = .ok (.aload_n 0, 1) := by decide +kernel
theorem dX12_soonest_21 : decode cX12_soonest 21 = .ok (.iload_n 3, 1) := by decide +kernel
theorem dX12_soonest_22 : decode cX12_soonest 22 = .ok (.invokevirtual 199, 3) := by decide +kernel
theorem dX12_soonest_25 : decode cX12_soonest 25 = .ok (.istore 4, 2) := by decide +kernel
theorem dX12_soonest_27 : decode cX12_soonest 27 = .ok (.aload_n 0, 1) := by decide +kernel
theorem dX12_soonest_28 : decode cX12_soonest 28 = .ok (.iload 4, 2) := by decide +kernel
theorem dX12_soonest_30 : decode cX12_soonest 30 = .ok (.invokevirtual 287, 3) := by decide +kernel
theorem dX12_soonest_33 : decode cX12_soonest 33 = .ok (.ifCond .ne 6, 3) := by decide +kernel
theorem dX12_soonest_36 : decode cX12_soonest 36 = .ok (.goto 47, 3) := by decide +kernel
theorem dX12_soonest_39 : decode cX12_soonest 39 = .ok (.iload_n 2, 1) := by decide +kernel
theorem dX12_soonest_40 : decode cX12_soonest 40 = .ok (.iconst (-1), 1) := by decide +kernel
theorem dX12_soonest_41 : decode cX12_soonest 41 = .ok (.if_icmp .eq 40, 3) := by decide +kernel
theorem dX12_soonest_44 : decode cX12_soonest 44 = .ok (.aload_n 0, 1) := by decide +kernel
theorem dX12_soonest_45 : decode cX12_soonest 45 = .ok (.iload 4, 2) := by decide +kernel
theorem dX12_soonest_47 : decode cX12_soonest 47 = .ok (.iconst 0, 1) := by decide +kernel
theorem dX12_soonest_48 : decode cX12_soonest 48 = .ok (.invokevirtual 297, 3) := by decide +kernel
theorem dX12_soonest_51 : decode cX12_soonest 51 = .ok (.aload_n 0, 1) := by decide +kernel
theorem dX12_soonest_52 : decode cX12_soonest 52 = .ok (.aload_n 0, 1) := by decide +kernel
theorem dX12_soonest_53 : decode cX12_soonest 53 = .ok (.iload_n 2, 1) := by decide +kernel
theorem dX12_soonest_54 : decode cX12_soonest 54 = .ok (.invokevirtual 199, 3) := by decide +kernel
theorem dX12_soonest_57 : decode cX12_soonest 57 = .ok (.invokevirtual 287, 3) := by decide +kernel
theorem dX12_soonest_60 : decode cX12_soonest 60 = .ok (.imul, 1) := by decide +kernel
theorem dX12_soonest_61 : decode cX12_soonest 61 = .ok (.aload_n 0, 1) := by decide +kernel
theorem dX12_soonest_62 : decode cX12_soonest 62 = .ok (.aload_n 0, 1) := by decide +kernel
theorem dX12_soonest_63 : decode cX12_soonest 63 = .ok (.iload_n 2, 1) := by decide +kernel
theorem dX12_soonest_64 : decode cX12_soonest 64 = .ok (.invokevirtual 199, 3) := by decide +kernel
theorem dX12_soonest_67 : decode cX12_soonest 67 = .ok (.iconst 0, 1) := by decide +kernel
theorem dX12_soonest_68 : decode cX12_soonest 68 = .ok (.invokevirtual 297, 3) := by decide +kernel
theorem dX12_soonest_71 : decode cX12_soonest 71 = .ok (.aload_n 0, 1) := by decide +kernel
theorem dX12_soonest_72 : decode cX12_soonest 72 = .ok (.iload 4, 2) := by decide +kernel
theorem dX12_soonest_74 : decode cX12_soonest 74 = .ok (.invokevirtual 287, 3) := by decide +kernel
theorem dX12_soonest_77 : decode cX12_soonest 77 = .ok (.imul, 1) := by decide +kernel
theorem dX12_soonest_78 : decode cX12_soonest 78 = .ok (.if_icmp .ge 5, 3) := by decide +kernel
theorem dX12_soonest_81 : decode cX12_soonest 81 = .ok (.iload_n 3, 1) := by decide +kernel
theorem dX12_soonest_82 : decode cX12_soonest 82 = .ok (.istore_n 2, 1) := by decide +kernel
theorem dX12_soonest_83 : decode cX12_soonest 83 = .ok (.iinc 3 1, 3) := by decide +kernel
theorem dX12_soonest_86 : decode cX12_soonest 86 = .ok (.goto (-72), 3) := by decide +kernel
theorem dX12_soonest_89 : decode cX12_soonest 89 = .ok (.iload_n 2, 1) := by decide +kernel
theorem dX12_soonest_90 : decode cX12_soonest 90 = .ok (.ireturn, 1) := by decide +kernel
set_option maxRecDepth 10000 in
theorem wX12_soonest_0 {g : zG} {I : Nat → Nat → Int32} {P : Nat → Nat → Option Nat} {r : Option Value} {h' : zH} {a0 : Nat} {x1 : Int32} (H : zk g a0 12 ∧ ∃ (w1 : Int32) (I2 : Nat → Nat → Int32), Cl mX12_isHill [.ref a0, .int x1] (g, I, P) (some (.int w1)) (g, I2, P) ∧ ((¬ w1 = 0) → Zt none mX12_soonest 0 0 14 [(0, .ref a0), (2, .int (-1)), (3, .int 0)] [] (g, I2, P) r h') ∧ ((w1 = 0) → r = some (.int (-1)) ∧ h' = (g, I2, P))) : Zt none mX12_soonest 0 0 0 [(0, .ref a0), (1, .int x1)] [] (g, I, P) r h' := by
  refine z_aload_n 0 dX12_soonest_0 rfl rfl (z_iload_n 1 dX12_soonest_1 rfl ?_)
  obtain ⟨oc3, w1, I2, c3, H4⟩ := H
  refine z_virt (As := [.int x1]) (st := []) (r1 := (some (.int w1))) (h1 := (g, I2, P)) dX12_soonest_2 kX12_isHill wm_X12_196 ⟨by decide, by decide⟩ rfl rfl (Nat.le_of_ble_eq_true rfl) (by decide) (by decide) oc3 c3 ?_
  refine z_if_ne (t := 10) dX12_soonest_5 (by decide) (fun q => ?_) (fun q => ?_)
  · have H5 := H4.1 q
    refine z_iconst (w := (-1)) dX12_soonest_10 (by decide) (z_istore_n (lv' := [(2, .int (-1)), (0, .ref a0), (1, .int x1)]) dX12_soonest_11 (by decide) rfl (z_iconst (w := 0) dX12_soonest_12 (by decide) (z_istore_n (lv' := [(3, .int 0), (2, .int (-1)), (0, .ref a0), (1, .int x1)]) dX12_soonest_13 (by decide) rfl ?_)))
    exact z_less [2, 1, 0] rfl H5
  · have H6 := H4.2 q
    refine z_iconst (w := (-1)) dX12_soonest_8 (by decide) ?_
    obtain ⟨rfl, rfl⟩ := H6
    exact z_iret dX12_soonest_9 rfl (by decide) (by decide)
theorem eX12_soonest {g : zG} {I : Nat → Nat → Int32} {P : Nat → Nat → Option Nat} {r : Option Value} {h' : zH} {a0 : Nat} {x1 : Int32} (H : Zt none mX12_soonest 0 0 0 [(0, .ref a0), (1, .int x1)] [] (g, I, P) r h') : Cl mX12_soonest [.ref a0, .int x1] (g, I, P) r h' := Cl.of (by decide) (Nat.le_of_ble_eq_true rfl) H
set_option maxRecDepth 10000 in
theorem wX12_soonest_14 {g : zG} {I : Nat → Nat → Int32} {P : Nat → Nat → Option Nat} {r : Option Value} {h' : zH} {a0 : Nat} {x2 : Int32} {x3 : Int32} (H : ((6 ≤ x3) → r = some (.int x2) ∧ h' = (g, I, P)) ∧ ((¬ 6 ≤ x3) → zk g a0 12 ∧ ∃ (w3 : Int32), Cl mX12_answersTo [.ref a0, .int x3] (g, I, P) (some (.int w3)) (g, I, P) ∧ zk g a0 12 ∧ ∃ (w6 : Int32), Cl mX12_oftenIn [.ref a0, .int w3] (g, I, P) (some (.int w6)) (g, I, P) ∧ ((¬ w6 = 0) → ((x2 = (-1)) → Zt none mX12_soonest 0 0 14 [(0, .ref a0), (2, .int x3), (3, .int (x3 + 1))] [] (g, I, P) r h') ∧ ((¬ x2 = (-1)) → zk g a0 12 ∧ ∃ (w12 : Int32), Cl mX12_sureIn [.ref a0, .int w3, .int 0] (g, I, P) (some (.int w12)) (g, I, P) ∧ zk g a0 12 ∧ ∃ (w15 : Int32), Cl mX12_answersTo [.ref a0, .int x2] (g, I, P) (some (.int w15)) (g, I, P) ∧ zk g a0 12 ∧ ∃ (w18 : Int32), Cl mX12_oftenIn [.ref a0, .int w15] (g, I, P) (some (.int w18)) (g, I, P) ∧ zk g a0 12 ∧ ∃ (w21 : Int32), Cl mX12_answersTo [.ref a0, .int x2] (g, I, P) (some (.int w21)) (g, I, P) ∧ zk g a0 12 ∧ ∃ (w24 : Int32), Cl mX12_sureIn [.ref a0, .int w21, .int 0] (g, I, P) (some (.int w24)) (g, I, P) ∧ zk g a0 12 ∧ ∃ (w27 : Int32), Cl mX12_oftenIn [.ref a0, .int w3] (g, I, P) (some (.int w27)) (g, I, P) ∧ ((w24 * w27 ≤ w12 * w18) → Zt none mX12_soonest 0 0 14 [(0, .ref a0), (2, .int x2), (3, .int (x3 + 1))] [] (g, I, P) r h') ∧ ((¬ w24 * w27 ≤ w12 * w18) → Zt none mX12_soonest 0 0 14 [(0, .ref a0), (2, .int x3), (3, .int (x3 + 1))] [] (g, I, P) r h'))) ∧ ((w6 = 0) → Zt none mX12_soonest 0 0 14 [(0, .ref a0), (2, .int x2), (3, .int (x3 + 1))] [] (g, I, P) r h'))) : Zt none mX12_soonest 0 0 14 [(0, .ref a0), (2, .int x2), (3, .int x3)] [] (g, I, P) r h' := by
  refine z_iload_n 2 dX12_soonest_14 rfl (z_bipush (w := 6) dX12_soonest_15 (by decide) ?_)
  refine z_icmp_ge (t := 89) dX12_soonest_17 (by decide) (fun q => ?_) (fun q => ?_)
  · have H1 := H.1 q
    refine z_iload_n 1 dX12_soonest_89 rfl ?_
    obtain ⟨rfl, rfl⟩ := H1
    exact z_iret dX12_soonest_90 rfl (by decide) (by decide)
  · have H2 := H.2 q
    refine z_aload_n 0 dX12_soonest_20 rfl rfl (z_iload_n 2 dX12_soonest_21 rfl ?_)
    obtain ⟨oc4, w3, c4, H5⟩ := H2
    refine z_virt (As := [.int x3]) (st := []) (r1 := (some (.int w3))) (h1 := (g, I, P)) dX12_soonest_22 kX12_answersTo wm_X12_199 ⟨by decide, by decide⟩ rfl rfl (Nat.le_of_ble_eq_true rfl) (by decide) (by decide) oc4 c4 ?_
    refine z_istore (lv' := [(4, .int w3), (0, .ref a0), (2, .int x2), (3, .int x3)]) dX12_soonest_25 (by decide) rfl (z_aload_n 1 dX12_soonest_27 rfl rfl (z_iload 0 dX12_soonest_28 rfl ?_))
    obtain ⟨oc7, w6, c7, H8⟩ := H5
    refine z_virt (As := [.int w3]) (st := []) (r1 := (some (.int w6))) (h1 := (g, I, P)) dX12_soonest_30 kX12_oftenIn wm_X12_287 ⟨by decide, by decide⟩ rfl rfl (Nat.le_of_ble_eq_true rfl) (by decide) (by decide) oc7 c7 ?_
    refine z_if_ne (t := 39) dX12_soonest_33 (by decide) (fun q => ?_) (fun q => ?_)
    · have H9 := H8.1 q
      refine z_iload_n 2 dX12_soonest_39 rfl (z_iconst (w := (-1)) dX12_soonest_40 (by decide) ?_)
      refine z_icmp_eq (t := 81) dX12_soonest_41 (by decide) (fun q => ?_) (fun q => ?_)
      · have H10 := H9.1 q
        refine z_iload_n 3 dX12_soonest_81 rfl (z_istore_n (lv' := [(2, .int x3), (4, .int w3), (0, .ref a0), (3, .int x3)]) dX12_soonest_82 (by decide) rfl (z_iinc (y := x3 + 1) (lv' := [(3, .int (x3 + 1)), (2, .int x3), (4, .int w3), (0, .ref a0)]) 3 dX12_soonest_83 rfl rfl (by decide) rfl (z_goto (t := 14) dX12_soonest_86 (by decide) ?_)))
        exact z_less [3, 1, 0] rfl H10
      · have H11 := H9.2 q
        refine z_aload_n 1 dX12_soonest_44 rfl rfl (z_iload 0 dX12_soonest_45 rfl (z_iconst (w := 0) dX12_soonest_47 (by decide) ?_))
        obtain ⟨oc13, w12, c13, H14⟩ := H11
        refine z_virt (As := [.int w3, .int 0]) (st := []) (r1 := (some (.int w12))) (h1 := (g, I, P)) dX12_soonest_48 kX12_sureIn wm_X12_297 ⟨by decide, by decide⟩ rfl rfl (Nat.le_of_ble_eq_true rfl) (by decide) (by decide) oc13 c13 ?_
        refine z_aload_n 1 dX12_soonest_51 rfl rfl (z_aload_n 1 dX12_soonest_52 rfl rfl (z_iload_n 2 dX12_soonest_53 rfl ?_))
        obtain ⟨oc16, w15, c16, H17⟩ := H14
        refine z_virt (As := [.int x2]) (st := [.ref a0, .int w12]) (r1 := (some (.int w15))) (h1 := (g, I, P)) dX12_soonest_54 kX12_answersTo wm_X12_199 ⟨by decide, by decide⟩ rfl rfl (Nat.le_of_ble_eq_true rfl) (by decide) (by decide) oc16 c16 ?_
        obtain ⟨oc19, w18, c19, H20⟩ := H17
        refine z_virt (As := [.int w15]) (st := [.int w12]) (r1 := (some (.int w18))) (h1 := (g, I, P)) dX12_soonest_57 kX12_oftenIn wm_X12_287 ⟨by decide, by decide⟩ rfl rfl (Nat.le_of_ble_eq_true rfl) (by decide) (by decide) oc19 c19 ?_
        refine z_imul dX12_soonest_60 (z_aload_n 1 dX12_soonest_61 rfl rfl (z_aload_n 1 dX12_soonest_62 rfl rfl (z_iload_n 2 dX12_soonest_63 rfl ?_)))
        obtain ⟨oc22, w21, c22, H23⟩ := H20
        refine z_virt (As := [.int x2]) (st := [.ref a0, .int (w12 * w18)]) (r1 := (some (.int w21))) (h1 := (g, I, P)) dX12_soonest_64 kX12_answersTo wm_X12_199 ⟨by decide, by decide⟩ rfl rfl (Nat.le_of_ble_eq_true rfl) (by decide) (by decide) oc22 c22 ?_
        refine z_iconst (w := 0) dX12_soonest_67 (by decide) ?_
        obtain ⟨oc25, w24, c25, H26⟩ := H23
        refine z_virt (As := [.int w21, .int 0]) (st := [.int (w12 * w18)]) (r1 := (some (.int w24))) (h1 := (g, I, P)) dX12_soonest_68 kX12_sureIn wm_X12_297 ⟨by decide, by decide⟩ rfl rfl (Nat.le_of_ble_eq_true rfl) (by decide) (by decide) oc25 c25 ?_
        refine z_aload_n 1 dX12_soonest_71 rfl rfl (z_iload 0 dX12_soonest_72 rfl ?_)
        obtain ⟨oc28, w27, c28, H29⟩ := H26
        refine z_virt (As := [.int w3]) (st := [.int w24, .int (w12 * w18)]) (r1 := (some (.int w27))) (h1 := (g, I, P)) dX12_soonest_74 kX12_oftenIn wm_X12_287 ⟨by decide, by decide⟩ rfl rfl (Nat.le_of_ble_eq_true rfl) (by decide) (by decide) oc28 c28 ?_
        refine z_imul dX12_soonest_77 ?_
        refine z_icmp_ge (t := 83) dX12_soonest_78 (by decide) (fun q => ?_) (fun q => ?_)
        · have H30 := H29.1 q
          refine z_iinc (y := x3 + 1) (lv' := [(3, .int (x3 + 1)), (4, .int w3), (0, .ref a0), (2, .int x2)]) 3 dX12_soonest_83 rfl rfl (by decide) rfl (z_goto (t := 14) dX12_soonest_86 (by decide) ?_)
          exact z_less [2, 3, 0] rfl H30
        · have H31 := H29.2 q
          refine z_iload_n 3 dX12_soonest_81 rfl (z_istore_n (lv' := [(2, .int x3), (4, .int w3), (0, .ref a0), (3, .int x3)]) dX12_soonest_82 (by decide) rfl (z_iinc (y := x3 + 1) (lv' := [(3, .int (x3 + 1)), (2, .int x3), (4, .int w3), (0, .ref a0)]) 3 dX12_soonest_83 rfl rfl (by decide) rfl (z_goto (t := 14) dX12_soonest_86 (by decide) ?_)))
          exact z_less [3, 1, 0] rfl H31
    · have H32 := H8.2 q
      refine z_goto (t := 83) dX12_soonest_36 (by decide) (z_iinc (y := x3 + 1) (lv' := [(3, .int (x3 + 1)), (4, .int w3), (0, .ref a0), (2, .int x2)]) 3 dX12_soonest_83 rfl rfl (by decide) rfl (z_goto (t := 14) dX12_soonest_86 (by decide) ?_))
      exact z_less [2, 3, 0] rfl H32
theorem dX12_unlike_0 : decode cX12_unlike 0 = .ok (.iload_n 2, 1) := by decide +kernel
theorem dX12_unlike_1 : decode cX12_unlike 1 = .ok (.aload_n 0, 1) := by decide +kernel
theorem dX12_unlike_2 : decode cX12_unlike 2 = .ok (.iload_n 1, 1) := by decide +kernel
theorem dX12_unlike_3 : decode cX12_unlike 3 = .ok (.invokevirtual 205, 3) := by decide +kernel
theorem dX12_unlike_6 : decode cX12_unlike 6 = .ok (.iadd, 1) := by decide +kernel
theorem dX12_unlike_7 : decode cX12_unlike 7 = .ok (.aload_n 0, 1) := by decide +kernel
theorem dX12_unlike_8 : decode cX12_unlike 8 = .ok (.getfield 269, 3) := by decide +kernel
theorem dX12_unlike_11 : decode cX12_unlike 11 = .ok (.if_icmp .le 7, 3) := by decide +kernel
theorem dX12_unlike_14 : decode cX12_unlike 14 = .ok (.sipush 9999, 3) := by decide +kernel
theorem dX12_unlike_17 : decode cX12_unlike 17 = .ok (.ireturn, 1) := by decide +kernel
theorem dX12_unlike_18 : decode cX12_unlike 18 = .ok (.iconst 0, 1) := by decide +kernel
theorem dX12_unlike_19 : decode cX12_unlike 19 = .ok (.istore_n 3, 1) := by decide +kernel
theorem dX12_unlike_20 : decode cX12_unlike 20 = .ok (.iconst 0, 1) := by decide +kernel
theorem dX12_unlike_21 : decode cX12_unlike 21 = .ok (.istore 4, 2) := by decide +kernel
theorem dX12_unlike_23 : decode cX12_unlike 23 = .ok (.iload 4, 2) := by decide +kernel
theorem dX12_unlike_25 : decode cX12_unlike 25 = .ok (.aload_n 0, 1) := by decide +kernel
theorem dX12_unlike_26 : decode cX12_unlike 26 = .ok (.iload_n 1, 1) := by decide +kernel
theorem dX12_unlike_27 : decode cX12_unlike 27 = .ok (.invokevirtual 205, 3) := by decide +kernel
theorem dX12_unlike_30 : decode cX12_unlike 30 = .ok (.if_icmp .ge 35, 3) := by decide +kernel
theorem dX12_unlike_33 : decode cX12_unlike 33 = .ok (.iload_n 3, 1) := by decide +kernel
theorem dX12_unlike_34 : decode cX12_unlike 34 = .ok (.aload_n 0, 1) := by decide +kernel
theorem dX12_unlike_35 : decode cX12_unlike 35 = .ok (.iload_n 1, 1) := by decide +kernel
theorem dX12_unlike_36 : decode cX12_unlike 36 = .ok (.iload 4, 2) := by decide +kernel
theorem dX12_unlike_38 : decode cX12_unlike 38 = .ok (.invokevirtual 214, 3) := by decide +kernel
theorem dX12_unlike_41 : decode cX12_unlike 41 = .ok (.aload_n 0, 1) := by decide +kernel
theorem dX12_unlike_42 : decode cX12_unlike 42 = .ok (.iload_n 2, 1) := by decide +kernel
theorem dX12_unlike_43 : decode cX12_unlike 43 = .ok (.iload 4, 2) := by decide +kernel
theorem dX12_unlike_45 : decode cX12_unlike 45 = .ok (.iadd, 1) := by decide +kernel
theorem dX12_unlike_46 : decode cX12_unlike 46 = .ok (.invokevirtual 275, 3) := by decide +kernel
theorem dX12_unlike_49 : decode cX12_unlike 49 = .ok (.if_icmp .ne 7, 3) := by decide +kernel
theorem dX12_unlike_52 : decode cX12_unlike 52 = .ok (.iconst 0, 1) := by decide +kernel
theorem dX12_unlike_53 : decode cX12_unlike 53 = .ok (.goto 4, 3) := by decide +kernel
theorem dX12_unlike_56 : decode cX12_unlike 56 = .ok (.iconst 1, 1) := by decide +kernel
theorem dX12_unlike_57 : decode cX12_unlike 57 = .ok (.iadd, 1) := by decide +kernel
theorem dX12_unlike_58 : decode cX12_unlike 58 = .ok (.istore_n 3, 1) := by decide +kernel
theorem dX12_unlike_59 : decode cX12_unlike 59 = .ok (.iinc 4 1, 3) := by decide +kernel
theorem dX12_unlike_62 : decode cX12_unlike 62 = .ok (.goto (-39), 3) := by decide +kernel
theorem dX12_unlike_65 : decode cX12_unlike 65 = .ok (.iload_n 3, 1) := by decide +kernel
theorem dX12_unlike_66 : decode cX12_unlike 66 = .ok (.ireturn, 1) := by decide +kernel
set_option maxRecDepth 10000 in
theorem wX12_unlike_0 {g : zG} {I : Nat → Nat → Int32} {P : Nat → Nat → Option Nat} {r : Option Value} {h' : zH} {a0 : Nat} {x1 : Int32} {x2 : Int32} (H : zk g a0 12 ∧ ∃ (w1 : Int32), Cl mX12_longOf [.ref a0, .int x1] (g, I, P) (some (.int w1)) (g, I, P) ∧ zk g a0 12 ∧ ((x2 + w1 ≤ I a0 27) → Zt none mX12_unlike 0 0 23 [(0, .ref a0), (1, .int x1), (2, .int x2), (3, .int 0), (4, .int 0)] [] (g, I, P) r h') ∧ ((¬ x2 + w1 ≤ I a0 27) → r = some (.int 9999) ∧ h' = (g, I, P))) : Zt none mX12_unlike 0 0 0 [(0, .ref a0), (1, .int x1), (2, .int x2)] [] (g, I, P) r h' := by
  refine z_iload_n 2 dX12_unlike_0 rfl (z_aload_n 0 dX12_unlike_1 rfl rfl (z_iload_n 1 dX12_unlike_2 rfl ?_))
  obtain ⟨oc2, w1, c2, H3⟩ := H
  refine z_virt (As := [.int x1]) (st := [.int x2]) (r1 := (some (.int w1))) (h1 := (g, I, P)) dX12_unlike_3 kX12_longOf wm_X12_205 ⟨by decide, by decide⟩ rfl rfl (Nat.le_of_ble_eq_true rfl) (by decide) (by decide) oc2 c2 ?_
  refine z_iadd dX12_unlike_6 (z_aload_n 0 dX12_unlike_7 rfl rfl (z_getI dX12_unlike_8 wf_X12_269 (by decide) (by decide) rfl H3.1 ?_))
  refine z_icmp_le (t := 18) dX12_unlike_11 (by decide) (fun q => ?_) (fun q => ?_)
  · have H4 := H3.2.1 q
    refine z_iconst (w := 0) dX12_unlike_18 (by decide) (z_istore_n (lv' := [(3, .int 0), (0, .ref a0), (1, .int x1), (2, .int x2)]) dX12_unlike_19 (by decide) rfl (z_iconst (w := 0) dX12_unlike_20 (by decide) (z_istore (lv' := [(4, .int 0), (3, .int 0), (0, .ref a0), (1, .int x1), (2, .int x2)]) dX12_unlike_21 (by decide) rfl ?_)))
    exact z_less [2, 3, 4, 1, 0] rfl H4
  · have H5 := H3.2.2 q
    refine z_sipush (w := 9999) dX12_unlike_14 (by decide) ?_
    obtain ⟨rfl, rfl⟩ := H5
    exact z_iret dX12_unlike_17 rfl (by decide) (by decide)
theorem eX12_unlike {g : zG} {I : Nat → Nat → Int32} {P : Nat → Nat → Option Nat} {r : Option Value} {h' : zH} {a0 : Nat} {x1 : Int32} {x2 : Int32} (H : Zt none mX12_unlike 0 0 0 [(0, .ref a0), (1, .int x1), (2, .int x2)] [] (g, I, P) r h') : Cl mX12_unlike [.ref a0, .int x1, .int x2] (g, I, P) r h' := Cl.of (by decide) (Nat.le_of_ble_eq_true rfl) H
set_option maxRecDepth 10000 in
theorem wX12_unlike_23 {g : zG} {I : Nat → Nat → Int32} {P : Nat → Nat → Option Nat} {r : Option Value} {h' : zH} {a0 : Nat} {x1 : Int32} {x2 : Int32} {x3 : Int32} {x4 : Int32} (H : zk g a0 12 ∧ ∃ (w1 : Int32), Cl mX12_longOf [.ref a0, .int x1] (g, I, P) (some (.int w1)) (g, I, P) ∧ ((w1 ≤ x4) → r = some (.int x3) ∧ h' = (g, I, P)) ∧ ((¬ w1 ≤ x4) → zk g a0 12 ∧ ∃ (w6 : Int32), Cl mX12_letterOf [.ref a0, .int x1, .int x4] (g, I, P) (some (.int w6)) (g, I, P) ∧ zk g a0 12 ∧ ∃ (w9 : Int32), Cl mX12_inLine [.ref a0, .int (x2 + x4)] (g, I, P) (some (.int w9)) (g, I, P) ∧ ((¬ w6 = w9) → Zt none mX12_unlike 0 0 23 [(0, .ref a0), (1, .int x1), (2, .int x2), (3, .int (x3 + 1)), (4, .int (x4 + 1))] [] (g, I, P) r h') ∧ ((w6 = w9) → Zt none mX12_unlike 0 0 23 [(0, .ref a0), (1, .int x1), (2, .int x2), (3, .int (x3 + 0)), (4, .int (x4 + 1))] [] (g, I, P) r h'))) : Zt none mX12_unlike 0 0 23 [(0, .ref a0), (1, .int x1), (2, .int x2), (3, .int x3), (4, .int x4)] [] (g, I, P) r h' := by
  refine z_iload 4 dX12_unlike_23 rfl (z_aload_n 0 dX12_unlike_25 rfl rfl (z_iload_n 1 dX12_unlike_26 rfl ?_))
  obtain ⟨oc2, w1, c2, H3⟩ := H
  refine z_virt (As := [.int x1]) (st := [.int x4]) (r1 := (some (.int w1))) (h1 := (g, I, P)) dX12_unlike_27 kX12_longOf wm_X12_205 ⟨by decide, by decide⟩ rfl rfl (Nat.le_of_ble_eq_true rfl) (by decide) (by decide) oc2 c2 ?_
  refine z_icmp_ge (t := 65) dX12_unlike_30 (by decide) (fun q => ?_) (fun q => ?_)
  · have H4 := H3.1 q
    refine z_iload_n 3 dX12_unlike_65 rfl ?_
    obtain ⟨rfl, rfl⟩ := H4
    exact z_iret dX12_unlike_66 rfl (by decide) (by decide)
  · have H5 := H3.2 q
    refine z_iload_n 3 dX12_unlike_33 rfl (z_aload_n 0 dX12_unlike_34 rfl rfl (z_iload_n 1 dX12_unlike_35 rfl (z_iload 4 dX12_unlike_36 rfl ?_)))
    obtain ⟨oc7, w6, c7, H8⟩ := H5
    refine z_virt (As := [.int x1, .int x4]) (st := [.int x3]) (r1 := (some (.int w6))) (h1 := (g, I, P)) dX12_unlike_38 kX12_letterOf wm_X12_214 ⟨by decide, by decide⟩ rfl rfl (Nat.le_of_ble_eq_true rfl) (by decide) (by decide) oc7 c7 ?_
    refine z_aload_n 0 dX12_unlike_41 rfl rfl (z_iload_n 2 dX12_unlike_42 rfl (z_iload 4 dX12_unlike_43 rfl (z_iadd dX12_unlike_45 ?_)))
    obtain ⟨oc10, w9, c10, H11⟩ := H8
    refine z_virt (As := [.int (x2 + x4)]) (st := [.int w6, .int x3]) (r1 := (some (.int w9))) (h1 := (g, I, P)) dX12_unlike_46 kX12_inLine wm_X12_275 ⟨by decide, by decide⟩ rfl rfl (Nat.le_of_ble_eq_true rfl) (by decide) (by decide) oc10 c10 ?_
    refine z_icmp_ne (t := 56) dX12_unlike_49 (by decide) (fun q => ?_) (fun q => ?_)
    · have H12 := H11.1 q
      refine z_iconst (w := 1) dX12_unlike_56 (by decide) (z_iadd dX12_unlike_57 (z_istore_n (lv' := [(3, .int (x3 + 1)), (0, .ref a0), (1, .int x1), (2, .int x2), (4, .int x4)]) dX12_unlike_58 (by decide) rfl (z_iinc (y := x4 + 1) (lv' := [(4, .int (x4 + 1)), (3, .int (x3 + 1)), (0, .ref a0), (1, .int x1), (2, .int x2)]) 4 dX12_unlike_59 rfl rfl (by decide) rfl (z_goto (t := 23) dX12_unlike_62 (by decide) ?_))))
      exact z_less [2, 3, 4, 1, 0] rfl H12
    · have H13 := H11.2 q
      refine z_iconst (w := 0) dX12_unlike_52 (by decide) (z_goto (t := 57) dX12_unlike_53 (by decide) (z_iadd dX12_unlike_57 (z_istore_n (lv' := [(3, .int (x3 + 0)), (0, .ref a0), (1, .int x1), (2, .int x2), (4, .int x4)]) dX12_unlike_58 (by decide) rfl (z_iinc (y := x4 + 1) (lv' := [(4, .int (x4 + 1)), (3, .int (x3 + 0)), (0, .ref a0), (1, .int x1), (2, .int x2)]) 4 dX12_unlike_59 rfl rfl (by decide) rfl (z_goto (t := 23) dX12_unlike_62 (by decide) ?_)))))
      exact z_less [2, 3, 4, 1, 0] rfl H13
theorem dX12_laysReadings_0 : decode cX12_laysReadings 0 = .ok (.aload_n 0, 1) := by decide +kernel
theorem dX12_laysReadings_1 : decode cX12_laysReadings 1 = .ok (.getfield 269, 3) := by decide +kernel
theorem dX12_laysReadings_4 : decode cX12_laysReadings 4 = .ok (.istore_n 1, 1) := by decide +kernel
theorem dX12_laysReadings_5 : decode cX12_laysReadings 5 = .ok (.iload_n 1, 1) := by decide +kernel
theorem dX12_laysReadings_6 : decode cX12_laysReadings 6 = .ok (.ifCond .lt 126, 3) := by decide +kernel
theorem dX12_laysReadings_9 : decode cX12_laysReadings 9 = .ok (.iconst 0, 1) := by decide +kernel
theorem dX12_laysReadings_10 : decode cX12_laysReadings 10 = .ok (.istore_n 2, 1) := by decide +kernel
theorem dX12_laysReadings_11 : decode cX12_laysReadings 11 = .ok (.iload_n 2, 1) := by decide +kernel
theorem dX12_laysReadings_12 : decode cX12_laysReadings 12 = .ok (.aload_n 0, 1) := by decide +kernel
theorem dX12_laysReadings_13 : decode cX12_laysReadings 13 = .ok (.getfield 190, 3) := by decide +kernel
theorem dX12_laysReadings_16 : decode cX12_laysReadings 16 = .ok (.if_icmp .gt 110, 3) := by decide +kernel
theorem dX12_laysReadings_19 : decode cX12_laysReadings 19 = .ok (.iload_n 1, 1) := by decide +kernel
theorem dX12_laysReadings_20 : decode cX12_laysReadings 20 = .ok (.aload_n 0, 1) := by decide +kernel
theorem dX12_laysReadings_21 : decode cX12_laysReadings 21 = .ok (.getfield 269, 3) := by decide +kernel
theorem dX12_laysReadings_24 : decode cX12_laysReadings 24 = .ok (.if_icmp .ne 7, 3) := by decide +kernel
theorem dX12_laysReadings_27 : decode cX12_laysReadings 27 = .ok (.iconst 1, 1) := by decide +kernel
theorem dX12_laysReadings_28 : decode cX12_laysReadings 28 = .ok (.goto 4, 3) := by decide +kernel
theorem dX12_laysReadings_31 : decode cX12_laysReadings 31 = .ok (.iconst 0, 1) := by decide +kernel
theorem dX12_laysReadings_32 : decode cX12_laysReadings 32 = .ok (.istore_n 3, 1) := by decide +kernel
theorem dX12_laysReadings_33 : decode cX12_laysReadings 33 = .ok (.iconst 0, 1) := by decide +kernel
theorem dX12_laysReadings_34 : decode cX12_laysReadings 34 = .ok (.istore 4, 2) := by decide +kernel
theorem dX12_laysReadings_36 : decode cX12_laysReadings 36 = .ok (.iload 4, 2) := by decide +kernel
theorem dX12_laysReadings_38 : decode cX12_laysReadings 38 = .ok (.aload_n 0, 1) := by decide +kernel
theorem dX12_laysReadings_39 : decode cX12_laysReadings 39 = .ok (.getfield 190, 3) := by decide +kernel
theorem dX12_laysReadings_42 : decode cX12_laysReadings 42 = .ok (.if_icmp .ge 66, 3) := by decide +kernel
theorem dX12_laysReadings_45 : decode cX12_laysReadings 45 = .ok (.iload_n 1, 1) := by decide +kernel
theorem dX12_laysReadings_46 : decode cX12_laysReadings 46 = .ok (.aload_n 0, 1) := by decide +kernel
theorem dX12_laysReadings_47 : decode cX12_laysReadings 47 = .ok (.getfield 269, 3) := by decide +kernel
theorem dX12_laysReadings_50 : decode cX12_laysReadings 50 = .ok (.if_icmp .ge 58, 3) := by decide +kernel
theorem dX12_laysReadings_53 : decode cX12_laysReadings 53 = .ok (.aload_n 0, 1) := by decide +kernel
theorem dX12_laysReadings_54 : decode cX12_laysReadings 54 = .ok (.iload_n 2, 1) := by decide +kernel
theorem dX12_laysReadings_55 : decode cX12_laysReadings 55 = .ok (.iconst 1, 1) := by decide +kernel
theorem dX12_laysReadings_56 : decode cX12_laysReadings 56 = .ok (.isub, 1) := by decide +kernel
theorem dX12_laysReadings_57 : decode cX12_laysReadings 57 = .ok (.invokevirtual 211, 3) := by decide +kernel
theorem dX12_laysReadings_60 : decode cX12_laysReadings 60 = .ok (.iload 4, 2) := by decide +kernel
theorem dX12_laysReadings_62 : decode cX12_laysReadings 62 = .ok (.invokestatic 229, 3) := by decide +kernel
theorem dX12_laysReadings_65 : decode cX12_laysReadings 65 = .ok (.ifCond .eq 37, 3) := by decide +kernel
theorem dX12_laysReadings_68 : decode cX12_laysReadings 68 = .ok (.aload_n 0, 1) := by decide +kernel
theorem dX12_laysReadings_69 : decode cX12_laysReadings 69 = .ok (.iload 4, 2) := by decide +kernel
theorem dX12_laysReadings_71 : decode cX12_laysReadings 71 = .ok (.iload_n 1, 1) := by decide +kernel
theorem dX12_laysReadings_72 : decode cX12_laysReadings 72 = .ok (.invokevirtual 300, 3) := by decide +kernel
theorem dX12_laysReadings_75 : decode cX12_laysReadings 75 = .ok (.ifCond .ne 27, 3) := by decide +kernel
theorem dX12_laysReadings_78 : decode cX12_laysReadings 78 = .ok (.iload_n 3, 1) := by decide +kernel
theorem dX12_laysReadings_79 : decode cX12_laysReadings 79 = .ok (.aload_n 0, 1) := by decide +kernel
theorem dX12_laysReadings_80 : decode cX12_laysReadings 80 = .ok (.getfield 44, 3) := by decide +kernel
theorem dX12_laysReadings_83 : decode cX12_laysReadings 83 = .ok (.bipush 11, 2) := by decide +kernel
theorem dX12_laysReadings_85 : decode cX12_laysReadings 85 = .ok (.iload_n 1, 1) := by decide +kernel
theorem dX12_laysReadings_86 : decode cX12_laysReadings 86 = .ok (.aload_n 0, 1) := by decide +kernel
theorem dX12_laysReadings_87 : decode cX12_laysReadings 87 = .ok (.iload 4, 2) := by decide +kernel
theorem dX12_laysReadings_89 : decode cX12_laysReadings 89 = .ok (.invokevirtual 205, 3) := by decide +kernel
theorem dX12_laysReadings_92 : decode cX12_laysReadings 92 = .ok (.iadd, 1) := by decide +kernel
theorem dX12_laysReadings_93 : decode cX12_laysReadings 93 = .ok (.imul, 1) := by decide +kernel
theorem dX12_laysReadings_94 : decode cX12_laysReadings 94 = .ok (.iload 4, 2) := by decide +kernel
theorem dX12_laysReadings_96 : decode cX12_laysReadings 96 = .ok (.iadd, 1) := by decide +kernel
theorem dX12_laysReadings_97 : decode cX12_laysReadings 97 = .ok (.iconst 1, 1) := by decide +kernel
theorem dX12_laysReadings_98 : decode cX12_laysReadings 98 = .ok (.iadd, 1) := by decide +kernel
theorem dX12_laysReadings_99 : decode cX12_laysReadings 99 = .ok (.iaload, 1) := by decide +kernel
theorem dX12_laysReadings_100 : decode cX12_laysReadings 100 = .ok (.iadd, 1) := by decide +kernel
theorem dX12_laysReadings_101 : decode cX12_laysReadings 101 = .ok (.istore_n 3, 1) := by decide +kernel
theorem dX12_laysReadings_102 : decode cX12_laysReadings 102 = .ok (.iinc 4 1, 3) := by decide +kernel
theorem dX12_laysReadings_105 : decode cX12_laysReadings 105 = .ok (.goto (-69), 3) := by decide +kernel
theorem dX12_laysReadings_108 : decode cX12_laysReadings 108 = .ok (.aload_n 0, 1) := by decide +kernel
theorem dX12_laysReadings_109 : decode cX12_laysReadings 109 = .ok (.getfield 44, 3) := by decide +kernel
theorem dX12_laysReadings_112 : decode cX12_laysReadings 112 = .ok (.bipush 11, 2) := by decide +kernel
theorem dX12_laysReadings_114 : decode cX12_laysReadings 114 = .ok (.iload_n 1, 1) := by decide +kernel
theorem dX12_laysReadings_115 : decode cX12_laysReadings 115 = .ok (.imul, 1) := by decide +kernel
theorem dX12_laysReadings_116 : decode cX12_laysReadings 116 = .ok (.iload_n 2, 1) := by decide +kernel
theorem dX12_laysReadings_117 : decode cX12_laysReadings 117 = .ok (.iadd, 1) := by decide +kernel
theorem dX12_laysReadings_118 : decode cX12_laysReadings 118 = .ok (.iload_n 3, 1) := by decide +kernel
theorem dX12_laysReadings_119 : decode cX12_laysReadings 119 = .ok (.iastore, 1) := by decide +kernel
theorem dX12_laysReadings_120 : decode cX12_laysReadings 120 = .ok (.iinc 2 1, 3) := by decide +kernel
theorem dX12_laysReadings_123 : decode cX12_laysReadings 123 = .ok (.goto (-112), 3) := by decide +kernel
theorem dX12_laysReadings_126 : decode cX12_laysReadings 126 = .ok (.iinc 1 (-1), 3) := by decide +kernel
theorem dX12_laysReadings_129 : decode cX12_laysReadings 129 = .ok (.goto (-124), 3) := by decide +kernel
theorem dX12_laysReadings_132 : decode cX12_laysReadings 132 = .ok (.return_, 1) := by decide +kernel
set_option maxRecDepth 10000 in
theorem wX12_laysReadings_0 {g : zG} {I : Nat → Nat → Int32} {P : Nat → Nat → Option Nat} {r : Option Value} {h' : zH} {a0 : Nat} (H : zk g a0 12 ∧ Zt none mX12_laysReadings 0 0 5 [(0, .ref a0), (1, .int (I a0 27))] [] (g, I, P) r h') : Zt none mX12_laysReadings 0 0 0 [(0, .ref a0)] [] (g, I, P) r h' := by
  refine z_aload_n 0 dX12_laysReadings_0 rfl rfl (z_getI dX12_laysReadings_1 wf_X12_269 (by decide) (by decide) rfl H.1 (z_istore_n (lv' := [(1, .int (I a0 27)), (0, .ref a0)]) dX12_laysReadings_4 (by decide) rfl ?_))
  exact z_less [1, 0] rfl H.2
theorem eX12_laysReadings {g : zG} {I : Nat → Nat → Int32} {P : Nat → Nat → Option Nat} {r : Option Value} {h' : zH} {a0 : Nat} (H : Zt none mX12_laysReadings 0 0 0 [(0, .ref a0)] [] (g, I, P) r h') : Cl mX12_laysReadings [.ref a0] (g, I, P) r h' := Cl.of (by decide) (Nat.le_of_ble_eq_true rfl) H
set_option maxRecDepth 10000 in
theorem wX12_laysReadings_5 {g : zG} {I : Nat → Nat → Int32} {P : Nat → Nat → Option Nat} {r : Option Value} {h' : zH} {a0 : Nat} {x1 : Int32} (H : ((x1 < 0) → r = none ∧ h' = (g, I, P)) ∧ ((¬ x1 < 0) → Zt none mX12_laysReadings 0 0 11 [(0, .ref a0), (1, .int x1), (2, .int 0)] [] (g, I, P) r h')) : Zt none mX12_laysReadings 0 0 5 [(0, .ref a0), (1, .int x1)] [] (g, I, P) r h' := by
  refine z_iload_n 1 dX12_laysReadings_5 rfl ?_
  refine z_if_lt (t := 132) dX12_laysReadings_6 (by decide) (fun q => ?_) (fun q => ?_)
  · have H1 := H.1 q
    obtain ⟨rfl, rfl⟩ := H1
    exact z_vret dX12_laysReadings_132 rfl (by decide) (by decide)
  · have H2 := H.2 q
    refine z_iconst (w := 0) dX12_laysReadings_9 (by decide) (z_istore_n (lv' := [(2, .int 0), (0, .ref a0), (1, .int x1)]) dX12_laysReadings_10 (by decide) rfl ?_)
    exact z_less [1, 2, 0] rfl H2
set_option maxRecDepth 10000 in
theorem wX12_laysReadings_11 {g : zG} {I : Nat → Nat → Int32} {P : Nat → Nat → Option Nat} {r : Option Value} {h' : zH} {a0 : Nat} {x1 : Int32} {x2 : Int32} (H : zk g a0 12 ∧ ((I a0 15 < x2) → Zt none mX12_laysReadings 0 0 5 [(0, .ref a0), (1, .int (x1 + (-1)))] [] (g, I, P) r h') ∧ ((¬ I a0 15 < x2) → zk g a0 12 ∧ ((¬ x1 = I a0 27) → Zt none mX12_laysReadings 0 0 36 [(0, .ref a0), (1, .int x1), (2, .int x2), (3, .int 0), (4, .int 0)] [] (g, I, P) r h') ∧ ((x1 = I a0 27) → Zt none mX12_laysReadings 0 0 36 [(0, .ref a0), (1, .int x1), (2, .int x2), (3, .int 1), (4, .int 0)] [] (g, I, P) r h'))) : Zt none mX12_laysReadings 0 0 11 [(0, .ref a0), (1, .int x1), (2, .int x2)] [] (g, I, P) r h' := by
  refine z_iload_n 2 dX12_laysReadings_11 rfl (z_aload_n 0 dX12_laysReadings_12 rfl rfl (z_getI dX12_laysReadings_13 wf_X12_190 (by decide) (by decide) rfl H.1 ?_))
  refine z_icmp_gt (t := 126) dX12_laysReadings_16 (by decide) (fun q => ?_) (fun q => ?_)
  · have H1 := H.2.1 q
    refine z_iinc (y := x1 + (-1)) (lv' := [(1, .int (x1 + (-1))), (0, .ref a0), (2, .int x2)]) 1 dX12_laysReadings_126 rfl rfl (by decide) rfl (z_goto (t := 5) dX12_laysReadings_129 (by decide) ?_)
    exact z_less [1, 0] rfl H1
  · have H2 := H.2.2 q
    refine z_iload_n 1 dX12_laysReadings_19 rfl (z_aload_n 0 dX12_laysReadings_20 rfl rfl (z_getI dX12_laysReadings_21 wf_X12_269 (by decide) (by decide) rfl H2.1 ?_))
    refine z_icmp_ne (t := 31) dX12_laysReadings_24 (by decide) (fun q => ?_) (fun q => ?_)
    · have H3 := H2.2.1 q
      refine z_iconst (w := 0) dX12_laysReadings_31 (by decide) (z_istore_n (lv' := [(3, .int 0), (0, .ref a0), (1, .int x1), (2, .int x2)]) dX12_laysReadings_32 (by decide) rfl (z_iconst (w := 0) dX12_laysReadings_33 (by decide) (z_istore (lv' := [(4, .int 0), (3, .int 0), (0, .ref a0), (1, .int x1), (2, .int x2)]) dX12_laysReadings_34 (by decide) rfl ?_)))
      exact z_less [2, 3, 4, 1, 0] rfl H3
    · have H4 := H2.2.2 q
      refine z_iconst (w := 1) dX12_laysReadings_27 (by decide) (z_goto (t := 32) dX12_laysReadings_28 (by decide) (z_istore_n (lv' := [(3, .int 1), (0, .ref a0), (1, .int x1), (2, .int x2)]) dX12_laysReadings_32 (by decide) rfl (z_iconst (w := 0) dX12_laysReadings_33 (by decide) (z_istore (lv' := [(4, .int 0), (3, .int 1), (0, .ref a0), (1, .int x1), (2, .int x2)]) dX12_laysReadings_34 (by decide) rfl ?_))))
      exact z_less [2, 3, 4, 1, 0] rfl H4
set_option maxRecDepth 10000 in
theorem wX12_laysReadings_36 {g : zG} {I : Nat → Nat → Int32} {P : Nat → Nat → Option Nat} {r : Option Value} {h' : zH} {a0 : Nat} {x1 : Int32} {x2 : Int32} {x3 : Int32} {x4 : Int32} (H : zk g a0 12 ∧ ((I a0 15 ≤ x4) → zk g a0 12 ∧ ∃ b2, P a0 28 = some b2 ∧ zk g b2 13 ∧ vp_in ((11 * x1) + x2) (g.2.2 b2) ∧ Zt none mX12_laysReadings 0 0 11 [(0, .ref a0), (1, .int x1), (2, .int (x2 + 1))] [] (g, zU I b2 ((11 * x1) + x2).toNatClampNeg x3, P) r h') ∧ ((¬ I a0 15 ≤ x4) → zk g a0 12 ∧ ((I a0 27 ≤ x1) → zk g a0 12 ∧ ∃ b7, P a0 28 = some b7 ∧ zk g b7 13 ∧ vp_in ((11 * x1) + x2) (g.2.2 b7) ∧ Zt none mX12_laysReadings 0 0 11 [(0, .ref a0), (1, .int x1), (2, .int (x2 + 1))] [] (g, zU I b7 ((11 * x1) + x2).toNatClampNeg x3, P) r h') ∧ ((¬ I a0 27 ≤ x1) → zk g a0 12 ∧ ∃ (w11 : Int32), Cl mX12_behind [.ref a0, .int (x2 - 1)] (g, I, P) (some (.int w11)) (g, I, P) ∧ ∃ (w14 : Int32), Cl mX12_holds [.int w11, .int x4] (g, I, P) (some (.int w14)) (g, I, P) ∧ ((w14 = 0) → Zt none mX12_laysReadings 0 0 36 [(0, .ref a0), (1, .int x1), (2, .int x2), (3, .int x3), (4, .int (x4 + 1))] [] (g, I, P) r h') ∧ ((¬ w14 = 0) → zk g a0 12 ∧ ∃ (w19 : Int32), Cl mX12_unlike [.ref a0, .int x4, .int x1] (g, I, P) (some (.int w19)) (g, I, P) ∧ ((¬ w19 = 0) → Zt none mX12_laysReadings 0 0 36 [(0, .ref a0), (1, .int x1), (2, .int x2), (3, .int x3), (4, .int (x4 + 1))] [] (g, I, P) r h') ∧ ((w19 = 0) → zk g a0 12 ∧ ∃ b24, P a0 28 = some b24 ∧ zk g a0 12 ∧ ∃ (w27 : Int32), Cl mX12_longOf [.ref a0, .int x4] (g, I, P) (some (.int w27)) (g, I, P) ∧ zk g b24 13 ∧ vp_in (((11 * (x1 + w27)) + x4) + 1) (g.2.2 b24) ∧ ∀ y30 : Int32, y30 = x3 + (I b24 (((11 * (x1 + w27)) + x4) + 1).toNatClampNeg) → Zt none mX12_laysReadings 0 0 36 [(0, .ref a0), (1, .int x1), (2, .int x2), (3, .int y30), (4, .int (x4 + 1))] [] (g, I, P) r h'))))) : Zt none mX12_laysReadings 0 0 36 [(0, .ref a0), (1, .int x1), (2, .int x2), (3, .int x3), (4, .int x4)] [] (g, I, P) r h' := by
  refine z_iload 4 dX12_laysReadings_36 rfl (z_aload_n 0 dX12_laysReadings_38 rfl rfl (z_getI dX12_laysReadings_39 wf_X12_190 (by decide) (by decide) rfl H.1 ?_))
  refine z_icmp_ge (t := 108) dX12_laysReadings_42 (by decide) (fun q => ?_) (fun q => ?_)
  · have H1 := H.2.1 q
    refine z_aload_n 0 dX12_laysReadings_108 rfl rfl ?_
    obtain ⟨oe4, b2, e4, H3⟩ := H1
    refine z_getP dX12_laysReadings_109 wf_X12_44 (by decide) (by decide) rfl oe4 (fun q => (by cases q.symm.trans e4)) (fun j q => ?_)
    cases q.symm.trans e4
    refine z_bipush (w := 11) dX12_laysReadings_112 (by decide) (z_iload_n 1 dX12_laysReadings_114 rfl (z_imul dX12_laysReadings_115 (z_iload_n 2 dX12_laysReadings_116 rfl (z_iadd dX12_laysReadings_117 (z_iload_n 3 dX12_laysReadings_118 rfl (z_iast (g := g) (I := I) (Q := P) dX12_laysReadings_119 H3.1 H3.2.1 (z_iinc (y := x2 + 1) (lv' := [(2, .int (x2 + 1)), (0, .ref a0), (1, .int x1), (3, .int x3), (4, .int x4)]) 2 dX12_laysReadings_120 rfl rfl (by decide) rfl (z_goto (t := 11) dX12_laysReadings_123 (by decide) ?_))))))))
    exact z_less [1, 2, 0] rfl H3.2.2
  · have H5 := H.2.2 q
    refine z_iload_n 1 dX12_laysReadings_45 rfl (z_aload_n 0 dX12_laysReadings_46 rfl rfl (z_getI dX12_laysReadings_47 wf_X12_269 (by decide) (by decide) rfl H5.1 ?_))
    refine z_icmp_ge (t := 108) dX12_laysReadings_50 (by decide) (fun q => ?_) (fun q => ?_)
    · have H6 := H5.2.1 q
      refine z_aload_n 0 dX12_laysReadings_108 rfl rfl ?_
      obtain ⟨oe9, b7, e9, H8⟩ := H6
      refine z_getP dX12_laysReadings_109 wf_X12_44 (by decide) (by decide) rfl oe9 (fun q => (by cases q.symm.trans e9)) (fun j q => ?_)
      cases q.symm.trans e9
      refine z_bipush (w := 11) dX12_laysReadings_112 (by decide) (z_iload_n 1 dX12_laysReadings_114 rfl (z_imul dX12_laysReadings_115 (z_iload_n 2 dX12_laysReadings_116 rfl (z_iadd dX12_laysReadings_117 (z_iload_n 3 dX12_laysReadings_118 rfl (z_iast (g := g) (I := I) (Q := P) dX12_laysReadings_119 H8.1 H8.2.1 (z_iinc (y := x2 + 1) (lv' := [(2, .int (x2 + 1)), (0, .ref a0), (1, .int x1), (3, .int x3), (4, .int x4)]) 2 dX12_laysReadings_120 rfl rfl (by decide) rfl (z_goto (t := 11) dX12_laysReadings_123 (by decide) ?_))))))))
      exact z_less [1, 2, 0] rfl H8.2.2
    · have H10 := H5.2.2 q
      refine z_aload_n 0 dX12_laysReadings_53 rfl rfl (z_iload_n 2 dX12_laysReadings_54 rfl (z_iconst (w := 1) dX12_laysReadings_55 (by decide) (z_isub dX12_laysReadings_56 ?_)))
      obtain ⟨oc12, w11, c12, H13⟩ := H10
      refine z_virt (As := [.int (x2 - 1)]) (st := []) (r1 := (some (.int w11))) (h1 := (g, I, P)) dX12_laysReadings_57 kX12_behind wm_X12_211 ⟨by decide, by decide⟩ rfl rfl (Nat.le_of_ble_eq_true rfl) (by decide) (by decide) oc12 c12 ?_
      refine z_iload 4 dX12_laysReadings_60 rfl ?_
      obtain ⟨w14, c15, H16⟩ := H13
      refine z_stat (As := [.int w11, .int x4]) (st := []) (r1 := (some (.int w14))) (h1 := (g, I, P)) dX12_laysReadings_62 kX12_holds wm_X12_229 ⟨by decide, by decide⟩ rfl rfl (Nat.le_of_ble_eq_true rfl) (by decide) (by decide) c15 ?_
      refine z_if_eq (t := 102) dX12_laysReadings_65 (by decide) (fun q => ?_) (fun q => ?_)
      · have H17 := H16.1 q
        refine z_iinc (y := x4 + 1) (lv' := [(4, .int (x4 + 1)), (0, .ref a0), (1, .int x1), (2, .int x2), (3, .int x3)]) 4 dX12_laysReadings_102 rfl rfl (by decide) rfl (z_goto (t := 36) dX12_laysReadings_105 (by decide) ?_)
        exact z_less [1, 2, 3, 4, 0] rfl H17
      · have H18 := H16.2 q
        refine z_aload_n 0 dX12_laysReadings_68 rfl rfl (z_iload 4 dX12_laysReadings_69 rfl (z_iload_n 1 dX12_laysReadings_71 rfl ?_))
        obtain ⟨oc20, w19, c20, H21⟩ := H18
        refine z_virt (As := [.int x4, .int x1]) (st := []) (r1 := (some (.int w19))) (h1 := (g, I, P)) dX12_laysReadings_72 kX12_unlike wm_X12_300 ⟨by decide, by decide⟩ rfl rfl (Nat.le_of_ble_eq_true rfl) (by decide) (by decide) oc20 c20 ?_
        refine z_if_ne (t := 102) dX12_laysReadings_75 (by decide) (fun q => ?_) (fun q => ?_)
        · have H22 := H21.1 q
          refine z_iinc (y := x4 + 1) (lv' := [(4, .int (x4 + 1)), (0, .ref a0), (1, .int x1), (2, .int x2), (3, .int x3)]) 4 dX12_laysReadings_102 rfl rfl (by decide) rfl (z_goto (t := 36) dX12_laysReadings_105 (by decide) ?_)
          exact z_less [1, 2, 3, 4, 0] rfl H22
        · have H23 := H21.2 q
          refine z_iload_n 3 dX12_laysReadings_78 rfl (z_aload_n 0 dX12_laysReadings_79 rfl rfl ?_)
          obtain ⟨oe26, b24, e26, H25⟩ := H23
          refine z_getP dX12_laysReadings_80 wf_X12_44 (by decide) (by decide) rfl oe26 (fun q => (by cases q.symm.trans e26)) (fun j q => ?_)
          cases q.symm.trans e26
          refine z_bipush (w := 11) dX12_laysReadings_83 (by decide) (z_iload_n 1 dX12_laysReadings_85 rfl (z_aload_n 0 dX12_laysReadings_86 rfl rfl (z_iload 4 dX12_laysReadings_87 rfl ?_)))
          obtain ⟨oc28, w27, c28, H29⟩ := H25
          refine z_virt (As := [.int x4]) (st := [.int x1, .int 11, .ref b24, .int x3]) (r1 := (some (.int w27))) (h1 := (g, I, P)) dX12_laysReadings_89 kX12_longOf wm_X12_205 ⟨by decide, by decide⟩ rfl rfl (Nat.le_of_ble_eq_true rfl) (by decide) (by decide) oc28 c28 ?_
          refine z_iadd dX12_laysReadings_92 (z_imul dX12_laysReadings_93 (z_iload 4 dX12_laysReadings_94 rfl (z_iadd dX12_laysReadings_96 (z_iconst (w := 1) dX12_laysReadings_97 (by decide) (z_iadd dX12_laysReadings_98 (z_iald dX12_laysReadings_99 H29.1 H29.2.1 (z_iadd dX12_laysReadings_100 ?_)))))))
          refine z_nm (fun y30 e_y30 => ?_)
          have H31 := H29.2.2 y30 e_y30
          refine z_istore_n (lv' := [(3, .int y30), (0, .ref a0), (1, .int x1), (2, .int x2), (4, .int x4)]) dX12_laysReadings_101 (by decide) rfl (z_iinc (y := x4 + 1) (lv' := [(4, .int (x4 + 1)), (3, .int y30), (0, .ref a0), (1, .int x1), (2, .int x2)]) 4 dX12_laysReadings_102 rfl rfl (by decide) rfl (z_goto (t := 36) dX12_laysReadings_105 (by decide) ?_))
          exact z_less [2, 3, 4, 1, 0] rfl H31
theorem dX12_reading_0 : decode cX12_reading 0 = .ok (.aload_n 0, 1) := by decide +kernel
theorem dX12_reading_1 : decode cX12_reading 1 = .ok (.iload_n 1, 1) := by decide +kernel
theorem dX12_reading_2 : decode cX12_reading 2 = .ok (.invokevirtual 196, 3) := by decide +kernel
theorem dX12_reading_5 : decode cX12_reading 5 = .ok (.ifCond .eq 18, 3) := by decide +kernel
theorem dX12_reading_8 : decode cX12_reading 8 = .ok (.aload_n 0, 1) := by decide +kernel
theorem dX12_reading_9 : decode cX12_reading 9 = .ok (.iload_n 2, 1) := by decide +kernel
theorem dX12_reading_10 : decode cX12_reading 10 = .ok (.iload_n 3, 1) := by decide +kernel
theorem dX12_reading_11 : decode cX12_reading 11 = .ok (.invokevirtual 272, 3) := by decide +kernel
theorem dX12_reading_14 : decode cX12_reading 14 = .ok (.ifCond .eq 9, 3) := by decide +kernel
theorem dX12_reading_17 : decode cX12_reading 17 = .ok (.iload 4, 2) := by decide +kernel
theorem dX12_reading_19 : decode cX12_reading 19 = .ok (.iconst (-1), 1) := by decide +kernel
theorem dX12_reading_20 : decode cX12_reading 20 = .ok (.if_icmp .ge 5, 3) := by decide +kernel
theorem dX12_reading_23 : decode cX12_reading 23 = .ok (.iconst (-1), 1) := by decide +kernel
theorem dX12_reading_24 : decode cX12_reading 24 = .ok (.ireturn, 1) := by decide +kernel
theorem dX12_reading_25 : decode cX12_reading 25 = .ok (.aload_n 0, 1) := by decide +kernel
theorem dX12_reading_26 : decode cX12_reading 26 = .ok (.invokevirtual 303, 3) := by decide +kernel
theorem dX12_reading_29 : decode cX12_reading 29 = .ok (.iload 4, 2) := by decide +kernel
theorem dX12_reading_31 : decode cX12_reading 31 = .ok (.iconst (-1), 1) := by decide +kernel
theorem dX12_reading_32 : decode cX12_reading 32 = .ok (.if_icmp .ne 10, 3) := by decide +kernel
theorem dX12_reading_35 : decode cX12_reading 35 = .ok (.aload_n 0, 1) := by decide +kernel
theorem dX12_reading_36 : decode cX12_reading 36 = .ok (.getfield 44, 3) := by decide +kernel
theorem dX12_reading_39 : decode cX12_reading 39 = .ok (.iconst 0, 1) := by decide +kernel
theorem dX12_reading_40 : decode cX12_reading 40 = .ok (.iaload, 1) := by decide +kernel
theorem dX12_reading_41 : decode cX12_reading 41 = .ok (.ireturn, 1) := by decide +kernel
theorem dX12_reading_42 : decode cX12_reading 42 = .ok (.iconst 0, 1) := by decide +kernel
theorem dX12_reading_43 : decode cX12_reading 43 = .ok (.istore 5, 2) := by decide +kernel
theorem dX12_reading_45 : decode cX12_reading 45 = .ok (.iconst 0, 1) := by decide +kernel
theorem dX12_reading_46 : decode cX12_reading 46 = .ok (.istore 6, 2) := by decide +kernel
theorem dX12_reading_48 : decode cX12_reading 48 = .ok (.iconst 0, 1) := by decide +kernel
theorem dX12_reading_49 : decode cX12_reading 49 = .ok (.istore 7, 2) := by decide +kernel
theorem dX12_reading_51 : decode cX12_reading 51 = .ok (.iload 5, 2) := by decide +kernel
theorem dX12_reading_53 : decode cX12_reading 53 = .ok (.aload_n 0, 1) := by decide +kernel
theorem dX12_reading_54 : decode cX12_reading 54 = .ok (.getfield 269, 3) := by decide +kernel
theorem dX12_reading_57 : decode cX12_reading 57 = .ok (.if_icmp .ge 106, 3) := by decide +kernel
theorem dX12_reading_60 : decode cX12_reading 60 = .ok (.aload_n 0, 1) := by decide +kernel
theorem dX12_reading_61 : decode cX12_reading 61 = .ok (.getfield 44, 3) := by decide +kernel
theorem dX12_reading_64 : decode cX12_reading 64 = .ok (.iconst 0, 1) := by decide +kernel
theorem dX12_reading_65 : decode cX12_reading 65 = .ok (.iaload, 1) := by decide +kernel
theorem dX12_reading_66 : decode cX12_reading 66 = .ok (.ifCond .le 97, 3) := by decide +kernel
theorem dX12_reading_69 : decode cX12_reading 69 = .ok (.iconst 0, 1) := by decide +kernel
theorem dX12_reading_70 : decode cX12_reading 70 = .ok (.istore 8, 2) := by decide +kernel
theorem dX12_reading_72 : decode cX12_reading 72 = .ok (.aload_n 0, 1) := by decide +kernel
theorem dX12_reading_73 : decode cX12_reading 73 = .ok (.iload 6, 2) := by decide +kernel
theorem dX12_reading_75 : decode cX12_reading 75 = .ok (.iconst 1, 1) := by decide +kernel
theorem dX12_reading_76 : decode cX12_reading 76 = .ok (.isub, 1) := by decide +kernel
theorem dX12_reading_77 : decode cX12_reading 77 = .ok (.invokevirtual 211, 3) := by decide +kernel
theorem dX12_reading_80 : decode cX12_reading 80 = .ok (.iload 8, 2) := by decide +kernel
theorem dX12_reading_82 : decode cX12_reading 82 = .ok (.invokestatic 229, 3) := by decide +kernel
theorem dX12_reading_85 : decode cX12_reading 85 = .ok (.ifCond .eq 39, 3) := by decide +kernel
theorem dX12_reading_88 : decode cX12_reading 88 = .ok (.aload_n 0, 1) := by decide +kernel
theorem dX12_reading_89 : decode cX12_reading 89 = .ok (.iload 8, 2) := by decide +kernel
theorem dX12_reading_91 : decode cX12_reading 91 = .ok (.iload 5, 2) := by decide +kernel
theorem dX12_reading_93 : decode cX12_reading 93 = .ok (.invokevirtual 300, 3) := by decide +kernel
theorem dX12_reading_96 : decode cX12_reading 96 = .ok (.ifCond .ne 28, 3) := by decide +kernel
theorem dX12_reading_99 : decode cX12_reading 99 = .ok (.aload_n 0, 1) := by decide +kernel
theorem dX12_reading_100 : decode cX12_reading 100 = .ok (.getfield 44, 3) := by decide +kernel
theorem dX12_reading_103 : decode cX12_reading 103 = .ok (.bipush 11, 2) := by decide +kernel
theorem dX12_reading_105 : decode cX12_reading 105 = .ok (.iload 5, 2) := by decide +kernel
theorem dX12_reading_107 : decode cX12_reading 107 = .ok (.aload_n 0, 1) := by decide +kernel
theorem dX12_reading_108 : decode cX12_reading 108 = .ok (.iload 8, 2) := by decide +kernel
theorem dX12_reading_110 : decode cX12_reading 110 = .ok (.invokevirtual 205, 3) := by decide +kernel
theorem dX12_reading_113 : decode cX12_reading 113 = .ok (.iadd, 1) := by decide +kernel
theorem dX12_reading_114 : decode cX12_reading 114 = .ok (.imul, 1) := by decide +kernel
theorem dX12_reading_115 : decode cX12_reading 115 = .ok (.iload 8, 2) := by decide +kernel
theorem dX12_reading_117 : decode cX12_reading 117 = .ok (.iadd, 1) := by decide +kernel
theorem dX12_reading_118 : decode cX12_reading 118 = .ok (.iconst 1, 1) := by decide +kernel
theorem dX12_reading_119 : decode cX12_reading 119 = .ok (.iadd, 1) := by decide +kernel
theorem dX12_reading_120 : decode cX12_reading 120 = .ok (.iaload, 1) := by decide +kernel
theorem dX12_reading_121 : decode cX12_reading 121 = .ok (.ifCond .ne 9, 3) := by decide +kernel
theorem dX12_reading_124 : decode cX12_reading 124 = .ok (.iinc 8 1, 3) := by decide +kernel
theorem dX12_reading_127 : decode cX12_reading 127 = .ok (.goto (-55), 3) := by decide +kernel
theorem dX12_reading_130 : decode cX12_reading 130 = .ok (.iload 7, 2) := by decide +kernel
theorem dX12_reading_132 : decode cX12_reading 132 = .ok (.iload 4, 2) := by decide +kernel
theorem dX12_reading_134 : decode cX12_reading 134 = .ok (.if_icmp .ne 6, 3) := by decide +kernel
theorem dX12_reading_137 : decode cX12_reading 137 = .ok (.iload 8, 2) := by decide +kernel
theorem dX12_reading_139 : decode cX12_reading 139 = .ok (.ireturn, 1) := by decide +kernel
theorem dX12_reading_140 : decode cX12_reading 140 = .ok (.iload 5, 2) := by decide +kernel
theorem dX12_reading_142 : decode cX12_reading 142 = .ok (.aload_n 0, 1) := by decide +kernel
theorem dX12_reading_143 : decode cX12_reading 143 = .ok (.iload 8, 2) := by decide +kernel
theorem dX12_reading_145 : decode cX12_reading 145 = .ok (.invokevirtual 205, 3) := by decide +kernel
theorem dX12_reading_148 : decode cX12_reading 148 = .ok (.iadd, 1) := by decide +kernel
theorem dX12_reading_149 : decode cX12_reading 149 = .ok (.istore 5, 2) := by decide +kernel
theorem dX12_reading_151 : decode cX12_reading 151 = .ok (.iload 8, 2) := by decide +kernel
theorem dX12_reading_153 : decode cX12_reading 153 = .ok (.iconst 1, 1) := by decide +kernel
theorem dX12_reading_154 : decode cX12_reading 154 = .ok (.iadd, 1) := by decide +kernel
theorem dX12_reading_155 : decode cX12_reading 155 = .ok (.istore 6, 2) := by decide +kernel
theorem dX12_reading_157 : decode cX12_reading 157 = .ok (.iinc 7 1, 3) := by decide +kernel
theorem dX12_reading_160 : decode cX12_reading 160 = .ok (.goto (-109), 3) := by decide +kernel
theorem dX12_reading_163 : decode cX12_reading 163 = .ok (.iconst (-1), 1) := by decide +kernel
theorem dX12_reading_164 : decode cX12_reading 164 = .ok (.ireturn, 1) := by decide +kernel
set_option maxRecDepth 10000 in
theorem wX12_reading_0 {g : zG} {I : Nat → Nat → Int32} {P : Nat → Nat → Option Nat} {r : Option Value} {h' : zH} {a0 : Nat} {x1 : Int32} {x2 : Int32} {x3 : Int32} {x4 : Int32} (H : zk g a0 12 ∧ ∃ (w1 : Int32) (I2 : Nat → Nat → Int32), Cl mX12_isHill [.ref a0, .int x1] (g, I, P) (some (.int w1)) (g, I2, P) ∧ ((w1 = 0) → r = some (.int (-1)) ∧ h' = (g, I2, P)) ∧ ((¬ w1 = 0) → zk g a0 12 ∧ ∃ (w7 : Int32) (I8 : Nat → Nat → Int32), Cl mX12_isLine [.ref a0, .int x2, .int x3] (g, I2, P) (some (.int w7)) (g, I8, P) ∧ ((w7 = 0) → r = some (.int (-1)) ∧ h' = (g, I8, P)) ∧ ((¬ w7 = 0) → (((-1) ≤ x4) → zk g a0 12 ∧ ∃ (I14 : Nat → Nat → Int32), Cl mX12_laysReadings [.ref a0] (g, I8, P) none (g, I14, P) ∧ ((¬ x4 = (-1)) → Zt none mX12_reading 0 0 51 [(0, .ref a0), (4, .int x4), (5, .int 0), (6, .int 0), (7, .int 0)] [] (g, I14, P) r h') ∧ ((x4 = (-1)) → zk g a0 12 ∧ ∃ b19, P a0 28 = some b19 ∧ zk g b19 13 ∧ vp_in 0 (g.2.2 b19) ∧ r = some (.int (I14 b19 (0 : Int32).toNatClampNeg)) ∧ h' = (g, I14, P))) ∧ ((¬ (-1) ≤ x4) → r = some (.int (-1)) ∧ h' = (g, I8, P))))) : Zt none mX12_reading 0 0 0 [(0, .ref a0), (1, .int x1), (2, .int x2), (3, .int x3), (4, .int x4)] [] (g, I, P) r h' := by
  refine z_aload_n 0 dX12_reading_0 rfl rfl (z_iload_n 1 dX12_reading_1 rfl ?_)
  obtain ⟨oc3, w1, I2, c3, H4⟩ := H
  refine z_virt (As := [.int x1]) (st := []) (r1 := (some (.int w1))) (h1 := (g, I2, P)) dX12_reading_2 kX12_isHill wm_X12_196 ⟨by decide, by decide⟩ rfl rfl (Nat.le_of_ble_eq_true rfl) (by decide) (by decide) oc3 c3 ?_
  refine z_if_eq (t := 23) dX12_reading_5 (by decide) (fun q => ?_) (fun q => ?_)
  · have H5 := H4.1 q
    refine z_iconst (w := (-1)) dX12_reading_23 (by decide) ?_
    obtain ⟨rfl, rfl⟩ := H5
    exact z_iret dX12_reading_24 rfl (by decide) (by decide)
  · have H6 := H4.2 q
    refine z_aload_n 0 dX12_reading_8 rfl rfl (z_iload_n 2 dX12_reading_9 rfl (z_iload_n 3 dX12_reading_10 rfl ?_))
    obtain ⟨oc9, w7, I8, c9, H10⟩ := H6
    refine z_virt (As := [.int x2, .int x3]) (st := []) (r1 := (some (.int w7))) (h1 := (g, I8, P)) dX12_reading_11 kX12_isLine wm_X12_272 ⟨by decide, by decide⟩ rfl rfl (Nat.le_of_ble_eq_true rfl) (by decide) (by decide) oc9 c9 ?_
    refine z_if_eq (t := 23) dX12_reading_14 (by decide) (fun q => ?_) (fun q => ?_)
    · have H11 := H10.1 q
      refine z_iconst (w := (-1)) dX12_reading_23 (by decide) ?_
      obtain ⟨rfl, rfl⟩ := H11
      exact z_iret dX12_reading_24 rfl (by decide) (by decide)
    · have H12 := H10.2 q
      refine z_iload 4 dX12_reading_17 rfl (z_iconst (w := (-1)) dX12_reading_19 (by decide) ?_)
      refine z_icmp_ge (t := 25) dX12_reading_20 (by decide) (fun q => ?_) (fun q => ?_)
      · have H13 := H12.1 q
        refine z_aload_n 0 dX12_reading_25 rfl rfl ?_
        obtain ⟨oc15, I14, c15, H16⟩ := H13
        refine z_virt (As := []) (st := []) (r1 := none) (h1 := (g, I14, P)) dX12_reading_26 kX12_laysReadings wm_X12_303 ⟨by decide, by decide⟩ rfl rfl (Nat.le_of_ble_eq_true rfl) (by decide) (by decide) oc15 c15 ?_
        refine z_iload 4 dX12_reading_29 rfl (z_iconst (w := (-1)) dX12_reading_31 (by decide) ?_)
        refine z_icmp_ne (t := 42) dX12_reading_32 (by decide) (fun q => ?_) (fun q => ?_)
        · have H17 := H16.1 q
          refine z_iconst (w := 0) dX12_reading_42 (by decide) (z_istore (lv' := [(5, .int 0), (0, .ref a0), (1, .int x1), (2, .int x2), (3, .int x3), (4, .int x4)]) dX12_reading_43 (by decide) rfl (z_iconst (w := 0) dX12_reading_45 (by decide) (z_istore (lv' := [(6, .int 0), (5, .int 0), (0, .ref a0), (1, .int x1), (2, .int x2), (3, .int x3), (4, .int x4)]) dX12_reading_46 (by decide) rfl (z_iconst (w := 0) dX12_reading_48 (by decide) (z_istore (lv' := [(7, .int 0), (6, .int 0), (5, .int 0), (0, .ref a0), (1, .int x1), (2, .int x2), (3, .int x3), (4, .int x4)]) dX12_reading_49 (by decide) rfl ?_)))))
          exact z_less [3, 7, 2, 1, 0] rfl H17
        · have H18 := H16.2 q
          refine z_aload_n 0 dX12_reading_35 rfl rfl ?_
          obtain ⟨oe21, b19, e21, H20⟩ := H18
          refine z_getP dX12_reading_36 wf_X12_44 (by decide) (by decide) rfl oe21 (fun q => (by cases q.symm.trans e21)) (fun j q => ?_)
          cases q.symm.trans e21
          refine z_iconst (w := 0) dX12_reading_39 (by decide) (z_iald dX12_reading_40 H20.1 H20.2.1 ?_)
          obtain ⟨rfl, rfl⟩ := H20.2.2
          exact z_iret dX12_reading_41 rfl (by decide) (by decide)
      · have H22 := H12.2 q
        refine z_iconst (w := (-1)) dX12_reading_23 (by decide) ?_
        obtain ⟨rfl, rfl⟩ := H22
        exact z_iret dX12_reading_24 rfl (by decide) (by decide)
theorem eX12_reading {g : zG} {I : Nat → Nat → Int32} {P : Nat → Nat → Option Nat} {r : Option Value} {h' : zH} {a0 : Nat} {x1 : Int32} {x2 : Int32} {x3 : Int32} {x4 : Int32} (H : Zt none mX12_reading 0 0 0 [(0, .ref a0), (1, .int x1), (2, .int x2), (3, .int x3), (4, .int x4)] [] (g, I, P) r h') : Cl mX12_reading [.ref a0, .int x1, .int x2, .int x3, .int x4] (g, I, P) r h' := Cl.of (by decide) (Nat.le_of_ble_eq_true rfl) H
set_option maxRecDepth 10000 in
theorem wX12_reading_51 {g : zG} {I : Nat → Nat → Int32} {P : Nat → Nat → Option Nat} {r : Option Value} {h' : zH} {a0 : Nat} {x4 : Int32} {x5 : Int32} {x6 : Int32} {x7 : Int32} (H : zk g a0 12 ∧ ((I a0 27 ≤ x5) → r = some (.int (-1)) ∧ h' = (g, I, P)) ∧ ((¬ I a0 27 ≤ x5) → zk g a0 12 ∧ ∃ b3, P a0 28 = some b3 ∧ zk g b3 13 ∧ vp_in 0 (g.2.2 b3) ∧ ((I b3 (0 : Int32).toNatClampNeg ≤ 0) → r = some (.int (-1)) ∧ h' = (g, I, P)) ∧ ((¬ I b3 (0 : Int32).toNatClampNeg ≤ 0) → Zt none mX12_reading 0 0 72 [(0, .ref a0), (4, .int x4), (5, .int x5), (6, .int x6), (7, .int x7), (8, .int 0)] [] (g, I, P) r h'))) : Zt none mX12_reading 0 0 51 [(0, .ref a0), (4, .int x4), (5, .int x5), (6, .int x6), (7, .int x7)] [] (g, I, P) r h' := by
  refine z_iload 2 dX12_reading_51 rfl (z_aload_n 0 dX12_reading_53 rfl rfl (z_getI dX12_reading_54 wf_X12_269 (by decide) (by decide) rfl H.1 ?_))
  refine z_icmp_ge (t := 163) dX12_reading_57 (by decide) (fun q => ?_) (fun q => ?_)
  · have H1 := H.2.1 q
    refine z_iconst (w := (-1)) dX12_reading_163 (by decide) ?_
    obtain ⟨rfl, rfl⟩ := H1
    exact z_iret dX12_reading_164 rfl (by decide) (by decide)
  · have H2 := H.2.2 q
    refine z_aload_n 0 dX12_reading_60 rfl rfl ?_
    obtain ⟨oe5, b3, e5, H4⟩ := H2
    refine z_getP dX12_reading_61 wf_X12_44 (by decide) (by decide) rfl oe5 (fun q => (by cases q.symm.trans e5)) (fun j q => ?_)
    cases q.symm.trans e5
    refine z_iconst (w := 0) dX12_reading_64 (by decide) (z_iald dX12_reading_65 H4.1 H4.2.1 ?_)
    refine z_if_le (t := 163) dX12_reading_66 (by decide) (fun q => ?_) (fun q => ?_)
    · have H6 := H4.2.2.1 q
      refine z_iconst (w := (-1)) dX12_reading_163 (by decide) ?_
      obtain ⟨rfl, rfl⟩ := H6
      exact z_iret dX12_reading_164 rfl (by decide) (by decide)
    · have H7 := H4.2.2.2 q
      refine z_iconst (w := 0) dX12_reading_69 (by decide) (z_istore (lv' := [(8, .int 0), (0, .ref a0), (4, .int x4), (5, .int x5), (6, .int x6), (7, .int x7)]) dX12_reading_70 (by decide) rfl ?_)
      exact z_less [1, 2, 3, 4, 5, 0] rfl H7
set_option maxRecDepth 10000 in
theorem wX12_reading_72 {g : zG} {I : Nat → Nat → Int32} {P : Nat → Nat → Option Nat} {r : Option Value} {h' : zH} {a0 : Nat} {x4 : Int32} {x5 : Int32} {x6 : Int32} {x7 : Int32} {x8 : Int32} (H : zk g a0 12 ∧ ∃ (w1 : Int32), Cl mX12_behind [.ref a0, .int (x6 - 1)] (g, I, P) (some (.int w1)) (g, I, P) ∧ ∃ (w4 : Int32), Cl mX12_holds [.int w1, .int x8] (g, I, P) (some (.int w4)) (g, I, P) ∧ ((w4 = 0) → Zt none mX12_reading 0 0 72 [(0, .ref a0), (4, .int x4), (5, .int x5), (6, .int x6), (7, .int x7), (8, .int (x8 + 1))] [] (g, I, P) r h') ∧ ((¬ w4 = 0) → zk g a0 12 ∧ ∃ (w9 : Int32), Cl mX12_unlike [.ref a0, .int x8, .int x5] (g, I, P) (some (.int w9)) (g, I, P) ∧ ((¬ w9 = 0) → Zt none mX12_reading 0 0 72 [(0, .ref a0), (4, .int x4), (5, .int x5), (6, .int x6), (7, .int x7), (8, .int (x8 + 1))] [] (g, I, P) r h') ∧ ((w9 = 0) → zk g a0 12 ∧ ∃ b14, P a0 28 = some b14 ∧ zk g a0 12 ∧ ∃ (w17 : Int32), Cl mX12_longOf [.ref a0, .int x8] (g, I, P) (some (.int w17)) (g, I, P) ∧ zk g b14 13 ∧ vp_in (((11 * (x5 + w17)) + x8) + 1) (g.2.2 b14) ∧ ((¬ I b14 (((11 * (x5 + w17)) + x8) + 1).toNatClampNeg = 0) → ((¬ x7 = x4) → zk g a0 12 ∧ ∃ (w22 : Int32), Cl mX12_longOf [.ref a0, .int x8] (g, I, P) (some (.int w22)) (g, I, P) ∧ Zt none mX12_reading 0 0 51 [(0, .ref a0), (4, .int x4), (5, .int (x5 + w22)), (6, .int (x8 + 1)), (7, .int (x7 + 1))] [] (g, I, P) r h') ∧ ((x7 = x4) → r = some (.int x8) ∧ h' = (g, I, P))) ∧ ((I b14 (((11 * (x5 + w17)) + x8) + 1).toNatClampNeg = 0) → Zt none mX12_reading 0 0 72 [(0, .ref a0), (4, .int x4), (5, .int x5), (6, .int x6), (7, .int x7), (8, .int (x8 + 1))] [] (g, I, P) r h')))) : Zt none mX12_reading 0 0 72 [(0, .ref a0), (4, .int x4), (5, .int x5), (6, .int x6), (7, .int x7), (8, .int x8)] [] (g, I, P) r h' := by
  refine z_aload_n 0 dX12_reading_72 rfl rfl (z_iload 3 dX12_reading_73 rfl (z_iconst (w := 1) dX12_reading_75 (by decide) (z_isub dX12_reading_76 ?_)))
  obtain ⟨oc2, w1, c2, H3⟩ := H
  refine z_virt (As := [.int (x6 - 1)]) (st := []) (r1 := (some (.int w1))) (h1 := (g, I, P)) dX12_reading_77 kX12_behind wm_X12_211 ⟨by decide, by decide⟩ rfl rfl (Nat.le_of_ble_eq_true rfl) (by decide) (by decide) oc2 c2 ?_
  refine z_iload 5 dX12_reading_80 rfl ?_
  obtain ⟨w4, c5, H6⟩ := H3
  refine z_stat (As := [.int w1, .int x8]) (st := []) (r1 := (some (.int w4))) (h1 := (g, I, P)) dX12_reading_82 kX12_holds wm_X12_229 ⟨by decide, by decide⟩ rfl rfl (Nat.le_of_ble_eq_true rfl) (by decide) (by decide) c5 ?_
  refine z_if_eq (t := 124) dX12_reading_85 (by decide) (fun q => ?_) (fun q => ?_)
  · have H7 := H6.1 q
    refine z_iinc (y := x8 + 1) (lv' := [(8, .int (x8 + 1)), (0, .ref a0), (4, .int x4), (5, .int x5), (6, .int x6), (7, .int x7)]) 5 dX12_reading_124 rfl rfl (by decide) rfl (z_goto (t := 72) dX12_reading_127 (by decide) ?_)
    exact z_less [1, 2, 3, 4, 5, 0] rfl H7
  · have H8 := H6.2 q
    refine z_aload_n 0 dX12_reading_88 rfl rfl (z_iload 5 dX12_reading_89 rfl (z_iload 2 dX12_reading_91 rfl ?_))
    obtain ⟨oc10, w9, c10, H11⟩ := H8
    refine z_virt (As := [.int x8, .int x5]) (st := []) (r1 := (some (.int w9))) (h1 := (g, I, P)) dX12_reading_93 kX12_unlike wm_X12_300 ⟨by decide, by decide⟩ rfl rfl (Nat.le_of_ble_eq_true rfl) (by decide) (by decide) oc10 c10 ?_
    refine z_if_ne (t := 124) dX12_reading_96 (by decide) (fun q => ?_) (fun q => ?_)
    · have H12 := H11.1 q
      refine z_iinc (y := x8 + 1) (lv' := [(8, .int (x8 + 1)), (0, .ref a0), (4, .int x4), (5, .int x5), (6, .int x6), (7, .int x7)]) 5 dX12_reading_124 rfl rfl (by decide) rfl (z_goto (t := 72) dX12_reading_127 (by decide) ?_)
      exact z_less [1, 2, 3, 4, 5, 0] rfl H12
    · have H13 := H11.2 q
      refine z_aload_n 0 dX12_reading_99 rfl rfl ?_
      obtain ⟨oe16, b14, e16, H15⟩ := H13
      refine z_getP dX12_reading_100 wf_X12_44 (by decide) (by decide) rfl oe16 (fun q => (by cases q.symm.trans e16)) (fun j q => ?_)
      cases q.symm.trans e16
      refine z_bipush (w := 11) dX12_reading_103 (by decide) (z_iload 2 dX12_reading_105 rfl (z_aload_n 0 dX12_reading_107 rfl rfl (z_iload 5 dX12_reading_108 rfl ?_)))
      obtain ⟨oc18, w17, c18, H19⟩ := H15
      refine z_virt (As := [.int x8]) (st := [.int x5, .int 11, .ref b14]) (r1 := (some (.int w17))) (h1 := (g, I, P)) dX12_reading_110 kX12_longOf wm_X12_205 ⟨by decide, by decide⟩ rfl rfl (Nat.le_of_ble_eq_true rfl) (by decide) (by decide) oc18 c18 ?_
      refine z_iadd dX12_reading_113 (z_imul dX12_reading_114 (z_iload 5 dX12_reading_115 rfl (z_iadd dX12_reading_117 (z_iconst (w := 1) dX12_reading_118 (by decide) (z_iadd dX12_reading_119 (z_iald dX12_reading_120 H19.1 H19.2.1 ?_))))))
      refine z_if_ne (t := 130) dX12_reading_121 (by decide) (fun q => ?_) (fun q => ?_)
      · have H20 := H19.2.2.1 q
        refine z_iload 4 dX12_reading_130 rfl (z_iload 1 dX12_reading_132 rfl ?_)
        refine z_icmp_ne (t := 140) dX12_reading_134 (by decide) (fun q => ?_) (fun q => ?_)
        · have H21 := H20.1 q
          refine z_iload 2 dX12_reading_140 rfl (z_aload_n 0 dX12_reading_142 rfl rfl (z_iload 5 dX12_reading_143 rfl ?_))
          obtain ⟨oc23, w22, c23, H24⟩ := H21
          refine z_virt (As := [.int x8]) (st := [.int x5]) (r1 := (some (.int w22))) (h1 := (g, I, P)) dX12_reading_145 kX12_longOf wm_X12_205 ⟨by decide, by decide⟩ rfl rfl (Nat.le_of_ble_eq_true rfl) (by decide) (by decide) oc23 c23 ?_
          refine z_iadd dX12_reading_148 (z_istore (lv' := [(5, .int (x5 + w22)), (0, .ref a0), (4, .int x4), (6, .int x6), (7, .int x7), (8, .int x8)]) dX12_reading_149 (by decide) rfl (z_iload 5 dX12_reading_151 rfl (z_iconst (w := 1) dX12_reading_153 (by decide) (z_iadd dX12_reading_154 (z_istore (lv' := [(6, .int (x8 + 1)), (5, .int (x5 + w22)), (0, .ref a0), (4, .int x4), (7, .int x7), (8, .int x8)]) dX12_reading_155 (by decide) rfl (z_iinc (y := x7 + 1) (lv' := [(7, .int (x7 + 1)), (6, .int (x8 + 1)), (5, .int (x5 + w22)), (0, .ref a0), (4, .int x4), (8, .int x8)]) 4 dX12_reading_157 rfl rfl (by decide) rfl (z_goto (t := 51) dX12_reading_160 (by decide) ?_)))))))
          exact z_less [3, 4, 2, 1, 0] rfl H24
        · have H25 := H20.2 q
          refine z_iload 5 dX12_reading_137 rfl ?_
          obtain ⟨rfl, rfl⟩ := H25
          exact z_iret dX12_reading_139 rfl (by decide) (by decide)
      · have H26 := H19.2.2.2 q
        refine z_iinc (y := x8 + 1) (lv' := [(8, .int (x8 + 1)), (0, .ref a0), (4, .int x4), (5, .int x5), (6, .int x6), (7, .int x7)]) 5 dX12_reading_124 rfl rfl (by decide) rfl (z_goto (t := 72) dX12_reading_127 (by decide) ?_)
        exact z_less [1, 2, 3, 4, 5, 0] rfl H26
theorem dX12_mendedOf_0 : decode cX12_mendedOf 0 = .ok (.aload_n 0, 1) := by decide +kernel
theorem dX12_mendedOf_1 : decode cX12_mendedOf 1 = .ok (.getfield 269, 3) := by decide +kernel
theorem dX12_mendedOf_4 : decode cX12_mendedOf 4 = .ok (.istore_n 1, 1) := by decide +kernel
theorem dX12_mendedOf_5 : decode cX12_mendedOf 5 = .ok (.iload_n 1, 1) := by decide +kernel
theorem dX12_mendedOf_6 : decode cX12_mendedOf 6 = .ok (.ifCond .lt 154, 3) := by decide +kernel
theorem dX12_mendedOf_9 : decode cX12_mendedOf 9 = .ok (.iconst 0, 1) := by decide +kernel
theorem dX12_mendedOf_10 : decode cX12_mendedOf 10 = .ok (.istore_n 2, 1) := by decide +kernel
theorem dX12_mendedOf_11 : decode cX12_mendedOf 11 = .ok (.iload_n 2, 1) := by decide +kernel
theorem dX12_mendedOf_12 : decode cX12_mendedOf 12 = .ok (.aload_n 0, 1) := by decide +kernel
theorem dX12_mendedOf_13 : decode cX12_mendedOf 13 = .ok (.getfield 190, 3) := by decide +kernel
theorem dX12_mendedOf_16 : decode cX12_mendedOf 16 = .ok (.if_icmp .gt 138, 3) := by decide +kernel
theorem dX12_mendedOf_19 : decode cX12_mendedOf 19 = .ok (.iload_n 1, 1) := by decide +kernel
theorem dX12_mendedOf_20 : decode cX12_mendedOf 20 = .ok (.aload_n 0, 1) := by decide +kernel
theorem dX12_mendedOf_21 : decode cX12_mendedOf 21 = .ok (.getfield 269, 3) := by decide +kernel
theorem dX12_mendedOf_24 : decode cX12_mendedOf 24 = .ok (.if_icmp .ne 7, 3) := by decide +kernel
theorem dX12_mendedOf_27 : decode cX12_mendedOf 27 = .ok (.iconst 0, 1) := by decide +kernel
theorem dX12_mendedOf_28 : decode cX12_mendedOf 28 = .ok (.goto 6, 3) := by decide +kernel
theorem dX12_mendedOf_31 : decode cX12_mendedOf 31 = .ok (.sipush 9999, 3) := by decide +kernel
theorem dX12_mendedOf_34 : decode cX12_mendedOf 34 = .ok (.istore_n 3, 1) := by decide +kernel
theorem dX12_mendedOf_35 : decode cX12_mendedOf 35 = .ok (.iconst 0, 1) := by decide +kernel
theorem dX12_mendedOf_36 : decode cX12_mendedOf 36 = .ok (.istore 4, 2) := by decide +kernel
theorem dX12_mendedOf_38 : decode cX12_mendedOf 38 = .ok (.iload 4, 2) := by decide +kernel
theorem dX12_mendedOf_40 : decode cX12_mendedOf 40 = .ok (.aload_n 0, 1) := by decide +kernel
theorem dX12_mendedOf_41 : decode cX12_mendedOf 41 = .ok (.getfield 190, 3) := by decide +kernel
theorem dX12_mendedOf_44 : decode cX12_mendedOf 44 = .ok (.if_icmp .ge 92, 3) := by decide +kernel
theorem dX12_mendedOf_47 : decode cX12_mendedOf 47 = .ok (.iload_n 1, 1) := by decide +kernel
theorem dX12_mendedOf_48 : decode cX12_mendedOf 48 = .ok (.aload_n 0, 1) := by decide +kernel
theorem dX12_mendedOf_49 : decode cX12_mendedOf 49 = .ok (.getfield 269, 3) := by decide +kernel
theorem dX12_mendedOf_52 : decode cX12_mendedOf 52 = .ok (.if_icmp .ge 84, 3) := by decide +kernel
theorem dX12_mendedOf_55 : decode cX12_mendedOf 55 = .ok (.aload_n 0, 1) := by decide +kernel
theorem dX12_mendedOf_56 : decode cX12_mendedOf 56 = .ok (.iload_n 2, 1) := by decide +kernel
theorem dX12_mendedOf_57 : decode cX12_mendedOf 57 = .ok (.iconst 1, 1) := by decide +kernel
theorem dX12_mendedOf_58 : decode cX12_mendedOf 58 = .ok (.isub, 1) := by decide +kernel
theorem dX12_mendedOf_59 : decode cX12_mendedOf 59 = .ok (.invokevirtual 211, 3) := by decide +kernel
theorem dX12_mendedOf_62 : decode cX12_mendedOf 62 = .ok (.iload 4, 2) := by decide +kernel
theorem dX12_mendedOf_64 : decode cX12_mendedOf 64 = .ok (.invokestatic 229, 3) := by decide +kernel
theorem dX12_mendedOf_67 : decode cX12_mendedOf 67 = .ok (.ifCond .eq 63, 3) := by decide +kernel
theorem dX12_mendedOf_70 : decode cX12_mendedOf 70 = .ok (.aload_n 0, 1) := by decide +kernel
theorem dX12_mendedOf_71 : decode cX12_mendedOf 71 = .ok (.iload 4, 2) := by decide +kernel
theorem dX12_mendedOf_73 : decode cX12_mendedOf 73 = .ok (.iload_n 1, 1) := by decide +kernel
theorem dX12_mendedOf_74 : decode cX12_mendedOf 74 = .ok (.invokevirtual 300, 3) := by decide +kernel
theorem dX12_mendedOf_77 : decode cX12_mendedOf 77 = .ok (.sipush 9999, 3) := by decide +kernel
theorem dX12_mendedOf_80 : decode cX12_mendedOf 80 = .ok (.if_icmp .ne 6, 3) := by decide +kernel
theorem dX12_mendedOf_83 : decode cX12_mendedOf 83 = .ok (.goto 47, 3) := by decide +kernel
theorem dX12_mendedOf_86 : decode cX12_mendedOf 86 = .ok (.aload_n 0, 1) := by decide +kernel
theorem dX12_mendedOf_87 : decode cX12_mendedOf 87 = .ok (.iload 4, 2) := by decide +kernel
theorem dX12_mendedOf_89 : decode cX12_mendedOf 89 = .ok (.iload_n 1, 1) := by decide +kernel
theorem dX12_mendedOf_90 : decode cX12_mendedOf 90 = .ok (.invokevirtual 300, 3) := by decide +kernel
theorem dX12_mendedOf_93 : decode cX12_mendedOf 93 = .ok (.aload_n 0, 1) := by decide +kernel
theorem dX12_mendedOf_94 : decode cX12_mendedOf 94 = .ok (.getfield 44, 3) := by decide +kernel
theorem dX12_mendedOf_97 : decode cX12_mendedOf 97 = .ok (.bipush 11, 2) := by decide +kernel
theorem dX12_mendedOf_99 : decode cX12_mendedOf 99 = .ok (.iload_n 1, 1) := by decide +kernel
theorem dX12_mendedOf_100 : decode cX12_mendedOf 100 = .ok (.aload_n 0, 1) := by decide +kernel
theorem dX12_mendedOf_101 : decode cX12_mendedOf 101 = .ok (.iload 4, 2) := by decide +kernel
theorem dX12_mendedOf_103 : decode cX12_mendedOf 103 = .ok (.invokevirtual 205, 3) := by decide +kernel
theorem dX12_mendedOf_106 : decode cX12_mendedOf 106 = .ok (.iadd, 1) := by decide +kernel
theorem dX12_mendedOf_107 : decode cX12_mendedOf 107 = .ok (.imul, 1) := by decide +kernel
theorem dX12_mendedOf_108 : decode cX12_mendedOf 108 = .ok (.iload 4, 2) := by decide +kernel
theorem dX12_mendedOf_110 : decode cX12_mendedOf 110 = .ok (.iadd, 1) := by decide +kernel
theorem dX12_mendedOf_111 : decode cX12_mendedOf 111 = .ok (.iconst 1, 1) := by decide +kernel
theorem dX12_mendedOf_112 : decode cX12_mendedOf 112 = .ok (.iadd, 1) := by decide +kernel
theorem dX12_mendedOf_113 : decode cX12_mendedOf 113 = .ok (.iaload, 1) := by decide +kernel
theorem dX12_mendedOf_114 : decode cX12_mendedOf 114 = .ok (.iadd, 1) := by decide +kernel
theorem dX12_mendedOf_115 : decode cX12_mendedOf 115 = .ok (.istore 5, 2) := by decide +kernel
theorem dX12_mendedOf_117 : decode cX12_mendedOf 117 = .ok (.iload 5, 2) := by decide +kernel
theorem dX12_mendedOf_119 : decode cX12_mendedOf 119 = .ok (.iload_n 3, 1) := by decide +kernel
theorem dX12_mendedOf_120 : decode cX12_mendedOf 120 = .ok (.if_icmp .ge 8, 3) := by decide +kernel
theorem dX12_mendedOf_123 : decode cX12_mendedOf 123 = .ok (.iload 5, 2) := by decide +kernel
theorem dX12_mendedOf_125 : decode cX12_mendedOf 125 = .ok (.goto 4, 3) := by decide +kernel
theorem dX12_mendedOf_128 : decode cX12_mendedOf 128 = .ok (.iload_n 3, 1) := by decide +kernel
theorem dX12_mendedOf_129 : decode cX12_mendedOf 129 = .ok (.istore_n 3, 1) := by decide +kernel
theorem dX12_mendedOf_130 : decode cX12_mendedOf 130 = .ok (.iinc 4 1, 3) := by decide +kernel
theorem dX12_mendedOf_133 : decode cX12_mendedOf 133 = .ok (.goto (-95), 3) := by decide +kernel
theorem dX12_mendedOf_136 : decode cX12_mendedOf 136 = .ok (.aload_n 0, 1) := by decide +kernel
theorem dX12_mendedOf_137 : decode cX12_mendedOf 137 = .ok (.getfield 44, 3) := by decide +kernel
theorem dX12_mendedOf_140 : decode cX12_mendedOf 140 = .ok (.bipush 11, 2) := by decide +kernel
theorem dX12_mendedOf_142 : decode cX12_mendedOf 142 = .ok (.iload_n 1, 1) := by decide +kernel
theorem dX12_mendedOf_143 : decode cX12_mendedOf 143 = .ok (.imul, 1) := by decide +kernel
theorem dX12_mendedOf_144 : decode cX12_mendedOf 144 = .ok (.iload_n 2, 1) := by decide +kernel
theorem dX12_mendedOf_145 : decode cX12_mendedOf 145 = .ok (.iadd, 1) := by decide +kernel
theorem dX12_mendedOf_146 : decode cX12_mendedOf 146 = .ok (.iload_n 3, 1) := by decide +kernel
theorem dX12_mendedOf_147 : decode cX12_mendedOf 147 = .ok (.iastore, 1) := by decide +kernel
theorem dX12_mendedOf_148 : decode cX12_mendedOf 148 = .ok (.iinc 2 1, 3) := by decide +kernel
theorem dX12_mendedOf_151 : decode cX12_mendedOf 151 = .ok (.goto (-140), 3) := by decide +kernel
theorem dX12_mendedOf_154 : decode cX12_mendedOf 154 = .ok (.iinc 1 (-1), 3) := by decide +kernel
theorem dX12_mendedOf_157 : decode cX12_mendedOf 157 = .ok (.goto (-152), 3) := by decide +kernel
theorem dX12_mendedOf_160 : decode cX12_mendedOf 160 = .ok (.aload_n 0, 1) := by decide +kernel
theorem dX12_mendedOf_161 : decode cX12_mendedOf 161 = .ok (.getfield 44, 3) := by decide +kernel
theorem dX12_mendedOf_164 : decode cX12_mendedOf 164 = .ok (.iconst 0, 1) := by decide +kernel
theorem dX12_mendedOf_165 : decode cX12_mendedOf 165 = .ok (.iaload, 1) := by decide +kernel
theorem dX12_mendedOf_166 : decode cX12_mendedOf 166 = .ok (.sipush 9999, 3) := by decide +kernel
theorem dX12_mendedOf_169 : decode cX12_mendedOf 169 = .ok (.if_icmp .lt 7, 3) := by decide +kernel
theorem dX12_mendedOf_172 : decode cX12_mendedOf 172 = .ok (.iconst (-1), 1) := by decide +kernel
theorem dX12_mendedOf_173 : decode cX12_mendedOf 173 = .ok (.goto 9, 3) := by decide +kernel
theorem dX12_mendedOf_176 : decode cX12_mendedOf 176 = .ok (.aload_n 0, 1) := by decide +kernel
theorem dX12_mendedOf_177 : decode cX12_mendedOf 177 = .ok (.getfield 44, 3) := by decide +kernel
theorem dX12_mendedOf_180 : decode cX12_mendedOf 180 = .ok (.iconst 0, 1) := by decide +kernel
theorem dX12_mendedOf_181 : decode cX12_mendedOf 181 = .ok (.iaload, 1) := by decide +kernel
theorem dX12_mendedOf_182 : decode cX12_mendedOf 182 = .ok (.ireturn, 1) := by decide +kernel
set_option maxRecDepth 10000 in
theorem wX12_mendedOf_0 {g : zG} {I : Nat → Nat → Int32} {P : Nat → Nat → Option Nat} {r : Option Value} {h' : zH} {a0 : Nat} (H : zk g a0 12 ∧ Zt none mX12_mendedOf 0 0 5 [(0, .ref a0), (1, .int (I a0 27))] [] (g, I, P) r h') : Zt none mX12_mendedOf 0 0 0 [(0, .ref a0)] [] (g, I, P) r h' := by
  refine z_aload_n 0 dX12_mendedOf_0 rfl rfl (z_getI dX12_mendedOf_1 wf_X12_269 (by decide) (by decide) rfl H.1 (z_istore_n (lv' := [(1, .int (I a0 27)), (0, .ref a0)]) dX12_mendedOf_4 (by decide) rfl ?_))
  exact z_less [1, 0] rfl H.2
theorem eX12_mendedOf {g : zG} {I : Nat → Nat → Int32} {P : Nat → Nat → Option Nat} {r : Option Value} {h' : zH} {a0 : Nat} (H : Zt none mX12_mendedOf 0 0 0 [(0, .ref a0)] [] (g, I, P) r h') : Cl mX12_mendedOf [.ref a0] (g, I, P) r h' := Cl.of (by decide) (Nat.le_of_ble_eq_true rfl) H
set_option maxRecDepth 10000 in
theorem wX12_mendedOf_5 {g : zG} {I : Nat → Nat → Int32} {P : Nat → Nat → Option Nat} {r : Option Value} {h' : zH} {a0 : Nat} {x1 : Int32} (H : ((x1 < 0) → zk g a0 12 ∧ ∃ b2, P a0 28 = some b2 ∧ zk g b2 13 ∧ vp_in 0 (g.2.2 b2) ∧ ((I b2 (0 : Int32).toNatClampNeg < 9999) → zk g a0 12 ∧ ∃ b6, P a0 28 = some b6 ∧ zk g b6 13 ∧ vp_in 0 (g.2.2 b6) ∧ r = some (.int (I b6 (0 : Int32).toNatClampNeg)) ∧ h' = (g, I, P)) ∧ ((¬ I b2 (0 : Int32).toNatClampNeg < 9999) → r = some (.int (-1)) ∧ h' = (g, I, P))) ∧ ((¬ x1 < 0) → Zt none mX12_mendedOf 0 0 11 [(0, .ref a0), (1, .int x1), (2, .int 0)] [] (g, I, P) r h')) : Zt none mX12_mendedOf 0 0 5 [(0, .ref a0), (1, .int x1)] [] (g, I, P) r h' := by
  refine z_iload_n 1 dX12_mendedOf_5 rfl ?_
  refine z_if_lt (t := 160) dX12_mendedOf_6 (by decide) (fun q => ?_) (fun q => ?_)
  · have H1 := H.1 q
    refine z_aload_n 0 dX12_mendedOf_160 rfl rfl ?_
    obtain ⟨oe4, b2, e4, H3⟩ := H1
    refine z_getP dX12_mendedOf_161 wf_X12_44 (by decide) (by decide) rfl oe4 (fun q => (by cases q.symm.trans e4)) (fun j q => ?_)
    cases q.symm.trans e4
    refine z_iconst (w := 0) dX12_mendedOf_164 (by decide) (z_iald dX12_mendedOf_165 H3.1 H3.2.1 (z_sipush (w := 9999) dX12_mendedOf_166 (by decide) ?_))
    refine z_icmp_lt (t := 176) dX12_mendedOf_169 (by decide) (fun q => ?_) (fun q => ?_)
    · have H5 := H3.2.2.1 q
      refine z_aload_n 0 dX12_mendedOf_176 rfl rfl ?_
      obtain ⟨oe8, b6, e8, H7⟩ := H5
      refine z_getP dX12_mendedOf_177 wf_X12_44 (by decide) (by decide) rfl oe8 (fun q => (by cases q.symm.trans e8)) (fun j q => ?_)
      cases q.symm.trans e8
      refine z_iconst (w := 0) dX12_mendedOf_180 (by decide) (z_iald dX12_mendedOf_181 H7.1 H7.2.1 ?_)
      obtain ⟨rfl, rfl⟩ := H7.2.2
      exact z_iret dX12_mendedOf_182 rfl (by decide) (by decide)
    · have H9 := H3.2.2.2 q
      refine z_iconst (w := (-1)) dX12_mendedOf_172 (by decide) (z_goto (t := 182) dX12_mendedOf_173 (by decide) ?_)
      obtain ⟨rfl, rfl⟩ := H9
      exact z_iret dX12_mendedOf_182 rfl (by decide) (by decide)
  · have H10 := H.2 q
    refine z_iconst (w := 0) dX12_mendedOf_9 (by decide) (z_istore_n (lv' := [(2, .int 0), (0, .ref a0), (1, .int x1)]) dX12_mendedOf_10 (by decide) rfl ?_)
    exact z_less [1, 2, 0] rfl H10
set_option maxRecDepth 10000 in
theorem wX12_mendedOf_11 {g : zG} {I : Nat → Nat → Int32} {P : Nat → Nat → Option Nat} {r : Option Value} {h' : zH} {a0 : Nat} {x1 : Int32} {x2 : Int32} (H : zk g a0 12 ∧ ((I a0 15 < x2) → Zt none mX12_mendedOf 0 0 5 [(0, .ref a0), (1, .int (x1 + (-1)))] [] (g, I, P) r h') ∧ ((¬ I a0 15 < x2) → zk g a0 12 ∧ ((¬ x1 = I a0 27) → Zt none mX12_mendedOf 0 0 38 [(0, .ref a0), (1, .int x1), (2, .int x2), (3, .int 9999), (4, .int 0)] [] (g, I, P) r h') ∧ ((x1 = I a0 27) → Zt none mX12_mendedOf 0 0 38 [(0, .ref a0), (1, .int x1), (2, .int x2), (3, .int 0), (4, .int 0)] [] (g, I, P) r h'))) : Zt none mX12_mendedOf 0 0 11 [(0, .ref a0), (1, .int x1), (2, .int x2)] [] (g, I, P) r h' := by
  refine z_iload_n 2 dX12_mendedOf_11 rfl (z_aload_n 0 dX12_mendedOf_12 rfl rfl (z_getI dX12_mendedOf_13 wf_X12_190 (by decide) (by decide) rfl H.1 ?_))
  refine z_icmp_gt (t := 154) dX12_mendedOf_16 (by decide) (fun q => ?_) (fun q => ?_)
  · have H1 := H.2.1 q
    refine z_iinc (y := x1 + (-1)) (lv' := [(1, .int (x1 + (-1))), (0, .ref a0), (2, .int x2)]) 1 dX12_mendedOf_154 rfl rfl (by decide) rfl (z_goto (t := 5) dX12_mendedOf_157 (by decide) ?_)
    exact z_less [1, 0] rfl H1
  · have H2 := H.2.2 q
    refine z_iload_n 1 dX12_mendedOf_19 rfl (z_aload_n 0 dX12_mendedOf_20 rfl rfl (z_getI dX12_mendedOf_21 wf_X12_269 (by decide) (by decide) rfl H2.1 ?_))
    refine z_icmp_ne (t := 31) dX12_mendedOf_24 (by decide) (fun q => ?_) (fun q => ?_)
    · have H3 := H2.2.1 q
      refine z_sipush (w := 9999) dX12_mendedOf_31 (by decide) (z_istore_n (lv' := [(3, .int 9999), (0, .ref a0), (1, .int x1), (2, .int x2)]) dX12_mendedOf_34 (by decide) rfl (z_iconst (w := 0) dX12_mendedOf_35 (by decide) (z_istore (lv' := [(4, .int 0), (3, .int 9999), (0, .ref a0), (1, .int x1), (2, .int x2)]) dX12_mendedOf_36 (by decide) rfl ?_)))
      exact z_less [2, 3, 4, 1, 0] rfl H3
    · have H4 := H2.2.2 q
      refine z_iconst (w := 0) dX12_mendedOf_27 (by decide) (z_goto (t := 34) dX12_mendedOf_28 (by decide) (z_istore_n (lv' := [(3, .int 0), (0, .ref a0), (1, .int x1), (2, .int x2)]) dX12_mendedOf_34 (by decide) rfl (z_iconst (w := 0) dX12_mendedOf_35 (by decide) (z_istore (lv' := [(4, .int 0), (3, .int 0), (0, .ref a0), (1, .int x1), (2, .int x2)]) dX12_mendedOf_36 (by decide) rfl ?_))))
      exact z_less [2, 3, 4, 1, 0] rfl H4
set_option maxRecDepth 10000 in
theorem wX12_mendedOf_38 {g : zG} {I : Nat → Nat → Int32} {P : Nat → Nat → Option Nat} {r : Option Value} {h' : zH} {a0 : Nat} {x1 : Int32} {x2 : Int32} {x3 : Int32} {x4 : Int32} (H : zk g a0 12 ∧ ((I a0 15 ≤ x4) → zk g a0 12 ∧ ∃ b2, P a0 28 = some b2 ∧ zk g b2 13 ∧ vp_in ((11 * x1) + x2) (g.2.2 b2) ∧ Zt none mX12_mendedOf 0 0 11 [(0, .ref a0), (1, .int x1), (2, .int (x2 + 1))] [] (g, zU I b2 ((11 * x1) + x2).toNatClampNeg x3, P) r h') ∧ ((¬ I a0 15 ≤ x4) → zk g a0 12 ∧ ((I a0 27 ≤ x1) → zk g a0 12 ∧ ∃ b7, P a0 28 = some b7 ∧ zk g b7 13 ∧ vp_in ((11 * x1) + x2) (g.2.2 b7) ∧ Zt none mX12_mendedOf 0 0 11 [(0, .ref a0), (1, .int x1), (2, .int (x2 + 1))] [] (g, zU I b7 ((11 * x1) + x2).toNatClampNeg x3, P) r h') ∧ ((¬ I a0 27 ≤ x1) → zk g a0 12 ∧ ∃ (w11 : Int32), Cl mX12_behind [.ref a0, .int (x2 - 1)] (g, I, P) (some (.int w11)) (g, I, P) ∧ ∃ (w14 : Int32), Cl mX12_holds [.int w11, .int x4] (g, I, P) (some (.int w14)) (g, I, P) ∧ ((w14 = 0) → Zt none mX12_mendedOf 0 0 38 [(0, .ref a0), (1, .int x1), (2, .int x2), (3, .int x3), (4, .int (x4 + 1))] [] (g, I, P) r h') ∧ ((¬ w14 = 0) → zk g a0 12 ∧ ∃ (w19 : Int32), Cl mX12_unlike [.ref a0, .int x4, .int x1] (g, I, P) (some (.int w19)) (g, I, P) ∧ ((¬ w19 = 9999) → zk g a0 12 ∧ ∃ (w23 : Int32), Cl mX12_unlike [.ref a0, .int x4, .int x1] (g, I, P) (some (.int w23)) (g, I, P) ∧ zk g a0 12 ∧ ∃ b26, P a0 28 = some b26 ∧ zk g a0 12 ∧ ∃ (w29 : Int32), Cl mX12_longOf [.ref a0, .int x4] (g, I, P) (some (.int w29)) (g, I, P) ∧ zk g b26 13 ∧ vp_in (((11 * (x1 + w29)) + x4) + 1) (g.2.2 b26) ∧ ∀ y32 : Int32, y32 = w23 + (I b26 (((11 * (x1 + w29)) + x4) + 1).toNatClampNeg) → ((x3 ≤ y32) → Zt none mX12_mendedOf 0 0 38 [(0, .ref a0), (1, .int x1), (2, .int x2), (3, .int x3), (4, .int (x4 + 1))] [] (g, I, P) r h') ∧ ((¬ x3 ≤ y32) → Zt none mX12_mendedOf 0 0 38 [(0, .ref a0), (1, .int x1), (2, .int x2), (3, .int y32), (4, .int (x4 + 1))] [] (g, I, P) r h')) ∧ ((w19 = 9999) → Zt none mX12_mendedOf 0 0 38 [(0, .ref a0), (1, .int x1), (2, .int x2), (3, .int x3), (4, .int (x4 + 1))] [] (g, I, P) r h'))))) : Zt none mX12_mendedOf 0 0 38 [(0, .ref a0), (1, .int x1), (2, .int x2), (3, .int x3), (4, .int x4)] [] (g, I, P) r h' := by
  refine z_iload 4 dX12_mendedOf_38 rfl (z_aload_n 0 dX12_mendedOf_40 rfl rfl (z_getI dX12_mendedOf_41 wf_X12_190 (by decide) (by decide) rfl H.1 ?_))
  refine z_icmp_ge (t := 136) dX12_mendedOf_44 (by decide) (fun q => ?_) (fun q => ?_)
  · have H1 := H.2.1 q
    refine z_aload_n 0 dX12_mendedOf_136 rfl rfl ?_
    obtain ⟨oe4, b2, e4, H3⟩ := H1
    refine z_getP dX12_mendedOf_137 wf_X12_44 (by decide) (by decide) rfl oe4 (fun q => (by cases q.symm.trans e4)) (fun j q => ?_)
    cases q.symm.trans e4
    refine z_bipush (w := 11) dX12_mendedOf_140 (by decide) (z_iload_n 1 dX12_mendedOf_142 rfl (z_imul dX12_mendedOf_143 (z_iload_n 2 dX12_mendedOf_144 rfl (z_iadd dX12_mendedOf_145 (z_iload_n 3 dX12_mendedOf_146 rfl (z_iast (g := g) (I := I) (Q := P) dX12_mendedOf_147 H3.1 H3.2.1 (z_iinc (y := x2 + 1) (lv' := [(2, .int (x2 + 1)), (0, .ref a0), (1, .int x1), (3, .int x3), (4, .int x4)]) 2 dX12_mendedOf_148 rfl rfl (by decide) rfl (z_goto (t := 11) dX12_mendedOf_151 (by decide) ?_))))))))
    exact z_less [1, 2, 0] rfl H3.2.2
  · have H5 := H.2.2 q
    refine z_iload_n 1 dX12_mendedOf_47 rfl (z_aload_n 0 dX12_mendedOf_48 rfl rfl (z_getI dX12_mendedOf_49 wf_X12_269 (by decide) (by decide) rfl H5.1 ?_))
    refine z_icmp_ge (t := 136) dX12_mendedOf_52 (by decide) (fun q => ?_) (fun q => ?_)
    · have H6 := H5.2.1 q
      refine z_aload_n 0 dX12_mendedOf_136 rfl rfl ?_
      obtain ⟨oe9, b7, e9, H8⟩ := H6
      refine z_getP dX12_mendedOf_137 wf_X12_44 (by decide) (by decide) rfl oe9 (fun q => (by cases q.symm.trans e9)) (fun j q => ?_)
      cases q.symm.trans e9
      refine z_bipush (w := 11) dX12_mendedOf_140 (by decide) (z_iload_n 1 dX12_mendedOf_142 rfl (z_imul dX12_mendedOf_143 (z_iload_n 2 dX12_mendedOf_144 rfl (z_iadd dX12_mendedOf_145 (z_iload_n 3 dX12_mendedOf_146 rfl (z_iast (g := g) (I := I) (Q := P) dX12_mendedOf_147 H8.1 H8.2.1 (z_iinc (y := x2 + 1) (lv' := [(2, .int (x2 + 1)), (0, .ref a0), (1, .int x1), (3, .int x3), (4, .int x4)]) 2 dX12_mendedOf_148 rfl rfl (by decide) rfl (z_goto (t := 11) dX12_mendedOf_151 (by decide) ?_))))))))
      exact z_less [1, 2, 0] rfl H8.2.2
    · have H10 := H5.2.2 q
      refine z_aload_n 0 dX12_mendedOf_55 rfl rfl (z_iload_n 2 dX12_mendedOf_56 rfl (z_iconst (w := 1) dX12_mendedOf_57 (by decide) (z_isub dX12_mendedOf_58 ?_)))
      obtain ⟨oc12, w11, c12, H13⟩ := H10
      refine z_virt (As := [.int (x2 - 1)]) (st := []) (r1 := (some (.int w11))) (h1 := (g, I, P)) dX12_mendedOf_59 kX12_behind wm_X12_211 ⟨by decide, by decide⟩ rfl rfl (Nat.le_of_ble_eq_true rfl) (by decide) (by decide) oc12 c12 ?_
      refine z_iload 4 dX12_mendedOf_62 rfl ?_
      obtain ⟨w14, c15, H16⟩ := H13
      refine z_stat (As := [.int w11, .int x4]) (st := []) (r1 := (some (.int w14))) (h1 := (g, I, P)) dX12_mendedOf_64 kX12_holds wm_X12_229 ⟨by decide, by decide⟩ rfl rfl (Nat.le_of_ble_eq_true rfl) (by decide) (by decide) c15 ?_
      refine z_if_eq (t := 130) dX12_mendedOf_67 (by decide) (fun q => ?_) (fun q => ?_)
      · have H17 := H16.1 q
        refine z_iinc (y := x4 + 1) (lv' := [(4, .int (x4 + 1)), (0, .ref a0), (1, .int x1), (2, .int x2), (3, .int x3)]) 4 dX12_mendedOf_130 rfl rfl (by decide) rfl (z_goto (t := 38) dX12_mendedOf_133 (by decide) ?_)
        exact z_less [1, 2, 3, 4, 0] rfl H17
      · have H18 := H16.2 q
        refine z_aload_n 0 dX12_mendedOf_70 rfl rfl (z_iload 4 dX12_mendedOf_71 rfl (z_iload_n 1 dX12_mendedOf_73 rfl ?_))
        obtain ⟨oc20, w19, c20, H21⟩ := H18
        refine z_virt (As := [.int x4, .int x1]) (st := []) (r1 := (some (.int w19))) (h1 := (g, I, P)) dX12_mendedOf_74 kX12_unlike wm_X12_300 ⟨by decide, by decide⟩ rfl rfl (Nat.le_of_ble_eq_true rfl) (by decide) (by decide) oc20 c20 ?_
        refine z_sipush (w := 9999) dX12_mendedOf_77 (by decide) ?_
        refine z_icmp_ne (t := 86) dX12_mendedOf_80 (by decide) (fun q => ?_) (fun q => ?_)
        · have H22 := H21.1 q
          refine z_aload_n 0 dX12_mendedOf_86 rfl rfl (z_iload 4 dX12_mendedOf_87 rfl (z_iload_n 1 dX12_mendedOf_89 rfl ?_))
          obtain ⟨oc24, w23, c24, H25⟩ := H22
          refine z_virt (As := [.int x4, .int x1]) (st := []) (r1 := (some (.int w23))) (h1 := (g, I, P)) dX12_mendedOf_90 kX12_unlike wm_X12_300 ⟨by decide, by decide⟩ rfl rfl (Nat.le_of_ble_eq_true rfl) (by decide) (by decide) oc24 c24 ?_
          refine z_aload_n 0 dX12_mendedOf_93 rfl rfl ?_
          obtain ⟨oe28, b26, e28, H27⟩ := H25
          refine z_getP dX12_mendedOf_94 wf_X12_44 (by decide) (by decide) rfl oe28 (fun q => (by cases q.symm.trans e28)) (fun j q => ?_)
          cases q.symm.trans e28
          refine z_bipush (w := 11) dX12_mendedOf_97 (by decide) (z_iload_n 1 dX12_mendedOf_99 rfl (z_aload_n 0 dX12_mendedOf_100 rfl rfl (z_iload 4 dX12_mendedOf_101 rfl ?_)))
          obtain ⟨oc30, w29, c30, H31⟩ := H27
          refine z_virt (As := [.int x4]) (st := [.int x1, .int 11, .ref b26, .int w23]) (r1 := (some (.int w29))) (h1 := (g, I, P)) dX12_mendedOf_103 kX12_longOf wm_X12_205 ⟨by decide, by decide⟩ rfl rfl (Nat.le_of_ble_eq_true rfl) (by decide) (by decide) oc30 c30 ?_
          refine z_iadd dX12_mendedOf_106 (z_imul dX12_mendedOf_107 (z_iload 4 dX12_mendedOf_108 rfl (z_iadd dX12_mendedOf_110 (z_iconst (w := 1) dX12_mendedOf_111 (by decide) (z_iadd dX12_mendedOf_112 (z_iald dX12_mendedOf_113 H31.1 H31.2.1 (z_iadd dX12_mendedOf_114 ?_)))))))
          refine z_nm (fun y32 e_y32 => ?_)
          have H33 := H31.2.2 y32 e_y32
          refine z_istore (lv' := [(5, .int y32), (0, .ref a0), (1, .int x1), (2, .int x2), (3, .int x3), (4, .int x4)]) dX12_mendedOf_115 (by decide) rfl (z_iload 0 dX12_mendedOf_117 rfl (z_iload_n 4 dX12_mendedOf_119 rfl ?_))
          refine z_icmp_ge (t := 128) dX12_mendedOf_120 (by decide) (fun q => ?_) (fun q => ?_)
          · have H34 := H33.1 q
            refine z_iload_n 4 dX12_mendedOf_128 rfl (z_istore_n (lv' := [(3, .int x3), (5, .int y32), (0, .ref a0), (1, .int x1), (2, .int x2), (4, .int x4)]) dX12_mendedOf_129 (by decide) rfl (z_iinc (y := x4 + 1) (lv' := [(4, .int (x4 + 1)), (3, .int x3), (5, .int y32), (0, .ref a0), (1, .int x1), (2, .int x2)]) 5 dX12_mendedOf_130 rfl rfl (by decide) rfl (z_goto (t := 38) dX12_mendedOf_133 (by decide) ?_)))
            exact z_less [3, 4, 5, 1, 0] rfl H34
          · have H35 := H33.2 q
            refine z_iload 0 dX12_mendedOf_123 rfl (z_goto (t := 129) dX12_mendedOf_125 (by decide) (z_istore_n (lv' := [(3, .int y32), (5, .int y32), (0, .ref a0), (1, .int x1), (2, .int x2), (4, .int x4)]) dX12_mendedOf_129 (by decide) rfl (z_iinc (y := x4 + 1) (lv' := [(4, .int (x4 + 1)), (3, .int y32), (5, .int y32), (0, .ref a0), (1, .int x1), (2, .int x2)]) 5 dX12_mendedOf_130 rfl rfl (by decide) rfl (z_goto (t := 38) dX12_mendedOf_133 (by decide) ?_))))
            exact z_less [3, 4, 5, 1, 0] rfl H35
        · have H36 := H21.2 q
          refine z_goto (t := 130) dX12_mendedOf_83 (by decide) (z_iinc (y := x4 + 1) (lv' := [(4, .int (x4 + 1)), (0, .ref a0), (1, .int x1), (2, .int x2), (3, .int x3)]) 4 dX12_mendedOf_130 rfl rfl (by decide) rfl (z_goto (t := 38) dX12_mendedOf_133 (by decide) ?_))
          exact z_less [1, 2, 3, 4, 0] rfl H36
theorem dX12_next_0 : decode cX12_next 0 = .ok (.aload_n 0, 1) := by decide +kernel
theorem dX12_next_1 : decode cX12_next 1 = .ok (.iload_n 1, 1) := by decide +kernel
theorem dX12_next_2 : decode cX12_next 2 = .ok (.invokevirtual 196, 3) := by decide +kernel
theorem dX12_next_5 : decode cX12_next 5 = .ok (.ifCond .eq 22, 3) := by decide +kernel
theorem dX12_next_8 : decode cX12_next 8 = .ok (.aload_n 0, 1) := by decide +kernel
theorem dX12_next_9 : decode cX12_next 9 = .ok (.iload_n 2, 1) := by decide +kernel
theorem dX12_next_10 : decode cX12_next 10 = .ok (.iload_n 3, 1) := by decide +kernel
theorem dX12_next_11 : decode cX12_next 11 = .ok (.invokevirtual 272, 3) := by decide +kernel
theorem dX12_next_14 : decode cX12_next 14 = .ok (.ifCond .eq 13, 3) := by decide +kernel
theorem dX12_next_17 : decode cX12_next 17 = .ok (.iload 4, 2) := by decide +kernel
theorem dX12_next_19 : decode cX12_next 19 = .ok (.iconst 0, 1) := by decide +kernel
theorem dX12_next_20 : decode cX12_next 20 = .ok (.iconst 2, 1) := by decide +kernel
theorem dX12_next_21 : decode cX12_next 21 = .ok (.invokestatic 120, 3) := by decide +kernel
theorem dX12_next_24 : decode cX12_next 24 = .ok (.ifCond .ne 6, 3) := by decide +kernel
theorem dX12_next_27 : decode cX12_next 27 = .ok (.bipush (-2), 2) := by decide +kernel
theorem dX12_next_29 : decode cX12_next 29 = .ok (.ireturn, 1) := by decide +kernel
theorem dX12_next_30 : decode cX12_next 30 = .ok (.iload 4, 2) := by decide +kernel
theorem dX12_next_32 : decode cX12_next 32 = .ok (.iconst 2, 1) := by decide +kernel
theorem dX12_next_33 : decode cX12_next 33 = .ok (.if_icmp .ne 8, 3) := by decide +kernel
theorem dX12_next_36 : decode cX12_next 36 = .ok (.aload_n 0, 1) := by decide +kernel
theorem dX12_next_37 : decode cX12_next 37 = .ok (.invokevirtual 306, 3) := by decide +kernel
theorem dX12_next_40 : decode cX12_next 40 = .ok (.ireturn, 1) := by decide +kernel
theorem dX12_next_41 : decode cX12_next 41 = .ok (.aload_n 0, 1) := by decide +kernel
theorem dX12_next_42 : decode cX12_next 42 = .ok (.invokevirtual 278, 3) := by decide +kernel
theorem dX12_next_45 : decode cX12_next 45 = .ok (.istore 5, 2) := by decide +kernel
theorem dX12_next_47 : decode cX12_next 47 = .ok (.iconst 0, 1) := by decide +kernel
theorem dX12_next_48 : decode cX12_next 48 = .ok (.istore 6, 2) := by decide +kernel
theorem dX12_next_50 : decode cX12_next 50 = .ok (.iconst (-1), 1) := by decide +kernel
theorem dX12_next_51 : decode cX12_next 51 = .ok (.istore 7, 2) := by decide +kernel
theorem dX12_next_53 : decode cX12_next 53 = .ok (.iconst 0, 1) := by decide +kernel
theorem dX12_next_54 : decode cX12_next 54 = .ok (.istore 8, 2) := by decide +kernel
theorem dX12_next_56 : decode cX12_next 56 = .ok (.iconst 0, 1) := by decide +kernel
theorem dX12_next_57 : decode cX12_next 57 = .ok (.istore 9, 2) := by decide +kernel
theorem dX12_next_59 : decode cX12_next 59 = .ok (.iload 9, 2) := by decide +kernel
theorem dX12_next_61 : decode cX12_next 61 = .ok (.bipush 6, 2) := by decide +kernel
theorem dX12_next_63 : decode cX12_next 63 = .ok (.if_icmp .ge 135, 3) := by decide +kernel
theorem dX12_next_66 : decode cX12_next 66 = .ok (.iconst 0, 1) := by decide +kernel
theorem dX12_next_67 : decode cX12_next 67 = .ok (.istore 10, 2) := by decide +kernel
theorem dX12_next_69 : decode cX12_next 69 = .ok (.iconst 0, 1) := by decide +kernel
theorem dX12_next_70 : decode cX12_next 70 = .ok (.istore 11, 2) := by decide +kernel
theorem dX12_next_72 : decode cX12_next 72 = .ok (.iconst 0, 1) := by decide +kernel
theorem dX12_next_73 : decode cX12_next 73 = .ok (.istore 12, 2) := by decide +kernel
theorem dX12_next_75 : decode cX12_next 75 = .ok (.iload 12, 2) := by decide +kernel
theorem dX12_next_77 : decode cX12_next 77 = .ok (.aload_n 0, 1) := by decide +kernel
theorem dX12_next_78 : decode cX12_next 78 = .ok (.getfield 190, 3) := by decide +kernel
theorem dX12_next_81 : decode cX12_next 81 = .ok (.if_icmp .ge 64, 3) := by decide +kernel
theorem dX12_next_84 : decode cX12_next 84 = .ok (.iload 5, 2) := by decide +kernel
theorem dX12_next_86 : decode cX12_next 86 = .ok (.iload 12, 2) := by decide +kernel
theorem dX12_next_88 : decode cX12_next 88 = .ok (.invokestatic 229, 3) := by decide +kernel
theorem dX12_next_91 : decode cX12_next 91 = .ok (.ifCond .eq 48, 3) := by decide +kernel
theorem dX12_next_94 : decode cX12_next 94 = .ok (.aload_n 0, 1) := by decide +kernel
theorem dX12_next_95 : decode cX12_next 95 = .ok (.iload 12, 2) := by decide +kernel
theorem dX12_next_97 : decode cX12_next 97 = .ok (.invokevirtual 205, 3) := by decide +kernel
theorem dX12_next_100 : decode cX12_next 100 = .ok (.aload_n 0, 1) := by decide +kernel
theorem dX12_next_101 : decode cX12_next 101 = .ok (.getfield 269, 3) := by decide +kernel
theorem dX12_next_104 : decode cX12_next 104 = .ok (.if_icmp .eq 35, 3) := by decide +kernel
theorem dX12_next_107 : decode cX12_next 107 = .ok (.aload_n 0, 1) := by decide +kernel
theorem dX12_next_108 : decode cX12_next 108 = .ok (.iload 12, 2) := by decide +kernel
theorem dX12_next_110 : decode cX12_next 110 = .ok (.aload_n 0, 1) := by decide +kernel
theorem dX12_next_111 : decode cX12_next 111 = .ok (.getfield 269, 3) := by decide +kernel
theorem dX12_next_114 : decode cX12_next 114 = .ok (.invokevirtual 214, 3) := by decide +kernel
theorem dX12_next_117 : decode cX12_next 117 = .ok (.iload 9, 2) := by decide +kernel
theorem dX12_next_119 : decode cX12_next 119 = .ok (.if_icmp .eq 6, 3) := by decide +kernel
theorem dX12_next_122 : decode cX12_next 122 = .ok (.goto 17, 3) := by decide +kernel
theorem dX12_next_125 : decode cX12_next 125 = .ok (.iconst 1, 1) := by decide +kernel
theorem dX12_next_126 : decode cX12_next 126 = .ok (.istore 11, 2) := by decide +kernel
theorem dX12_next_128 : decode cX12_next 128 = .ok (.iload 10, 2) := by decide +kernel
theorem dX12_next_130 : decode cX12_next 130 = .ok (.aload_n 0, 1) := by decide +kernel
theorem dX12_next_131 : decode cX12_next 131 = .ok (.iload 12, 2) := by decide +kernel
theorem dX12_next_133 : decode cX12_next 133 = .ok (.invokevirtual 208, 3) := by decide +kernel
theorem dX12_next_136 : decode cX12_next 136 = .ok (.iadd, 1) := by decide +kernel
theorem dX12_next_137 : decode cX12_next 137 = .ok (.istore 10, 2) := by decide +kernel
theorem dX12_next_139 : decode cX12_next 139 = .ok (.iinc 12 1, 3) := by decide +kernel
theorem dX12_next_142 : decode cX12_next 142 = .ok (.goto (-67), 3) := by decide +kernel
theorem dX12_next_145 : decode cX12_next 145 = .ok (.iload 6, 2) := by decide +kernel
theorem dX12_next_147 : decode cX12_next 147 = .ok (.iload 11, 2) := by decide +kernel
theorem dX12_next_149 : decode cX12_next 149 = .ok (.ifCond .eq 10, 3) := by decide +kernel
theorem dX12_next_152 : decode cX12_next 152 = .ok (.iconst 1, 1) := by decide +kernel
theorem dX12_next_153 : decode cX12_next 153 = .ok (.iload 9, 2) := by decide +kernel
theorem dX12_next_155 : decode cX12_next 155 = .ok (.ishl, 1) := by decide +kernel
theorem dX12_next_156 : decode cX12_next 156 = .ok (.goto 4, 3) := by decide +kernel
theorem dX12_next_159 : decode cX12_next 159 = .ok (.iconst 0, 1) := by decide +kernel
theorem dX12_next_160 : decode cX12_next 160 = .ok (.ior, 1) := by decide +kernel
theorem dX12_next_161 : decode cX12_next 161 = .ok (.istore 6, 2) := by decide +kernel
theorem dX12_next_163 : decode cX12_next 163 = .ok (.iload 11, 2) := by decide +kernel
theorem dX12_next_165 : decode cX12_next 165 = .ok (.ifCond .eq 27, 3) := by decide +kernel
theorem dX12_next_168 : decode cX12_next 168 = .ok (.iload 7, 2) := by decide +kernel
theorem dX12_next_170 : decode cX12_next 170 = .ok (.iconst (-1), 1) := by decide +kernel
theorem dX12_next_171 : decode cX12_next 171 = .ok (.if_icmp .eq 13, 3) := by decide +kernel
theorem dX12_next_174 : decode cX12_next 174 = .ok (.iload 10, 2) := by decide +kernel
theorem dX12_next_176 : decode cX12_next 176 = .ok (.iload 8, 2) := by decide +kernel
theorem dX12_next_178 : decode cX12_next 178 = .ok (.if_icmp .gt 6, 3) := by decide +kernel
theorem dX12_next_181 : decode cX12_next 181 = .ok (.goto 11, 3) := by decide +kernel
theorem dX12_next_184 : decode cX12_next 184 = .ok (.iload 9, 2) := by decide +kernel
theorem dX12_next_186 : decode cX12_next 186 = .ok (.istore 7, 2) := by decide +kernel
theorem dX12_next_188 : decode cX12_next 188 = .ok (.iload 10, 2) := by decide +kernel
theorem dX12_next_190 : decode cX12_next 190 = .ok (.istore 8, 2) := by decide +kernel
theorem dX12_next_192 : decode cX12_next 192 = .ok (.iinc 9 1, 3) := by decide +kernel
theorem dX12_next_195 : decode cX12_next 195 = .ok (.goto (-136), 3) := by decide +kernel
theorem dX12_next_198 : decode cX12_next 198 = .ok (.iload 4, 2) := by decide +kernel
theorem dX12_next_200 : decode cX12_next 200 = .ok (.ifCond .ne 8, 3) := by decide +kernel
theorem dX12_next_203 : decode cX12_next 203 = .ok (.iload 6, 2) := by decide +kernel
theorem dX12_next_205 : decode cX12_next 205 = .ok (.goto 5, 3) := by decide +kernel
theorem dX12_next_208 : decode cX12_next 208 = .ok (.iload 7, 2) := by decide +kernel
theorem dX12_next_210 : decode cX12_next 210 = .ok (.ireturn, 1) := by decide +kernel
set_option maxRecDepth 10000 in
theorem wX12_next_0 {g : zG} {I : Nat → Nat → Int32} {P : Nat → Nat → Option Nat} {r : Option Value} {h' : zH} {a0 : Nat} {x1 : Int32} {x2 : Int32} {x3 : Int32} {x4 : Int32} (H : zk g a0 12 ∧ ∃ (w1 : Int32) (I2 : Nat → Nat → Int32), Cl mX12_isHill [.ref a0, .int x1] (g, I, P) (some (.int w1)) (g, I2, P) ∧ ((w1 = 0) → r = some (.int (-2)) ∧ h' = (g, I2, P)) ∧ ((¬ w1 = 0) → zk g a0 12 ∧ ∃ (w7 : Int32) (I8 : Nat → Nat → Int32), Cl mX12_isLine [.ref a0, .int x2, .int x3] (g, I2, P) (some (.int w7)) (g, I8, P) ∧ ((w7 = 0) → r = some (.int (-2)) ∧ h' = (g, I8, P)) ∧ ((¬ w7 = 0) → ∃ (w13 : Int32), Cl mX12_isIn [.int x4, .int 0, .int 2] (g, I8, P) (some (.int w13)) (g, I8, P) ∧ ((¬ w13 = 0) → ((¬ x4 = 2) → zk g a0 12 ∧ ∃ (w18 : Int32), Cl mX12_saidOf [.ref a0] (g, I8, P) (some (.int w18)) (g, I8, P) ∧ Zt none mX12_next 0 0 59 [(0, .ref a0), (4, .int x4), (5, .int w18), (6, .int 0), (7, .int (-1)), (8, .int 0), (9, .int 0)] [] (g, I8, P) r h') ∧ ((x4 = 2) → zk g a0 12 ∧ ∃ (w22 : Int32) (I23 : Nat → Nat → Int32), Cl mX12_mendedOf [.ref a0] (g, I8, P) (some (.int w22)) (g, I23, P) ∧ r = some (.int w22) ∧ h' = (g, I23, P))) ∧ ((w13 = 0) → r = some (.int (-2)) ∧ h' = (g, I8, P))))) : Zt none mX12_next 0 0 0 [(0, .ref a0), (1, .int x1), (2, .int x2), (3, .int x3), (4, .int x4)] [] (g, I, P) r h' := by
  refine z_aload_n 0 dX12_next_0 rfl rfl (z_iload_n 1 dX12_next_1 rfl ?_)
  obtain ⟨oc3, w1, I2, c3, H4⟩ := H
  refine z_virt (As := [.int x1]) (st := []) (r1 := (some (.int w1))) (h1 := (g, I2, P)) dX12_next_2 kX12_isHill wm_X12_196 ⟨by decide, by decide⟩ rfl rfl (Nat.le_of_ble_eq_true rfl) (by decide) (by decide) oc3 c3 ?_
  refine z_if_eq (t := 27) dX12_next_5 (by decide) (fun q => ?_) (fun q => ?_)
  · have H5 := H4.1 q
    refine z_bipush (w := (-2)) dX12_next_27 (by decide) ?_
    obtain ⟨rfl, rfl⟩ := H5
    exact z_iret dX12_next_29 rfl (by decide) (by decide)
  · have H6 := H4.2 q
    refine z_aload_n 0 dX12_next_8 rfl rfl (z_iload_n 2 dX12_next_9 rfl (z_iload_n 3 dX12_next_10 rfl ?_))
    obtain ⟨oc9, w7, I8, c9, H10⟩ := H6
    refine z_virt (As := [.int x2, .int x3]) (st := []) (r1 := (some (.int w7))) (h1 := (g, I8, P)) dX12_next_11 kX12_isLine wm_X12_272 ⟨by decide, by decide⟩ rfl rfl (Nat.le_of_ble_eq_true rfl) (by decide) (by decide) oc9 c9 ?_
    refine z_if_eq (t := 27) dX12_next_14 (by decide) (fun q => ?_) (fun q => ?_)
    · have H11 := H10.1 q
      refine z_bipush (w := (-2)) dX12_next_27 (by decide) ?_
      obtain ⟨rfl, rfl⟩ := H11
      exact z_iret dX12_next_29 rfl (by decide) (by decide)
    · have H12 := H10.2 q
      refine z_iload 4 dX12_next_17 rfl (z_iconst (w := 0) dX12_next_19 (by decide) (z_iconst (w := 2) dX12_next_20 (by decide) ?_))
      obtain ⟨w13, c14, H15⟩ := H12
      refine z_stat (As := [.int x4, .int 0, .int 2]) (st := []) (r1 := (some (.int w13))) (h1 := (g, I8, P)) dX12_next_21 kX12_isIn wm_X12_120 ⟨by decide, by decide⟩ rfl rfl (Nat.le_of_ble_eq_true rfl) (by decide) (by decide) c14 ?_
      refine z_if_ne (t := 30) dX12_next_24 (by decide) (fun q => ?_) (fun q => ?_)
      · have H16 := H15.1 q
        refine z_iload 4 dX12_next_30 rfl (z_iconst (w := 2) dX12_next_32 (by decide) ?_)
        refine z_icmp_ne (t := 41) dX12_next_33 (by decide) (fun q => ?_) (fun q => ?_)
        · have H17 := H16.1 q
          refine z_aload_n 0 dX12_next_41 rfl rfl ?_
          obtain ⟨oc19, w18, c19, H20⟩ := H17
          refine z_virt (As := []) (st := []) (r1 := (some (.int w18))) (h1 := (g, I8, P)) dX12_next_42 kX12_saidOf wm_X12_278 ⟨by decide, by decide⟩ rfl rfl (Nat.le_of_ble_eq_true rfl) (by decide) (by decide) oc19 c19 ?_
          refine z_istore (lv' := [(5, .int w18), (0, .ref a0), (1, .int x1), (2, .int x2), (3, .int x3), (4, .int x4)]) dX12_next_45 (by decide) rfl (z_iconst (w := 0) dX12_next_47 (by decide) (z_istore (lv' := [(6, .int 0), (5, .int w18), (0, .ref a0), (1, .int x1), (2, .int x2), (3, .int x3), (4, .int x4)]) dX12_next_48 (by decide) rfl (z_iconst (w := (-1)) dX12_next_50 (by decide) (z_istore (lv' := [(7, .int (-1)), (6, .int 0), (5, .int w18), (0, .ref a0), (1, .int x1), (2, .int x2), (3, .int x3), (4, .int x4)]) dX12_next_51 (by decide) rfl (z_iconst (w := 0) dX12_next_53 (by decide) (z_istore (lv' := [(8, .int 0), (7, .int (-1)), (6, .int 0), (5, .int w18), (0, .ref a0), (1, .int x1), (2, .int x2), (3, .int x3), (4, .int x4)]) dX12_next_54 (by decide) rfl (z_iconst (w := 0) dX12_next_56 (by decide) (z_istore (lv' := [(9, .int 0), (8, .int 0), (7, .int (-1)), (6, .int 0), (5, .int w18), (0, .ref a0), (1, .int x1), (2, .int x2), (3, .int x3), (4, .int x4)]) dX12_next_57 (by decide) rfl ?_))))))))
          exact z_less [5, 9, 4, 3, 2, 1, 0] rfl H20
        · have H21 := H16.2 q
          refine z_aload_n 0 dX12_next_36 rfl rfl ?_
          obtain ⟨oc24, w22, I23, c24, H25⟩ := H21
          refine z_virt (As := []) (st := []) (r1 := (some (.int w22))) (h1 := (g, I23, P)) dX12_next_37 kX12_mendedOf wm_X12_306 ⟨by decide, by decide⟩ rfl rfl (Nat.le_of_ble_eq_true rfl) (by decide) (by decide) oc24 c24 ?_
          obtain ⟨rfl, rfl⟩ := H25
          exact z_iret dX12_next_40 rfl (by decide) (by decide)
      · have H26 := H15.2 q
        refine z_bipush (w := (-2)) dX12_next_27 (by decide) ?_
        obtain ⟨rfl, rfl⟩ := H26
        exact z_iret dX12_next_29 rfl (by decide) (by decide)
theorem eX12_next {g : zG} {I : Nat → Nat → Int32} {P : Nat → Nat → Option Nat} {r : Option Value} {h' : zH} {a0 : Nat} {x1 : Int32} {x2 : Int32} {x3 : Int32} {x4 : Int32} (H : Zt none mX12_next 0 0 0 [(0, .ref a0), (1, .int x1), (2, .int x2), (3, .int x3), (4, .int x4)] [] (g, I, P) r h') : Cl mX12_next [.ref a0, .int x1, .int x2, .int x3, .int x4] (g, I, P) r h' := Cl.of (by decide) (Nat.le_of_ble_eq_true rfl) H
set_option maxRecDepth 10000 in
theorem wX12_next_59 {g : zG} {I : Nat → Nat → Int32} {P : Nat → Nat → Option Nat} {r : Option Value} {h' : zH} {a0 : Nat} {x4 : Int32} {x5 : Int32} {x6 : Int32} {x7 : Int32} {x8 : Int32} {x9 : Int32} (H : ((6 ≤ x9) → ((¬ x4 = 0) → r = some (.int x7) ∧ h' = (g, I, P)) ∧ ((x4 = 0) → r = some (.int x6) ∧ h' = (g, I, P))) ∧ ((¬ 6 ≤ x9) → Zt none mX12_next 0 0 75 [(0, .ref a0), (4, .int x4), (5, .int x5), (6, .int x6), (7, .int x7), (8, .int x8), (9, .int x9), (10, .int 0), (11, .int 0), (12, .int 0)] [] (g, I, P) r h')) : Zt none mX12_next 0 0 59 [(0, .ref a0), (4, .int x4), (5, .int x5), (6, .int x6), (7, .int x7), (8, .int x8), (9, .int x9)] [] (g, I, P) r h' := by
  refine z_iload 6 dX12_next_59 rfl (z_bipush (w := 6) dX12_next_61 (by decide) ?_)
  refine z_icmp_ge (t := 198) dX12_next_63 (by decide) (fun q => ?_) (fun q => ?_)
  · have H1 := H.1 q
    refine z_iload 1 dX12_next_198 rfl ?_
    refine z_if_ne (t := 208) dX12_next_200 (by decide) (fun q => ?_) (fun q => ?_)
    · have H2 := H1.1 q
      refine z_iload 4 dX12_next_208 rfl ?_
      obtain ⟨rfl, rfl⟩ := H2
      exact z_iret dX12_next_210 rfl (by decide) (by decide)
    · have H3 := H1.2 q
      refine z_iload 3 dX12_next_203 rfl (z_goto (t := 210) dX12_next_205 (by decide) ?_)
      obtain ⟨rfl, rfl⟩ := H3
      exact z_iret dX12_next_210 rfl (by decide) (by decide)
  · have H4 := H.2 q
    refine z_iconst (w := 0) dX12_next_66 (by decide) (z_istore (lv' := [(10, .int 0), (0, .ref a0), (4, .int x4), (5, .int x5), (6, .int x6), (7, .int x7), (8, .int x8), (9, .int x9)]) dX12_next_67 (by decide) rfl (z_iconst (w := 0) dX12_next_69 (by decide) (z_istore (lv' := [(11, .int 0), (10, .int 0), (0, .ref a0), (4, .int x4), (5, .int x5), (6, .int x6), (7, .int x7), (8, .int x8), (9, .int x9)]) dX12_next_70 (by decide) rfl (z_iconst (w := 0) dX12_next_72 (by decide) (z_istore (lv' := [(12, .int 0), (11, .int 0), (10, .int 0), (0, .ref a0), (4, .int x4), (5, .int x5), (6, .int x6), (7, .int x7), (8, .int x8), (9, .int x9)]) dX12_next_73 (by decide) rfl ?_)))))
    exact z_less [3, 4, 5, 6, 7, 8, 9, 2, 1, 0] rfl H4
set_option maxRecDepth 10000 in
theorem wX12_next_75 {g : zG} {I : Nat → Nat → Int32} {P : Nat → Nat → Option Nat} {r : Option Value} {h' : zH} {a0 : Nat} {x4 : Int32} {x5 : Int32} {x6 : Int32} {x7 : Int32} {x8 : Int32} {x9 : Int32} {x10 : Int32} {x11 : Int32} {x12 : Int32} (H : zk g a0 12 ∧ ((I a0 15 ≤ x12) → ((x11 = 0) → Zt none mX12_next 0 0 160 [(0, .ref a0), (4, .int x4), (5, .int x5), (7, .int x7), (8, .int x8), (9, .int x9), (10, .int x10), (11, .int x11)] [.int 0, .int x6] (g, I, P) r h') ∧ ((¬ x11 = 0) → Zt none mX12_next 0 0 160 [(0, .ref a0), (4, .int x4), (5, .int x5), (7, .int x7), (8, .int x8), (9, .int x9), (10, .int x10), (11, .int x11)] [.int ((1 : Int32) <<< (x9 &&& 31)), .int x6] (g, I, P) r h')) ∧ ((¬ I a0 15 ≤ x12) → ∃ (w5 : Int32), Cl mX12_holds [.int x5, .int x12] (g, I, P) (some (.int w5)) (g, I, P) ∧ ((w5 = 0) → Zt none mX12_next 0 0 75 [(0, .ref a0), (4, .int x4), (5, .int x5), (6, .int x6), (7, .int x7), (8, .int x8), (9, .int x9), (10, .int x10), (11, .int x11), (12, .int (x12 + 1))] [] (g, I, P) r h') ∧ ((¬ w5 = 0) → zk g a0 12 ∧ ∃ (w10 : Int32), Cl mX12_longOf [.ref a0, .int x12] (g, I, P) (some (.int w10)) (g, I, P) ∧ zk g a0 12 ∧ ((w10 = I a0 27) → Zt none mX12_next 0 0 75 [(0, .ref a0), (4, .int x4), (5, .int x5), (6, .int x6), (7, .int x7), (8, .int x8), (9, .int x9), (10, .int x10), (11, .int x11), (12, .int (x12 + 1))] [] (g, I, P) r h') ∧ ((¬ w10 = I a0 27) → zk g a0 12 ∧ zk g a0 12 ∧ ∃ (w15 : Int32), Cl mX12_letterOf [.ref a0, .int x12, .int (I a0 27)] (g, I, P) (some (.int w15)) (g, I, P) ∧ ((w15 = x9) → zk g a0 12 ∧ ∃ (w19 : Int32), Cl mX12_oftenOf [.ref a0, .int x12] (g, I, P) (some (.int w19)) (g, I, P) ∧ Zt none mX12_next 0 0 75 [(0, .ref a0), (4, .int x4), (5, .int x5), (6, .int x6), (7, .int x7), (8, .int x8), (9, .int x9), (10, .int (x10 + w19)), (11, .int 1), (12, .int (x12 + 1))] [] (g, I, P) r h') ∧ ((¬ w15 = x9) → Zt none mX12_next 0 0 75 [(0, .ref a0), (4, .int x4), (5, .int x5), (6, .int x6), (7, .int x7), (8, .int x8), (9, .int x9), (10, .int x10), (11, .int x11), (12, .int (x12 + 1))] [] (g, I, P) r h'))))) : Zt none mX12_next 0 0 75 [(0, .ref a0), (4, .int x4), (5, .int x5), (6, .int x6), (7, .int x7), (8, .int x8), (9, .int x9), (10, .int x10), (11, .int x11), (12, .int x12)] [] (g, I, P) r h' := by
  refine z_iload 9 dX12_next_75 rfl (z_aload_n 0 dX12_next_77 rfl rfl (z_getI dX12_next_78 wf_X12_190 (by decide) (by decide) rfl H.1 ?_))
  refine z_icmp_ge (t := 145) dX12_next_81 (by decide) (fun q => ?_) (fun q => ?_)
  · have H1 := H.2.1 q
    refine z_iload 3 dX12_next_145 rfl (z_iload 8 dX12_next_147 rfl ?_)
    refine z_if_eq (t := 159) dX12_next_149 (by decide) (fun q => ?_) (fun q => ?_)
    · have H2 := H1.1 q
      refine z_iconst (w := 0) dX12_next_159 (by decide) ?_
      exact z_less [0, 1, 2, 4, 5, 6, 7, 8] rfl H2
    · have H3 := H1.2 q
      refine z_iconst (w := 1) dX12_next_152 (by decide) (z_iload 6 dX12_next_153 rfl (z_ishl dX12_next_155 (z_goto (t := 160) dX12_next_156 (by decide) ?_)))
      exact z_less [0, 1, 2, 4, 5, 6, 7, 8] rfl H3
  · have H4 := H.2.2 q
    refine z_iload 2 dX12_next_84 rfl (z_iload 9 dX12_next_86 rfl ?_)
    obtain ⟨w5, c6, H7⟩ := H4
    refine z_stat (As := [.int x5, .int x12]) (st := []) (r1 := (some (.int w5))) (h1 := (g, I, P)) dX12_next_88 kX12_holds wm_X12_229 ⟨by decide, by decide⟩ rfl rfl (Nat.le_of_ble_eq_true rfl) (by decide) (by decide) c6 ?_
    refine z_if_eq (t := 139) dX12_next_91 (by decide) (fun q => ?_) (fun q => ?_)
    · have H8 := H7.1 q
      refine z_iinc (y := x12 + 1) (lv' := [(12, .int (x12 + 1)), (0, .ref a0), (4, .int x4), (5, .int x5), (6, .int x6), (7, .int x7), (8, .int x8), (9, .int x9), (10, .int x10), (11, .int x11)]) 9 dX12_next_139 rfl rfl (by decide) rfl (z_goto (t := 75) dX12_next_142 (by decide) ?_)
      exact z_less [1, 2, 3, 4, 5, 6, 7, 8, 9, 0] rfl H8
    · have H9 := H7.2 q
      refine z_aload_n 0 dX12_next_94 rfl rfl (z_iload 9 dX12_next_95 rfl ?_)
      obtain ⟨oc11, w10, c11, H12⟩ := H9
      refine z_virt (As := [.int x12]) (st := []) (r1 := (some (.int w10))) (h1 := (g, I, P)) dX12_next_97 kX12_longOf wm_X12_205 ⟨by decide, by decide⟩ rfl rfl (Nat.le_of_ble_eq_true rfl) (by decide) (by decide) oc11 c11 ?_
      refine z_aload_n 0 dX12_next_100 rfl rfl (z_getI dX12_next_101 wf_X12_269 (by decide) (by decide) rfl H12.1 ?_)
      refine z_icmp_eq (t := 139) dX12_next_104 (by decide) (fun q => ?_) (fun q => ?_)
      · have H13 := H12.2.1 q
        refine z_iinc (y := x12 + 1) (lv' := [(12, .int (x12 + 1)), (0, .ref a0), (4, .int x4), (5, .int x5), (6, .int x6), (7, .int x7), (8, .int x8), (9, .int x9), (10, .int x10), (11, .int x11)]) 9 dX12_next_139 rfl rfl (by decide) rfl (z_goto (t := 75) dX12_next_142 (by decide) ?_)
        exact z_less [1, 2, 3, 4, 5, 6, 7, 8, 9, 0] rfl H13
      · have H14 := H12.2.2 q
        refine z_aload_n 0 dX12_next_107 rfl rfl (z_iload 9 dX12_next_108 rfl (z_aload_n 0 dX12_next_110 rfl rfl (z_getI dX12_next_111 wf_X12_269 (by decide) (by decide) rfl H14.1 ?_)))
        obtain ⟨oc16, w15, c16, H17⟩ := H14.2
        refine z_virt (As := [.int x12, .int (I a0 27)]) (st := []) (r1 := (some (.int w15))) (h1 := (g, I, P)) dX12_next_114 kX12_letterOf wm_X12_214 ⟨by decide, by decide⟩ rfl rfl (Nat.le_of_ble_eq_true rfl) (by decide) (by decide) oc16 c16 ?_
        refine z_iload 6 dX12_next_117 rfl ?_
        refine z_icmp_eq (t := 125) dX12_next_119 (by decide) (fun q => ?_) (fun q => ?_)
        · have H18 := H17.1 q
          refine z_iconst (w := 1) dX12_next_125 (by decide) (z_istore (lv' := [(11, .int 1), (0, .ref a0), (4, .int x4), (5, .int x5), (6, .int x6), (7, .int x7), (8, .int x8), (9, .int x9), (10, .int x10), (12, .int x12)]) dX12_next_126 (by decide) rfl (z_iload 8 dX12_next_128 rfl (z_aload_n 1 dX12_next_130 rfl rfl (z_iload 9 dX12_next_131 rfl ?_))))
          obtain ⟨oc20, w19, c20, H21⟩ := H18
          refine z_virt (As := [.int x12]) (st := [.int x10]) (r1 := (some (.int w19))) (h1 := (g, I, P)) dX12_next_133 kX12_oftenOf wm_X12_208 ⟨by decide, by decide⟩ rfl rfl (Nat.le_of_ble_eq_true rfl) (by decide) (by decide) oc20 c20 ?_
          refine z_iadd dX12_next_136 (z_istore (lv' := [(10, .int (x10 + w19)), (11, .int 1), (0, .ref a0), (4, .int x4), (5, .int x5), (6, .int x6), (7, .int x7), (8, .int x8), (9, .int x9), (12, .int x12)]) dX12_next_137 (by decide) rfl (z_iinc (y := x12 + 1) (lv' := [(12, .int (x12 + 1)), (10, .int (x10 + w19)), (11, .int 1), (0, .ref a0), (4, .int x4), (5, .int x5), (6, .int x6), (7, .int x7), (8, .int x8), (9, .int x9)]) 9 dX12_next_139 rfl rfl (by decide) rfl (z_goto (t := 75) dX12_next_142 (by decide) ?_)))
          exact z_less [3, 4, 5, 6, 7, 8, 9, 1, 2, 0] rfl H21
        · have H22 := H17.2 q
          refine z_goto (t := 139) dX12_next_122 (by decide) (z_iinc (y := x12 + 1) (lv' := [(12, .int (x12 + 1)), (0, .ref a0), (4, .int x4), (5, .int x5), (6, .int x6), (7, .int x7), (8, .int x8), (9, .int x9), (10, .int x10), (11, .int x11)]) 9 dX12_next_139 rfl rfl (by decide) rfl (z_goto (t := 75) dX12_next_142 (by decide) ?_))
          exact z_less [1, 2, 3, 4, 5, 6, 7, 8, 9, 0] rfl H22
set_option maxRecDepth 10000 in
theorem wX12_next_160 {g : zG} {I : Nat → Nat → Int32} {P : Nat → Nat → Option Nat} {r : Option Value} {h' : zH} {a0 : Nat} {x4 : Int32} {x5 : Int32} {x7 : Int32} {x8 : Int32} {x9 : Int32} {x10 : Int32} {x11 : Int32} {xs0 : Int32} {xs1 : Int32} (H : ((x11 = 0) → Zt none mX12_next 0 0 59 [(0, .ref a0), (4, .int x4), (5, .int x5), (6, .int (xs0 ||| xs1)), (7, .int x7), (8, .int x8), (9, .int (x9 + 1))] [] (g, I, P) r h') ∧ ((¬ x11 = 0) → ((x7 = (-1)) → Zt none mX12_next 0 0 59 [(0, .ref a0), (4, .int x4), (5, .int x5), (6, .int (xs0 ||| xs1)), (7, .int x9), (8, .int x10), (9, .int (x9 + 1))] [] (g, I, P) r h') ∧ ((¬ x7 = (-1)) → ((x8 < x10) → Zt none mX12_next 0 0 59 [(0, .ref a0), (4, .int x4), (5, .int x5), (6, .int (xs0 ||| xs1)), (7, .int x9), (8, .int x10), (9, .int (x9 + 1))] [] (g, I, P) r h') ∧ ((¬ x8 < x10) → Zt none mX12_next 0 0 59 [(0, .ref a0), (4, .int x4), (5, .int x5), (6, .int (xs0 ||| xs1)), (7, .int x7), (8, .int x8), (9, .int (x9 + 1))] [] (g, I, P) r h')))) : Zt none mX12_next 0 0 160 [(0, .ref a0), (4, .int x4), (5, .int x5), (7, .int x7), (8, .int x8), (9, .int x9), (10, .int x10), (11, .int x11)] [.int xs1, .int xs0] (g, I, P) r h' := by
  refine z_ior dX12_next_160 (z_istore (lv' := [(6, .int (xs0 ||| xs1)), (0, .ref a0), (4, .int x4), (5, .int x5), (7, .int x7), (8, .int x8), (9, .int x9), (10, .int x10), (11, .int x11)]) dX12_next_161 (by decide) rfl (z_iload 8 dX12_next_163 rfl ?_))
  refine z_if_eq (t := 192) dX12_next_165 (by decide) (fun q => ?_) (fun q => ?_)
  · have H1 := H.1 q
    refine z_iinc (y := x9 + 1) (lv' := [(9, .int (x9 + 1)), (6, .int (xs0 ||| xs1)), (0, .ref a0), (4, .int x4), (5, .int x5), (7, .int x7), (8, .int x8), (10, .int x10), (11, .int x11)]) 6 dX12_next_192 rfl rfl (by decide) rfl (z_goto (t := 59) dX12_next_195 (by decide) ?_)
    exact z_less [2, 3, 4, 1, 5, 6, 0] rfl H1
  · have H2 := H.2 q
    refine z_iload 4 dX12_next_168 rfl (z_iconst (w := (-1)) dX12_next_170 (by decide) ?_)
    refine z_icmp_eq (t := 184) dX12_next_171 (by decide) (fun q => ?_) (fun q => ?_)
    · have H3 := H2.1 q
      refine z_iload 6 dX12_next_184 rfl (z_istore (lv' := [(7, .int x9), (6, .int (xs0 ||| xs1)), (0, .ref a0), (4, .int x4), (5, .int x5), (8, .int x8), (9, .int x9), (10, .int x10), (11, .int x11)]) dX12_next_186 (by decide) rfl (z_iload 7 dX12_next_188 rfl (z_istore (lv' := [(8, .int x10), (7, .int x9), (6, .int (xs0 ||| xs1)), (0, .ref a0), (4, .int x4), (5, .int x5), (9, .int x9), (10, .int x10), (11, .int x11)]) dX12_next_190 (by decide) rfl (z_iinc (y := x9 + 1) (lv' := [(9, .int (x9 + 1)), (8, .int x10), (7, .int x9), (6, .int (xs0 ||| xs1)), (0, .ref a0), (4, .int x4), (5, .int x5), (10, .int x10), (11, .int x11)]) 6 dX12_next_192 rfl rfl (by decide) rfl (z_goto (t := 59) dX12_next_195 (by decide) ?_)))))
      exact z_less [4, 5, 6, 3, 2, 1, 0] rfl H3
    · have H4 := H2.2 q
      refine z_iload 7 dX12_next_174 rfl (z_iload 5 dX12_next_176 rfl ?_)
      refine z_icmp_gt (t := 184) dX12_next_178 (by decide) (fun q => ?_) (fun q => ?_)
      · have H5 := H4.1 q
        refine z_iload 6 dX12_next_184 rfl (z_istore (lv' := [(7, .int x9), (6, .int (xs0 ||| xs1)), (0, .ref a0), (4, .int x4), (5, .int x5), (8, .int x8), (9, .int x9), (10, .int x10), (11, .int x11)]) dX12_next_186 (by decide) rfl (z_iload 7 dX12_next_188 rfl (z_istore (lv' := [(8, .int x10), (7, .int x9), (6, .int (xs0 ||| xs1)), (0, .ref a0), (4, .int x4), (5, .int x5), (9, .int x9), (10, .int x10), (11, .int x11)]) dX12_next_190 (by decide) rfl (z_iinc (y := x9 + 1) (lv' := [(9, .int (x9 + 1)), (8, .int x10), (7, .int x9), (6, .int (xs0 ||| xs1)), (0, .ref a0), (4, .int x4), (5, .int x5), (10, .int x10), (11, .int x11)]) 6 dX12_next_192 rfl rfl (by decide) rfl (z_goto (t := 59) dX12_next_195 (by decide) ?_)))))
        exact z_less [4, 5, 6, 3, 2, 1, 0] rfl H5
      · have H6 := H4.2 q
        refine z_goto (t := 192) dX12_next_181 (by decide) (z_iinc (y := x9 + 1) (lv' := [(9, .int (x9 + 1)), (6, .int (xs0 ||| xs1)), (0, .ref a0), (4, .int x4), (5, .int x5), (7, .int x7), (8, .int x8), (10, .int x10), (11, .int x11)]) 6 dX12_next_192 rfl rfl (by decide) rfl (z_goto (t := 59) dX12_next_195 (by decide) ?_))
        exact z_less [2, 3, 4, 1, 5, 6, 0] rfl H6
theorem dX12_takesWord_0 : decode cX12_takesWord 0 = .ok (.iconst 0, 1) := by decide +kernel
theorem dX12_takesWord_1 : decode cX12_takesWord 1 = .ok (.istore_n 3, 1) := by decide +kernel
theorem dX12_takesWord_2 : decode cX12_takesWord 2 = .ok (.iload_n 3, 1) := by decide +kernel
theorem dX12_takesWord_3 : decode cX12_takesWord 3 = .ok (.aload_n 0, 1) := by decide +kernel
theorem dX12_takesWord_4 : decode cX12_takesWord 4 = .ok (.iload_n 1, 1) := by decide +kernel
theorem dX12_takesWord_5 : decode cX12_takesWord 5 = .ok (.invokevirtual 205, 3) := by decide +kernel
theorem dX12_takesWord_8 : decode cX12_takesWord 8 = .ok (.if_icmp .ge 32, 3) := by decide +kernel
theorem dX12_takesWord_11 : decode cX12_takesWord 11 = .ok (.iload_n 2, 1) := by decide +kernel
theorem dX12_takesWord_12 : decode cX12_takesWord 12 = .ok (.ifCond .eq 10, 3) := by decide +kernel
theorem dX12_takesWord_15 : decode cX12_takesWord 15 = .ok (.aload_n 0, 1) := by decide +kernel
theorem dX12_takesWord_16 : decode cX12_takesWord 16 = .ok (.getfield 47, 3) := by decide +kernel
theorem dX12_takesWord_19 : decode cX12_takesWord 19 = .ok (.goto 7, 3) := by decide +kernel
theorem dX12_takesWord_22 : decode cX12_takesWord 22 = .ok (.aload_n 0, 1) := by decide +kernel
theorem dX12_takesWord_23 : decode cX12_takesWord 23 = .ok (.getfield 50, 3) := by decide +kernel
theorem dX12_takesWord_26 : decode cX12_takesWord 26 = .ok (.iload_n 3, 1) := by decide +kernel
theorem dX12_takesWord_27 : decode cX12_takesWord 27 = .ok (.aload_n 0, 1) := by decide +kernel
theorem dX12_takesWord_28 : decode cX12_takesWord 28 = .ok (.iload_n 1, 1) := by decide +kernel
theorem dX12_takesWord_29 : decode cX12_takesWord 29 = .ok (.iload_n 3, 1) := by decide +kernel
theorem dX12_takesWord_30 : decode cX12_takesWord 30 = .ok (.invokevirtual 214, 3) := by decide +kernel
theorem dX12_takesWord_33 : decode cX12_takesWord 33 = .ok (.iastore, 1) := by decide +kernel
theorem dX12_takesWord_34 : decode cX12_takesWord 34 = .ok (.iinc 3 1, 3) := by decide +kernel
theorem dX12_takesWord_37 : decode cX12_takesWord 37 = .ok (.goto (-35), 3) := by decide +kernel
theorem dX12_takesWord_40 : decode cX12_takesWord 40 = .ok (.iload_n 2, 1) := by decide +kernel
theorem dX12_takesWord_41 : decode cX12_takesWord 41 = .ok (.ifCond .eq 15, 3) := by decide +kernel
theorem dX12_takesWord_44 : decode cX12_takesWord 44 = .ok (.aload_n 0, 1) := by decide +kernel
theorem dX12_takesWord_45 : decode cX12_takesWord 45 = .ok (.aload_n 0, 1) := by decide +kernel
theorem dX12_takesWord_46 : decode cX12_takesWord 46 = .ok (.iload_n 1, 1) := by decide +kernel
theorem dX12_takesWord_47 : decode cX12_takesWord 47 = .ok (.invokevirtual 205, 3) := by decide +kernel
theorem dX12_takesWord_50 : decode cX12_takesWord 50 = .ok (.putfield 309, 3) := by decide +kernel
theorem dX12_takesWord_53 : decode cX12_takesWord 53 = .ok (.goto 12, 3) := by decide +kernel
theorem dX12_takesWord_56 : decode cX12_takesWord 56 = .ok (.aload_n 0, 1) := by decide +kernel
theorem dX12_takesWord_57 : decode cX12_takesWord 57 = .ok (.aload_n 0, 1) := by decide +kernel
theorem dX12_takesWord_58 : decode cX12_takesWord 58 = .ok (.iload_n 1, 1) := by decide +kernel
theorem dX12_takesWord_59 : decode cX12_takesWord 59 = .ok (.invokevirtual 205, 3) := by decide +kernel
theorem dX12_takesWord_62 : decode cX12_takesWord 62 = .ok (.putfield 312, 3) := by decide +kernel
theorem dX12_takesWord_65 : decode cX12_takesWord 65 = .ok (.return_, 1) := by decide +kernel
set_option maxRecDepth 10000 in
theorem wX12_takesWord_0 {g : zG} {I : Nat → Nat → Int32} {P : Nat → Nat → Option Nat} {r : Option Value} {h' : zH} {a0 : Nat} {x1 : Int32} {x2 : Int32} (H : Zt none mX12_takesWord 0 0 2 [(0, .ref a0), (1, .int x1), (2, .int x2), (3, .int 0)] [] (g, I, P) r h') : Zt none mX12_takesWord 0 0 0 [(0, .ref a0), (1, .int x1), (2, .int x2)] [] (g, I, P) r h' := by
  refine z_iconst (w := 0) dX12_takesWord_0 (by decide) (z_istore_n (lv' := [(3, .int 0), (0, .ref a0), (1, .int x1), (2, .int x2)]) dX12_takesWord_1 (by decide) rfl ?_)
  exact z_less [1, 2, 3, 0] rfl H
theorem eX12_takesWord {g : zG} {I : Nat → Nat → Int32} {P : Nat → Nat → Option Nat} {r : Option Value} {h' : zH} {a0 : Nat} {x1 : Int32} {x2 : Int32} (H : Zt none mX12_takesWord 0 0 0 [(0, .ref a0), (1, .int x1), (2, .int x2)] [] (g, I, P) r h') : Cl mX12_takesWord [.ref a0, .int x1, .int x2] (g, I, P) r h' := Cl.of (by decide) (Nat.le_of_ble_eq_true rfl) H
set_option maxRecDepth 10000 in
theorem wX12_takesWord_2 {g : zG} {I : Nat → Nat → Int32} {P : Nat → Nat → Option Nat} {r : Option Value} {h' : zH} {a0 : Nat} {x1 : Int32} {x2 : Int32} {x3 : Int32} (H : zk g a0 12 ∧ ∃ (w1 : Int32), Cl mX12_longOf [.ref a0, .int x1] (g, I, P) (some (.int w1)) (g, I, P) ∧ ((w1 ≤ x3) → ((x2 = 0) → zk g a0 12 ∧ ∃ (w6 : Int32), Cl mX12_longOf [.ref a0, .int x1] (g, I, P) (some (.int w6)) (g, I, P) ∧ zk g a0 12 ∧ r = none ∧ h' = (g, zU I a0 32 w6, P)) ∧ ((¬ x2 = 0) → zk g a0 12 ∧ ∃ (w10 : Int32), Cl mX12_longOf [.ref a0, .int x1] (g, I, P) (some (.int w10)) (g, I, P) ∧ zk g a0 12 ∧ r = none ∧ h' = (g, zU I a0 31 w10, P))) ∧ ((¬ w1 ≤ x3) → ((x2 = 0) → zk g a0 12 ∧ ∃ b15, P a0 30 = some b15 ∧ zk g a0 12 ∧ ∃ (w18 : Int32), Cl mX12_letterOf [.ref a0, .int x1, .int x3] (g, I, P) (some (.int w18)) (g, I, P) ∧ zk g b15 13 ∧ vp_in x3 (g.2.2 b15) ∧ Zt none mX12_takesWord 0 0 2 [(0, .ref a0), (1, .int x1), (2, .int x2), (3, .int (x3 + 1))] [] (g, zU I b15 x3.toNatClampNeg w18, P) r h') ∧ ((¬ x2 = 0) → zk g a0 12 ∧ ∃ b22, P a0 29 = some b22 ∧ zk g a0 12 ∧ ∃ (w25 : Int32), Cl mX12_letterOf [.ref a0, .int x1, .int x3] (g, I, P) (some (.int w25)) (g, I, P) ∧ zk g b22 13 ∧ vp_in x3 (g.2.2 b22) ∧ Zt none mX12_takesWord 0 0 2 [(0, .ref a0), (1, .int x1), (2, .int x2), (3, .int (x3 + 1))] [] (g, zU I b22 x3.toNatClampNeg w25, P) r h'))) : Zt none mX12_takesWord 0 0 2 [(0, .ref a0), (1, .int x1), (2, .int x2), (3, .int x3)] [] (g, I, P) r h' := by
  refine z_iload_n 3 dX12_takesWord_2 rfl (z_aload_n 0 dX12_takesWord_3 rfl rfl (z_iload_n 1 dX12_takesWord_4 rfl ?_))
  obtain ⟨oc2, w1, c2, H3⟩ := H
  refine z_virt (As := [.int x1]) (st := [.int x3]) (r1 := (some (.int w1))) (h1 := (g, I, P)) dX12_takesWord_5 kX12_longOf wm_X12_205 ⟨by decide, by decide⟩ rfl rfl (Nat.le_of_ble_eq_true rfl) (by decide) (by decide) oc2 c2 ?_
  refine z_icmp_ge (t := 40) dX12_takesWord_8 (by decide) (fun q => ?_) (fun q => ?_)
  · have H4 := H3.1 q
    refine z_iload_n 2 dX12_takesWord_40 rfl ?_
    refine z_if_eq (t := 56) dX12_takesWord_41 (by decide) (fun q => ?_) (fun q => ?_)
    · have H5 := H4.1 q
      refine z_aload_n 0 dX12_takesWord_56 rfl rfl (z_aload_n 0 dX12_takesWord_57 rfl rfl (z_iload_n 1 dX12_takesWord_58 rfl ?_))
      obtain ⟨oc7, w6, c7, H8⟩ := H5
      refine z_virt (As := [.int x1]) (st := [.ref a0]) (r1 := (some (.int w6))) (h1 := (g, I, P)) dX12_takesWord_59 kX12_longOf wm_X12_205 ⟨by decide, by decide⟩ rfl rfl (Nat.le_of_ble_eq_true rfl) (by decide) (by decide) oc7 c7 ?_
      refine z_putI (g := g) (I := I) (Q := P) dX12_takesWord_62 wf_X12_312 (by decide) (by decide) rfl (Or.inl rfl) (zfit_int rfl) H8.1 ?_
      obtain ⟨rfl, rfl⟩ := H8.2
      exact z_vret dX12_takesWord_65 rfl (by decide) (by decide)
    · have H9 := H4.2 q
      refine z_aload_n 0 dX12_takesWord_44 rfl rfl (z_aload_n 0 dX12_takesWord_45 rfl rfl (z_iload_n 1 dX12_takesWord_46 rfl ?_))
      obtain ⟨oc11, w10, c11, H12⟩ := H9
      refine z_virt (As := [.int x1]) (st := [.ref a0]) (r1 := (some (.int w10))) (h1 := (g, I, P)) dX12_takesWord_47 kX12_longOf wm_X12_205 ⟨by decide, by decide⟩ rfl rfl (Nat.le_of_ble_eq_true rfl) (by decide) (by decide) oc11 c11 ?_
      refine z_putI (g := g) (I := I) (Q := P) dX12_takesWord_50 wf_X12_309 (by decide) (by decide) rfl (Or.inl rfl) (zfit_int rfl) H12.1 (z_goto (t := 65) dX12_takesWord_53 (by decide) ?_)
      obtain ⟨rfl, rfl⟩ := H12.2
      exact z_vret dX12_takesWord_65 rfl (by decide) (by decide)
  · have H13 := H3.2 q
    refine z_iload_n 2 dX12_takesWord_11 rfl ?_
    refine z_if_eq (t := 22) dX12_takesWord_12 (by decide) (fun q => ?_) (fun q => ?_)
    · have H14 := H13.1 q
      refine z_aload_n 0 dX12_takesWord_22 rfl rfl ?_
      obtain ⟨oe17, b15, e17, H16⟩ := H14
      refine z_getP dX12_takesWord_23 wf_X12_50 (by decide) (by decide) rfl oe17 (fun q => (by cases q.symm.trans e17)) (fun j q => ?_)
      cases q.symm.trans e17
      refine z_iload_n 3 dX12_takesWord_26 rfl (z_aload_n 0 dX12_takesWord_27 rfl rfl (z_iload_n 1 dX12_takesWord_28 rfl (z_iload_n 3 dX12_takesWord_29 rfl ?_)))
      obtain ⟨oc19, w18, c19, H20⟩ := H16
      refine z_virt (As := [.int x1, .int x3]) (st := [.int x3, .ref b15]) (r1 := (some (.int w18))) (h1 := (g, I, P)) dX12_takesWord_30 kX12_letterOf wm_X12_214 ⟨by decide, by decide⟩ rfl rfl (Nat.le_of_ble_eq_true rfl) (by decide) (by decide) oc19 c19 ?_
      refine z_iast (g := g) (I := I) (Q := P) dX12_takesWord_33 H20.1 H20.2.1 (z_iinc (y := x3 + 1) (lv' := [(3, .int (x3 + 1)), (0, .ref a0), (1, .int x1), (2, .int x2)]) 3 dX12_takesWord_34 rfl rfl (by decide) rfl (z_goto (t := 2) dX12_takesWord_37 (by decide) ?_))
      exact z_less [1, 2, 3, 0] rfl H20.2.2
    · have H21 := H13.2 q
      refine z_aload_n 0 dX12_takesWord_15 rfl rfl ?_
      obtain ⟨oe24, b22, e24, H23⟩ := H21
      refine z_getP dX12_takesWord_16 wf_X12_47 (by decide) (by decide) rfl oe24 (fun q => (by cases q.symm.trans e24)) (fun j q => ?_)
      cases q.symm.trans e24
      refine z_goto (t := 26) dX12_takesWord_19 (by decide) (z_iload_n 3 dX12_takesWord_26 rfl (z_aload_n 0 dX12_takesWord_27 rfl rfl (z_iload_n 1 dX12_takesWord_28 rfl (z_iload_n 3 dX12_takesWord_29 rfl ?_))))
      obtain ⟨oc26, w25, c26, H27⟩ := H23
      refine z_virt (As := [.int x1, .int x3]) (st := [.int x3, .ref b22]) (r1 := (some (.int w25))) (h1 := (g, I, P)) dX12_takesWord_30 kX12_letterOf wm_X12_214 ⟨by decide, by decide⟩ rfl rfl (Nat.le_of_ble_eq_true rfl) (by decide) (by decide) oc26 c26 ?_
      refine z_iast (g := g) (I := I) (Q := P) dX12_takesWord_33 H27.1 H27.2.1 (z_iinc (y := x3 + 1) (lv' := [(3, .int (x3 + 1)), (0, .ref a0), (1, .int x1), (2, .int x2)]) 3 dX12_takesWord_34 rfl rfl (by decide) rfl (z_goto (t := 2) dX12_takesWord_37 (by decide) ?_))
      exact z_less [1, 2, 3, 0] rfl H27.2.2
