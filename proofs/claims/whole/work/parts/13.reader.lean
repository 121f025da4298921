theorem dX6_read_0 : decode cX6_read 0 = .ok (.aload_n 0, 1) := by decide +kernel
theorem dX6_read_1 : decode cX6_read 1 = .ok (.aload_n 1, 1) := by decide +kernel
theorem dX6_read_2 : decode cX6_read 2 = .ok (.putfield 46, 3) := by decide +kernel
theorem dX6_read_5 : decode cX6_read 5 = .ok (.aload_n 0, 1) := by decide +kernel
theorem dX6_read_6 : decode cX6_read 6 = .ok (.getfield 42, 3) := by decide +kernel
theorem dX6_read_9 : decode cX6_read 9 = .ok (.aload_n 1, 1) := by decide +kernel
theorem dX6_read_10 : decode cX6_read 10 = .ok (.iload_n 2, 1) := by decide +kernel
theorem dX6_read_11 : decode cX6_read 11 = .ok (.invokevirtual 50, 3) := by decide +kernel
theorem dX6_read_14 : decode cX6_read 14 = .ok (.aload_n 0, 1) := by decide +kernel
theorem dX6_read_15 : decode cX6_read 15 = .ok (.iconst 0, 1) := by decide +kernel
theorem dX6_read_16 : decode cX6_read 16 = .ok (.putfield 54, 3) := by decide +kernel
theorem dX6_read_19 : decode cX6_read 19 = .ok (.aload_n 0, 1) := by decide +kernel
theorem dX6_read_20 : decode cX6_read 20 = .ok (.iconst (-1), 1) := by decide +kernel
theorem dX6_read_21 : decode cX6_read 21 = .ok (.putfield 58, 3) := by decide +kernel
theorem dX6_read_24 : decode cX6_read 24 = .ok (.aload_n 0, 1) := by decide +kernel
theorem dX6_read_25 : decode cX6_read 25 = .ok (.getfield 12, 3) := by decide +kernel
theorem dX6_read_28 : decode cX6_read 28 = .ok (.invokevirtual 61, 3) := by decide +kernel
theorem dX6_read_31 : decode cX6_read 31 = .ok (.aload_n 0, 1) := by decide +kernel
theorem dX6_read_32 : decode cX6_read 32 = .ok (.getfield 21, 3) := by decide +kernel
theorem dX6_read_35 : decode cX6_read 35 = .ok (.iconst 0, 1) := by decide +kernel
theorem dX6_read_36 : decode cX6_read 36 = .ok (.putfield 64, 3) := by decide +kernel
theorem dX6_read_39 : decode cX6_read 39 = .ok (.aload_n 0, 1) := by decide +kernel
theorem dX6_read_40 : decode cX6_read 40 = .ok (.getfield 28, 3) := by decide +kernel
theorem dX6_read_43 : decode cX6_read 43 = .ok (.iconst 0, 1) := by decide +kernel
theorem dX6_read_44 : decode cX6_read 44 = .ok (.putfield 67, 3) := by decide +kernel
theorem dX6_read_47 : decode cX6_read 47 = .ok (.aload_n 0, 1) := by decide +kernel
theorem dX6_read_48 : decode cX6_read 48 = .ok (.getfield 35, 3) := by decide +kernel
theorem dX6_read_51 : decode cX6_read 51 = .ok (.iconst 0, 1) := by decide +kernel
theorem dX6_read_52 : decode cX6_read 52 = .ok (.putfield 68, 3) := by decide +kernel
theorem dX6_read_55 : decode cX6_read 55 = .ok (.iconst 1, 1) := by decide +kernel
theorem dX6_read_56 : decode cX6_read 56 = .ok (.istore 4, 2) := by decide +kernel
theorem dX6_read_58 : decode cX6_read 58 = .ok (.iconst 0, 1) := by decide +kernel
theorem dX6_read_59 : decode cX6_read 59 = .ok (.istore 5, 2) := by decide +kernel
theorem dX6_read_61 : decode cX6_read 61 = .ok (.iload 5, 2) := by decide +kernel
theorem dX6_read_63 : decode cX6_read 63 = .ok (.sipush 600, 3) := by decide +kernel
theorem dX6_read_66 : decode cX6_read 66 = .ok (.if_icmp .gt 50, 3) := by decide +kernel
theorem dX6_read_69 : decode cX6_read 69 = .ok (.iload 4, 2) := by decide +kernel
theorem dX6_read_71 : decode cX6_read 71 = .ok (.ifCond .eq 45, 3) := by decide +kernel
theorem dX6_read_74 : decode cX6_read 74 = .ok (.aload_n 0, 1) := by decide +kernel
theorem dX6_read_75 : decode cX6_read 75 = .ok (.getfield 42, 3) := by decide +kernel
theorem dX6_read_78 : decode cX6_read 78 = .ok (.invokevirtual 69, 3) := by decide +kernel
theorem dX6_read_81 : decode cX6_read 81 = .ok (.aload_n 0, 1) := by decide +kernel
theorem dX6_read_82 : decode cX6_read 82 = .ok (.getfield 42, 3) := by decide +kernel
theorem dX6_read_85 : decode cX6_read 85 = .ok (.getfield 72, 3) := by decide +kernel
theorem dX6_read_88 : decode cX6_read 88 = .ok (.ifCond .eq 19, 3) := by decide +kernel
theorem dX6_read_91 : decode cX6_read 91 = .ok (.aload_n 0, 1) := by decide +kernel
theorem dX6_read_92 : decode cX6_read 92 = .ok (.aload_n 0, 1) := by decide +kernel
theorem dX6_read_93 : decode cX6_read 93 = .ok (.iload_n 3, 1) := by decide +kernel
theorem dX6_read_94 : decode cX6_read 94 = .ok (.invokevirtual 75, 3) := by decide +kernel
theorem dX6_read_97 : decode cX6_read 97 = .ok (.invokevirtual 79, 3) := by decide +kernel
theorem dX6_read_100 : decode cX6_read 100 = .ok (.ifCond .eq 7, 3) := by decide +kernel
theorem dX6_read_103 : decode cX6_read 103 = .ok (.iconst 1, 1) := by decide +kernel
theorem dX6_read_104 : decode cX6_read 104 = .ok (.goto 4, 3) := by decide +kernel
theorem dX6_read_107 : decode cX6_read 107 = .ok (.iconst 0, 1) := by decide +kernel
theorem dX6_read_108 : decode cX6_read 108 = .ok (.istore 4, 2) := by decide +kernel
theorem dX6_read_110 : decode cX6_read 110 = .ok (.iinc 5 1, 3) := by decide +kernel
theorem dX6_read_113 : decode cX6_read 113 = .ok (.goto (-52), 3) := by decide +kernel
theorem dX6_read_116 : decode cX6_read 116 = .ok (.aload_n 0, 1) := by decide +kernel
theorem dX6_read_117 : decode cX6_read 117 = .ok (.getfield 54, 3) := by decide +kernel
theorem dX6_read_120 : decode cX6_read 120 = .ok (.ifCond .ne 12, 3) := by decide +kernel
theorem dX6_read_123 : decode cX6_read 123 = .ok (.iload_n 3, 1) := by decide +kernel
theorem dX6_read_124 : decode cX6_read 124 = .ok (.ifCond .ne 8, 3) := by decide +kernel
theorem dX6_read_127 : decode cX6_read 127 = .ok (.aload_n 0, 1) := by decide +kernel
theorem dX6_read_128 : decode cX6_read 128 = .ok (.iload_n 2, 1) := by decide +kernel
theorem dX6_read_129 : decode cX6_read 129 = .ok (.invokevirtual 83, 3) := by decide +kernel
theorem dX6_read_132 : decode cX6_read 132 = .ok (.return_, 1) := by decide +kernel
set_option maxRecDepth 10000 in
theorem wX6_read_0 {g : zG} {I : Nat → Nat → Int32} {P : Nat → Nat → Option Nat} {r : Option Value} {h' : zH} {a0 : Nat} {a1 : Nat} {x2 : Int32} {x3 : Int32} (H : zk g a0 6 ∧ zk g a0 6 ∧ ∃ b1, (zU P a0 7 (some a1)) a0 6 = some b1 ∧ zk g b1 8 ∧ ∃ (I4 : Nat → Nat → Int32) (P5 : Nat → Nat → Option Nat), Cl mX8_begin [.ref b1, .ref a1, .int x2] (g, I, zU P a0 7 (some a1)) none (g, I4, P5) ∧ zk g a0 6 ∧ zk g a0 6 ∧ zk g a0 6 ∧ ∃ b8, P5 a0 0 = some b8 ∧ zk g b8 3 ∧ ∃ (I11 : Nat → Nat → Int32), Cl mX3_clear [.ref b8] (g, zU (zU I4 a0 4 0) a0 5 (-1), P5) none (g, I11, P5) ∧ zk g a0 6 ∧ ∃ b14, P5 a0 1 = some b14 ∧ zk g b14 0 ∧ zk g a0 6 ∧ ∃ b17, P5 a0 2 = some b17 ∧ zk g b17 4 ∧ zk g a0 6 ∧ ∃ b20, P5 a0 3 = some b20 ∧ zk g b20 5 ∧ Zt none mX6_read 0 0 61 [(0, .ref a0), (2, .int x2), (3, .int x3), (4, .int 1), (5, .int 0)] [] (g, zU (zU (zU I11 b14 0 0) b17 0 0) b20 0 0, P5) r h') : Zt none mX6_read 0 0 0 [(0, .ref a0), (1, .ref a1), (2, .int x2), (3, .int x3)] [] (g, I, P) r h' := by
  refine z_aload_n 0 dX6_read_0 rfl rfl (z_aload_n 1 dX6_read_1 rfl rfl (z_putP (g := g) (I := I) (Q := P) dX6_read_2 wf_X6_46 (by decide) (by decide) rfl (Or.inl rfl) H.1 (z_aload_n 0 dX6_read_5 rfl rfl ?_)))
  obtain ⟨oe3, b1, e3, H2⟩ := H.2
  refine z_getP dX6_read_6 wf_X6_42 (by decide) (by decide) rfl oe3 (fun q => (by cases q.symm.trans e3)) (fun j q => ?_)
  cases q.symm.trans e3
  refine z_aload_n 1 dX6_read_9 rfl rfl (z_iload_n 2 dX6_read_10 rfl ?_)
  obtain ⟨oc6, I4, P5, c6, H7⟩ := H2
  refine z_virt (As := [.ref a1, .int x2]) (st := []) (r1 := none) (h1 := (g, I4, P5)) dX6_read_11 kX8_begin wm_X6_50 ⟨by decide, by decide⟩ rfl rfl (Nat.le_of_ble_eq_true rfl) (by decide) (by decide) oc6 c6 ?_
  refine z_aload_n 0 dX6_read_14 rfl rfl (z_iconst (w := 0) dX6_read_15 (by decide) (z_putI (g := g) (I := I4) (Q := P5) dX6_read_16 wf_X6_54 (by decide) (by decide) rfl (Or.inl rfl) (zfit_int rfl) H7.1 (z_aload_n 0 dX6_read_19 rfl rfl (z_iconst (w := (-1)) dX6_read_20 (by decide) (z_putI (g := g) (I := zU I4 a0 4 0) (Q := P5) dX6_read_21 wf_X6_58 (by decide) (by decide) rfl (Or.inl rfl) (zfit_int rfl) H7.2.1 (z_aload_n 0 dX6_read_24 rfl rfl ?_))))))
  obtain ⟨oe10, b8, e10, H9⟩ := H7.2.2
  refine z_getP dX6_read_25 wf_X6_12 (by decide) (by decide) rfl oe10 (fun q => (by cases q.symm.trans e10)) (fun j q => ?_)
  cases q.symm.trans e10
  obtain ⟨oc12, I11, c12, H13⟩ := H9
  refine z_virt (As := []) (st := []) (r1 := none) (h1 := (g, I11, P5)) dX6_read_28 kX3_clear wm_X6_61 ⟨by decide, by decide⟩ rfl rfl (Nat.le_of_ble_eq_true rfl) (by decide) (by decide) oc12 c12 ?_
  refine z_aload_n 0 dX6_read_31 rfl rfl ?_
  obtain ⟨oe16, b14, e16, H15⟩ := H13
  refine z_getP dX6_read_32 wf_X6_21 (by decide) (by decide) rfl oe16 (fun q => (by cases q.symm.trans e16)) (fun j q => ?_)
  cases q.symm.trans e16
  refine z_iconst (w := 0) dX6_read_35 (by decide) (z_putI (g := g) (I := I11) (Q := P5) dX6_read_36 wf_X6_64 (by decide) (by decide) rfl (Or.inl rfl) (zfit_int rfl) H15.1 (z_aload_n 0 dX6_read_39 rfl rfl ?_))
  obtain ⟨oe19, b17, e19, H18⟩ := H15.2
  refine z_getP dX6_read_40 wf_X6_28 (by decide) (by decide) rfl oe19 (fun q => (by cases q.symm.trans e19)) (fun j q => ?_)
  cases q.symm.trans e19
  refine z_iconst (w := 0) dX6_read_43 (by decide) (z_putI (g := g) (I := zU I11 b14 0 0) (Q := P5) dX6_read_44 wf_X6_67 (by decide) (by decide) rfl (Or.inl rfl) (zfit_int rfl) H18.1 (z_aload_n 0 dX6_read_47 rfl rfl ?_))
  obtain ⟨oe22, b20, e22, H21⟩ := H18.2
  refine z_getP dX6_read_48 wf_X6_35 (by decide) (by decide) rfl oe22 (fun q => (by cases q.symm.trans e22)) (fun j q => ?_)
  cases q.symm.trans e22
  refine z_iconst (w := 0) dX6_read_51 (by decide) (z_putI (g := g) (I := zU (zU I11 b14 0 0) b17 0 0) (Q := P5) dX6_read_52 wf_X6_68 (by decide) (by decide) rfl (Or.inl rfl) (zfit_int rfl) H21.1 (z_iconst (w := 1) dX6_read_55 (by decide) (z_istore (lv' := [(4, .int 1), (0, .ref a0), (1, .ref a1), (2, .int x2), (3, .int x3)]) dX6_read_56 (by decide) rfl (z_iconst (w := 0) dX6_read_58 (by decide) (z_istore (lv' := [(5, .int 0), (4, .int 1), (0, .ref a0), (1, .ref a1), (2, .int x2), (3, .int x3)]) dX6_read_59 (by decide) rfl ?_)))))
  exact z_less [2, 4, 5, 1, 0] rfl H21.2
theorem eX6_read {g : zG} {I : Nat → Nat → Int32} {P : Nat → Nat → Option Nat} {r : Option Value} {h' : zH} {a0 : Nat} {a1 : Nat} {x2 : Int32} {x3 : Int32} (H : Zt none mX6_read 0 0 0 [(0, .ref a0), (1, .ref a1), (2, .int x2), (3, .int x3)] [] (g, I, P) r h') : Cl mX6_read [.ref a0, .ref a1, .int x2, .int x3] (g, I, P) r h' := Cl.of (by decide) (Nat.le_of_ble_eq_true rfl) H
set_option maxRecDepth 10000 in
theorem wX6_read_61 {g : zG} {I : Nat → Nat → Int32} {P : Nat → Nat → Option Nat} {r : Option Value} {h' : zH} {a0 : Nat} {x2 : Int32} {x3 : Int32} {x4 : Int32} {x5 : Int32} (H : ((600 < x5) → zk g a0 6 ∧ ((¬ I a0 4 = 0) → r = none ∧ h' = (g, I, P)) ∧ ((I a0 4 = 0) → ((¬ x3 = 0) → r = none ∧ h' = (g, I, P)) ∧ ((x3 = 0) → zk g a0 6 ∧ ∃ (I6 : Nat → Nat → Int32), Cl mX6_lookAtHill [.ref a0, .int x2] (g, I, P) none (g, I6, P) ∧ r = none ∧ h' = (g, I6, P)))) ∧ ((¬ 600 < x5) → ((x4 = 0) → zk g a0 6 ∧ ((¬ I a0 4 = 0) → r = none ∧ h' = (g, I, P)) ∧ ((I a0 4 = 0) → ((¬ x3 = 0) → r = none ∧ h' = (g, I, P)) ∧ ((x3 = 0) → zk g a0 6 ∧ ∃ (I15 : Nat → Nat → Int32), Cl mX6_lookAtHill [.ref a0, .int x2] (g, I, P) none (g, I15, P) ∧ r = none ∧ h' = (g, I15, P)))) ∧ ((¬ x4 = 0) → zk g a0 6 ∧ ∃ b19, P a0 6 = some b19 ∧ zk g b19 8 ∧ ∃ (I22 : Nat → Nat → Int32), Cl mX8_step [.ref b19] (g, I, P) none (g, I22, P) ∧ zk g a0 6 ∧ ∃ b25, P a0 6 = some b25 ∧ zk g b25 8 ∧ ((I22 b25 3 = 0) → Zt none mX6_read 0 0 61 [(0, .ref a0), (2, .int x2), (3, .int x3), (4, .int 0), (5, .int (x5 + 1))] [] (g, I22, P) r h') ∧ ((¬ I22 b25 3 = 0) → zk g a0 6 ∧ ∃ (w30 : Int32) (I31 : Nat → Nat → Int32), Cl mX6_keyOf [.ref a0, .int x3] (g, I22, P) (some (.int w30)) (g, I31, P) ∧ zk g a0 6 ∧ ∃ (w34 : Int32) (I35 : Nat → Nat → Int32), Cl mX6_readOne [.ref a0, .int w30] (g, I31, P) (some (.int w34)) (g, I35, P) ∧ ((w34 = 0) → Zt none mX6_read 0 0 61 [(0, .ref a0), (2, .int x2), (3, .int x3), (4, .int 0), (5, .int (x5 + 1))] [] (g, I35, P) r h') ∧ ((¬ w34 = 0) → Zt none mX6_read 0 0 61 [(0, .ref a0), (2, .int x2), (3, .int x3), (4, .int 1), (5, .int (x5 + 1))] [] (g, I35, P) r h'))))) : Zt none mX6_read 0 0 61 [(0, .ref a0), (2, .int x2), (3, .int x3), (4, .int x4), (5, .int x5)] [] (g, I, P) r h' := by
  refine z_iload 4 dX6_read_61 rfl (z_sipush (w := 600) dX6_read_63 (by decide) ?_)
  refine z_icmp_gt (t := 116) dX6_read_66 (by decide) (fun q => ?_) (fun q => ?_)
  · have H1 := H.1 q
    refine z_aload_n 0 dX6_read_116 rfl rfl (z_getI dX6_read_117 wf_X6_54 (by decide) (by decide) rfl H1.1 ?_)
    refine z_if_ne (t := 132) dX6_read_120 (by decide) (fun q => ?_) (fun q => ?_)
    · have H2 := H1.2.1 q
      obtain ⟨rfl, rfl⟩ := H2
      exact z_vret dX6_read_132 rfl (by decide) (by decide)
    · have H3 := H1.2.2 q
      refine z_iload_n 2 dX6_read_123 rfl ?_
      refine z_if_ne (t := 132) dX6_read_124 (by decide) (fun q => ?_) (fun q => ?_)
      · have H4 := H3.1 q
        obtain ⟨rfl, rfl⟩ := H4
        exact z_vret dX6_read_132 rfl (by decide) (by decide)
      · have H5 := H3.2 q
        refine z_aload_n 0 dX6_read_127 rfl rfl (z_iload_n 1 dX6_read_128 rfl ?_)
        obtain ⟨oc7, I6, c7, H8⟩ := H5
        refine z_virt (As := [.int x2]) (st := []) (r1 := none) (h1 := (g, I6, P)) dX6_read_129 kX6_lookAtHill wm_X6_83 ⟨by decide, by decide⟩ rfl rfl (Nat.le_of_ble_eq_true rfl) (by decide) (by decide) oc7 c7 ?_
        obtain ⟨rfl, rfl⟩ := H8
        exact z_vret dX6_read_132 rfl (by decide) (by decide)
  · have H9 := H.2 q
    refine z_iload 3 dX6_read_69 rfl ?_
    refine z_if_eq (t := 116) dX6_read_71 (by decide) (fun q => ?_) (fun q => ?_)
    · have H10 := H9.1 q
      refine z_aload_n 0 dX6_read_116 rfl rfl (z_getI dX6_read_117 wf_X6_54 (by decide) (by decide) rfl H10.1 ?_)
      refine z_if_ne (t := 132) dX6_read_120 (by decide) (fun q => ?_) (fun q => ?_)
      · have H11 := H10.2.1 q
        obtain ⟨rfl, rfl⟩ := H11
        exact z_vret dX6_read_132 rfl (by decide) (by decide)
      · have H12 := H10.2.2 q
        refine z_iload_n 2 dX6_read_123 rfl ?_
        refine z_if_ne (t := 132) dX6_read_124 (by decide) (fun q => ?_) (fun q => ?_)
        · have H13 := H12.1 q
          obtain ⟨rfl, rfl⟩ := H13
          exact z_vret dX6_read_132 rfl (by decide) (by decide)
        · have H14 := H12.2 q
          refine z_aload_n 0 dX6_read_127 rfl rfl (z_iload_n 1 dX6_read_128 rfl ?_)
          obtain ⟨oc16, I15, c16, H17⟩ := H14
          refine z_virt (As := [.int x2]) (st := []) (r1 := none) (h1 := (g, I15, P)) dX6_read_129 kX6_lookAtHill wm_X6_83 ⟨by decide, by decide⟩ rfl rfl (Nat.le_of_ble_eq_true rfl) (by decide) (by decide) oc16 c16 ?_
          obtain ⟨rfl, rfl⟩ := H17
          exact z_vret dX6_read_132 rfl (by decide) (by decide)
    · have H18 := H9.2 q
      refine z_aload_n 0 dX6_read_74 rfl rfl ?_
      obtain ⟨oe21, b19, e21, H20⟩ := H18
      refine z_getP dX6_read_75 wf_X6_42 (by decide) (by decide) rfl oe21 (fun q => (by cases q.symm.trans e21)) (fun j q => ?_)
      cases q.symm.trans e21
      obtain ⟨oc23, I22, c23, H24⟩ := H20
      refine z_virt (As := []) (st := []) (r1 := none) (h1 := (g, I22, P)) dX6_read_78 kX8_step wm_X6_69 ⟨by decide, by decide⟩ rfl rfl (Nat.le_of_ble_eq_true rfl) (by decide) (by decide) oc23 c23 ?_
      refine z_aload_n 0 dX6_read_81 rfl rfl ?_
      obtain ⟨oe27, b25, e27, H26⟩ := H24
      refine z_getP dX6_read_82 wf_X6_42 (by decide) (by decide) rfl oe27 (fun q => (by cases q.symm.trans e27)) (fun j q => ?_)
      cases q.symm.trans e27
      refine z_getI dX6_read_85 wf_X6_72 (by decide) (by decide) rfl H26.1 ?_
      refine z_if_eq (t := 107) dX6_read_88 (by decide) (fun q => ?_) (fun q => ?_)
      · have H28 := H26.2.1 q
        refine z_iconst (w := 0) dX6_read_107 (by decide) (z_istore (lv' := [(4, .int 0), (0, .ref a0), (2, .int x2), (3, .int x3), (5, .int x5)]) dX6_read_108 (by decide) rfl (z_iinc (y := x5 + 1) (lv' := [(5, .int (x5 + 1)), (4, .int 0), (0, .ref a0), (2, .int x2), (3, .int x3)]) 4 dX6_read_110 rfl rfl (by decide) rfl (z_goto (t := 61) dX6_read_113 (by decide) ?_)))
        exact z_less [2, 3, 4, 1, 0] rfl H28
      · have H29 := H26.2.2 q
        refine z_aload_n 0 dX6_read_91 rfl rfl (z_aload_n 0 dX6_read_92 rfl rfl (z_iload_n 2 dX6_read_93 rfl ?_))
        obtain ⟨oc32, w30, I31, c32, H33⟩ := H29
        refine z_virt (As := [.int x3]) (st := [.ref a0]) (r1 := (some (.int w30))) (h1 := (g, I31, P)) dX6_read_94 kX6_keyOf wm_X6_75 ⟨by decide, by decide⟩ rfl rfl (Nat.le_of_ble_eq_true rfl) (by decide) (by decide) oc32 c32 ?_
        obtain ⟨oc36, w34, I35, c36, H37⟩ := H33
        refine z_virt (As := [.int w30]) (st := []) (r1 := (some (.int w34))) (h1 := (g, I35, P)) dX6_read_97 kX6_readOne wm_X6_79 ⟨by decide, by decide⟩ rfl rfl (Nat.le_of_ble_eq_true rfl) (by decide) (by decide) oc36 c36 ?_
        refine z_if_eq (t := 107) dX6_read_100 (by decide) (fun q => ?_) (fun q => ?_)
        · have H38 := H37.1 q
          refine z_iconst (w := 0) dX6_read_107 (by decide) (z_istore (lv' := [(4, .int 0), (0, .ref a0), (2, .int x2), (3, .int x3), (5, .int x5)]) dX6_read_108 (by decide) rfl (z_iinc (y := x5 + 1) (lv' := [(5, .int (x5 + 1)), (4, .int 0), (0, .ref a0), (2, .int x2), (3, .int x3)]) 4 dX6_read_110 rfl rfl (by decide) rfl (z_goto (t := 61) dX6_read_113 (by decide) ?_)))
          exact z_less [2, 3, 4, 1, 0] rfl H38
        · have H39 := H37.2 q
          refine z_iconst (w := 1) dX6_read_103 (by decide) (z_goto (t := 108) dX6_read_104 (by decide) (z_istore (lv' := [(4, .int 1), (0, .ref a0), (2, .int x2), (3, .int x3), (5, .int x5)]) dX6_read_108 (by decide) rfl (z_iinc (y := x5 + 1) (lv' := [(5, .int (x5 + 1)), (4, .int 1), (0, .ref a0), (2, .int x2), (3, .int x3)]) 4 dX6_read_110 rfl rfl (by decide) rfl (z_goto (t := 61) dX6_read_113 (by decide) ?_))))
          exact z_less [2, 3, 4, 1, 0] rfl H39
theorem dX6_readOne_0 : decode cX6_readOne 0 = .ok (.aload_n 0, 1) := by decide +kernel
theorem dX6_readOne_1 : decode cX6_readOne 1 = .ok (.aload_n 0, 1) := by decide +kernel
theorem dX6_readOne_2 : decode cX6_readOne 2 = .ok (.getfield 42, 3) := by decide +kernel
theorem dX6_readOne_5 : decode cX6_readOne 5 = .ok (.getfield 87, 3) := by decide +kernel
theorem dX6_readOne_8 : decode cX6_readOne 8 = .ok (.putfield 90, 3) := by decide +kernel
theorem dX6_readOne_11 : decode cX6_readOne 11 = .ok (.iload_n 1, 1) := by decide +kernel
theorem dX6_readOne_12 : decode cX6_readOne 12 = .ok (.ifCond .ne 8, 3) := by decide +kernel
theorem dX6_readOne_15 : decode cX6_readOne 15 = .ok (.aload_n 0, 1) := by decide +kernel
theorem dX6_readOne_16 : decode cX6_readOne 16 = .ok (.invokevirtual 93, 3) := by decide +kernel
theorem dX6_readOne_19 : decode cX6_readOne 19 = .ok (.ireturn, 1) := by decide +kernel
theorem dX6_readOne_20 : decode cX6_readOne 20 = .ok (.aload_n 0, 1) := by decide +kernel
theorem dX6_readOne_21 : decode cX6_readOne 21 = .ok (.getfield 42, 3) := by decide +kernel
theorem dX6_readOne_24 : decode cX6_readOne 24 = .ok (.invokevirtual 69, 3) := by decide +kernel
theorem dX6_readOne_27 : decode cX6_readOne 27 = .ok (.aload_n 0, 1) := by decide +kernel
theorem dX6_readOne_28 : decode cX6_readOne 28 = .ok (.getfield 42, 3) := by decide +kernel
theorem dX6_readOne_31 : decode cX6_readOne 31 = .ok (.getfield 72, 3) := by decide +kernel
theorem dX6_readOne_34 : decode cX6_readOne 34 = .ok (.iload_n 1, 1) := by decide +kernel
theorem dX6_readOne_35 : decode cX6_readOne 35 = .ok (.iconst 1, 1) := by decide +kernel
theorem dX6_readOne_36 : decode cX6_readOne 36 = .ok (.if_icmp .eq 9, 3) := by decide +kernel
theorem dX6_readOne_39 : decode cX6_readOne 39 = .ok (.iload_n 1, 1) := by decide +kernel
theorem dX6_readOne_40 : decode cX6_readOne 40 = .ok (.bipush 7, 2) := by decide +kernel
theorem dX6_readOne_42 : decode cX6_readOne 42 = .ok (.if_icmp .ne 7, 3) := by decide +kernel
theorem dX6_readOne_45 : decode cX6_readOne 45 = .ok (.iconst 1, 1) := by decide +kernel
theorem dX6_readOne_46 : decode cX6_readOne 46 = .ok (.goto 4, 3) := by decide +kernel
theorem dX6_readOne_49 : decode cX6_readOne 49 = .ok (.iconst 2, 1) := by decide +kernel
theorem dX6_readOne_50 : decode cX6_readOne 50 = .ok (.if_icmp .eq 8, 3) := by decide +kernel
theorem dX6_readOne_53 : decode cX6_readOne 53 = .ok (.aload_n 0, 1) := by decide +kernel
theorem dX6_readOne_54 : decode cX6_readOne 54 = .ok (.invokevirtual 93, 3) := by decide +kernel
theorem dX6_readOne_57 : decode cX6_readOne 57 = .ok (.ireturn, 1) := by decide +kernel
theorem dX6_readOne_58 : decode cX6_readOne 58 = .ok (.aload_n 0, 1) := by decide +kernel
theorem dX6_readOne_59 : decode cX6_readOne 59 = .ok (.invokevirtual 97, 3) := by decide +kernel
theorem dX6_readOne_62 : decode cX6_readOne 62 = .ok (.iload_n 1, 1) := by decide +kernel
theorem dX6_readOne_63 : decode cX6_readOne 63 = .ok (.iconst 4, 1) := by decide +kernel
theorem dX6_readOne_64 : decode cX6_readOne 64 = .ok (.if_icmp .eq 51, 3) := by decide +kernel
theorem dX6_readOne_67 : decode cX6_readOne 67 = .ok (.iload_n 1, 1) := by decide +kernel
theorem dX6_readOne_68 : decode cX6_readOne 68 = .ok (.bipush 6, 2) := by decide +kernel
theorem dX6_readOne_70 : decode cX6_readOne 70 = .ok (.if_icmp .eq 45, 3) := by decide +kernel
theorem dX6_readOne_73 : decode cX6_readOne 73 = .ok (.iload_n 1, 1) := by decide +kernel
theorem dX6_readOne_74 : decode cX6_readOne 74 = .ok (.bipush 7, 2) := by decide +kernel
theorem dX6_readOne_76 : decode cX6_readOne 76 = .ok (.if_icmp .eq 39, 3) := by decide +kernel
theorem dX6_readOne_79 : decode cX6_readOne 79 = .ok (.aload_n 0, 1) := by decide +kernel
theorem dX6_readOne_80 : decode cX6_readOne 80 = .ok (.getfield 42, 3) := by decide +kernel
theorem dX6_readOne_83 : decode cX6_readOne 83 = .ok (.invokevirtual 69, 3) := by decide +kernel
theorem dX6_readOne_86 : decode cX6_readOne 86 = .ok (.aload_n 0, 1) := by decide +kernel
theorem dX6_readOne_87 : decode cX6_readOne 87 = .ok (.getfield 42, 3) := by decide +kernel
theorem dX6_readOne_90 : decode cX6_readOne 90 = .ok (.getfield 72, 3) := by decide +kernel
theorem dX6_readOne_93 : decode cX6_readOne 93 = .ok (.iload_n 1, 1) := by decide +kernel
theorem dX6_readOne_94 : decode cX6_readOne 94 = .ok (.iconst 5, 1) := by decide +kernel
theorem dX6_readOne_95 : decode cX6_readOne 95 = .ok (.if_icmp .ne 7, 3) := by decide +kernel
theorem dX6_readOne_98 : decode cX6_readOne 98 = .ok (.iconst 1, 1) := by decide +kernel
theorem dX6_readOne_99 : decode cX6_readOne 99 = .ok (.goto 4, 3) := by decide +kernel
theorem dX6_readOne_102 : decode cX6_readOne 102 = .ok (.iconst 2, 1) := by decide +kernel
theorem dX6_readOne_103 : decode cX6_readOne 103 = .ok (.if_icmp .eq 8, 3) := by decide +kernel
theorem dX6_readOne_106 : decode cX6_readOne 106 = .ok (.aload_n 0, 1) := by decide +kernel
theorem dX6_readOne_107 : decode cX6_readOne 107 = .ok (.invokevirtual 93, 3) := by decide +kernel
theorem dX6_readOne_110 : decode cX6_readOne 110 = .ok (.ireturn, 1) := by decide +kernel
theorem dX6_readOne_111 : decode cX6_readOne 111 = .ok (.aload_n 0, 1) := by decide +kernel
theorem dX6_readOne_112 : decode cX6_readOne 112 = .ok (.invokevirtual 100, 3) := by decide +kernel
theorem dX6_readOne_115 : decode cX6_readOne 115 = .ok (.aload_n 0, 1) := by decide +kernel
theorem dX6_readOne_116 : decode cX6_readOne 116 = .ok (.getfield 42, 3) := by decide +kernel
theorem dX6_readOne_119 : decode cX6_readOne 119 = .ok (.invokevirtual 69, 3) := by decide +kernel
theorem dX6_readOne_122 : decode cX6_readOne 122 = .ok (.aload_n 0, 1) := by decide +kernel
theorem dX6_readOne_123 : decode cX6_readOne 123 = .ok (.getfield 42, 3) := by decide +kernel
theorem dX6_readOne_126 : decode cX6_readOne 126 = .ok (.getfield 72, 3) := by decide +kernel
theorem dX6_readOne_129 : decode cX6_readOne 129 = .ok (.iconst 3, 1) := by decide +kernel
theorem dX6_readOne_130 : decode cX6_readOne 130 = .ok (.if_icmp .eq 8, 3) := by decide +kernel
theorem dX6_readOne_133 : decode cX6_readOne 133 = .ok (.aload_n 0, 1) := by decide +kernel
theorem dX6_readOne_134 : decode cX6_readOne 134 = .ok (.invokevirtual 93, 3) := by decide +kernel
theorem dX6_readOne_137 : decode cX6_readOne 137 = .ok (.ireturn, 1) := by decide +kernel
theorem dX6_readOne_138 : decode cX6_readOne 138 = .ok (.aload_n 0, 1) := by decide +kernel
theorem dX6_readOne_139 : decode cX6_readOne 139 = .ok (.iload_n 1, 1) := by decide +kernel
theorem dX6_readOne_140 : decode cX6_readOne 140 = .ok (.invokevirtual 103, 3) := by decide +kernel
theorem dX6_readOne_143 : decode cX6_readOne 143 = .ok (.iconst 1, 1) := by decide +kernel
theorem dX6_readOne_144 : decode cX6_readOne 144 = .ok (.ireturn, 1) := by decide +kernel
set_option maxRecDepth 10000 in
theorem wX6_readOne_0 {g : zG} {I : Nat → Nat → Int32} {P : Nat → Nat → Option Nat} {r : Option Value} {h' : zH} {a0 : Nat} {x1 : Int32} (H : zk g a0 6 ∧ ∃ b1, P a0 6 = some b1 ∧ zk g b1 8 ∧ zk g a0 6 ∧ ((¬ x1 = 0) → zk g a0 6 ∧ ∃ b5, P a0 6 = some b5 ∧ zk g b5 8 ∧ ∃ (I8 : Nat → Nat → Int32), Cl mX8_step [.ref b5] (g, zU I a0 8 (I b1 4), P) none (g, I8, P) ∧ zk g a0 6 ∧ ∃ b11, P a0 6 = some b11 ∧ zk g b11 8 ∧ ((x1 = 1) → Zt none mX6_readOne 0 0 50 [(0, .ref a0), (1, .int x1)] [.int 1, .int (I8 b11 3)] (g, I8, P) r h') ∧ ((¬ x1 = 1) → ((¬ x1 = 7) → Zt none mX6_readOne 0 0 50 [(0, .ref a0), (1, .int x1)] [.int 2, .int (I8 b11 3)] (g, I8, P) r h') ∧ ((x1 = 7) → Zt none mX6_readOne 0 0 50 [(0, .ref a0), (1, .int x1)] [.int 1, .int (I8 b11 3)] (g, I8, P) r h'))) ∧ ((x1 = 0) → zk g a0 6 ∧ ∃ (w19 : Int32) (I20 : Nat → Nat → Int32), Cl mX6_refuse [.ref a0] (g, zU I a0 8 (I b1 4), P) (some (.int w19)) (g, I20, P) ∧ (w19 = 0 ∨ w19 = 1) ∧ r = some (.int w19) ∧ h' = (g, I20, P))) : Zt none mX6_readOne 0 0 0 [(0, .ref a0), (1, .int x1)] [] (g, I, P) r h' := by
  refine z_aload_n 0 dX6_readOne_0 rfl rfl (z_aload_n 0 dX6_readOne_1 rfl rfl ?_)
  obtain ⟨oe3, b1, e3, H2⟩ := H
  refine z_getP dX6_readOne_2 wf_X6_42 (by decide) (by decide) rfl oe3 (fun q => (by cases q.symm.trans e3)) (fun j q => ?_)
  cases q.symm.trans e3
  refine z_getI dX6_readOne_5 wf_X6_87 (by decide) (by decide) rfl H2.1 (z_putI (g := g) (I := I) (Q := P) dX6_readOne_8 wf_X6_90 (by decide) (by decide) rfl (Or.inl rfl) (zfit_int rfl) H2.2.1 (z_iload_n 1 dX6_readOne_11 rfl ?_))
  refine z_if_ne (t := 20) dX6_readOne_12 (by decide) (fun q => ?_) (fun q => ?_)
  · have H4 := H2.2.2.1 q
    refine z_aload_n 0 dX6_readOne_20 rfl rfl ?_
    obtain ⟨oe7, b5, e7, H6⟩ := H4
    refine z_getP dX6_readOne_21 wf_X6_42 (by decide) (by decide) rfl oe7 (fun q => (by cases q.symm.trans e7)) (fun j q => ?_)
    cases q.symm.trans e7
    obtain ⟨oc9, I8, c9, H10⟩ := H6
    refine z_virt (As := []) (st := []) (r1 := none) (h1 := (g, I8, P)) dX6_readOne_24 kX8_step wm_X6_69 ⟨by decide, by decide⟩ rfl rfl (Nat.le_of_ble_eq_true rfl) (by decide) (by decide) oc9 c9 ?_
    refine z_aload_n 0 dX6_readOne_27 rfl rfl ?_
    obtain ⟨oe13, b11, e13, H12⟩ := H10
    refine z_getP dX6_readOne_28 wf_X6_42 (by decide) (by decide) rfl oe13 (fun q => (by cases q.symm.trans e13)) (fun j q => ?_)
    cases q.symm.trans e13
    refine z_getI dX6_readOne_31 wf_X6_72 (by decide) (by decide) rfl H12.1 (z_iload_n 1 dX6_readOne_34 rfl (z_iconst (w := 1) dX6_readOne_35 (by decide) ?_))
    refine z_icmp_eq (t := 45) dX6_readOne_36 (by decide) (fun q => ?_) (fun q => ?_)
    · have H14 := H12.2.1 q
      refine z_iconst (w := 1) dX6_readOne_45 (by decide) (z_goto (t := 50) dX6_readOne_46 (by decide) ?_)
      exact z_less [0, 1] rfl H14
    · have H15 := H12.2.2 q
      refine z_iload_n 1 dX6_readOne_39 rfl (z_bipush (w := 7) dX6_readOne_40 (by decide) ?_)
      refine z_icmp_ne (t := 49) dX6_readOne_42 (by decide) (fun q => ?_) (fun q => ?_)
      · have H16 := H15.1 q
        refine z_iconst (w := 2) dX6_readOne_49 (by decide) ?_
        exact z_less [0, 1] rfl H16
      · have H17 := H15.2 q
        refine z_iconst (w := 1) dX6_readOne_45 (by decide) (z_goto (t := 50) dX6_readOne_46 (by decide) ?_)
        exact z_less [0, 1] rfl H17
  · have H18 := H2.2.2.2 q
    refine z_aload_n 0 dX6_readOne_15 rfl rfl ?_
    obtain ⟨oc21, w19, I20, c21, H22⟩ := H18
    refine z_virt (As := []) (st := []) (r1 := (some (.int w19))) (h1 := (g, I20, P)) dX6_readOne_16 kX6_refuse wm_X6_93 ⟨by decide, by decide⟩ rfl rfl (Nat.le_of_ble_eq_true rfl) (by decide) (by decide) oc21 c21 ?_
    obtain ⟨ob, rfl, rfl⟩ := H22
    exact z_zret dX6_readOne_19 rfl ob (by decide) (by decide)
theorem eX6_readOne {g : zG} {I : Nat → Nat → Int32} {P : Nat → Nat → Option Nat} {r : Option Value} {h' : zH} {a0 : Nat} {x1 : Int32} (H : Zt none mX6_readOne 0 0 0 [(0, .ref a0), (1, .int x1)] [] (g, I, P) r h') : Cl mX6_readOne [.ref a0, .int x1] (g, I, P) r h' := Cl.of (by decide) (Nat.le_of_ble_eq_true rfl) H
set_option maxRecDepth 10000 in
theorem wX6_readOne_50 {g : zG} {I : Nat → Nat → Int32} {P : Nat → Nat → Option Nat} {r : Option Value} {h' : zH} {a0 : Nat} {x1 : Int32} {xs0 : Int32} {xs1 : Int32} (H : ((xs0 = xs1) → zk g a0 6 ∧ ∃ (I2 : Nat → Nat → Int32), Cl mX6_keepFirst [.ref a0] (g, I, P) none (g, I2, P) ∧ ((x1 = 4) → Zt none mX6_readOne 0 0 115 [(0, .ref a0), (1, .int x1)] [] (g, I2, P) r h') ∧ ((¬ x1 = 4) → ((x1 = 6) → Zt none mX6_readOne 0 0 115 [(0, .ref a0), (1, .int x1)] [] (g, I2, P) r h') ∧ ((¬ x1 = 6) → ((x1 = 7) → Zt none mX6_readOne 0 0 115 [(0, .ref a0), (1, .int x1)] [] (g, I2, P) r h') ∧ ((¬ x1 = 7) → zk g a0 6 ∧ ∃ b11, P a0 6 = some b11 ∧ zk g b11 8 ∧ ∃ (I14 : Nat → Nat → Int32), Cl mX8_step [.ref b11] (g, I2, P) none (g, I14, P) ∧ zk g a0 6 ∧ ∃ b17, P a0 6 = some b17 ∧ zk g b17 8 ∧ ((¬ x1 = 5) → ((I14 b17 3 = 2) → zk g a0 6 ∧ ∃ (I22 : Nat → Nat → Int32), Cl mX6_keepSecond [.ref a0] (g, I14, P) none (g, I22, P) ∧ Zt none mX6_readOne 0 0 115 [(0, .ref a0), (1, .int x1)] [] (g, I22, P) r h') ∧ ((¬ I14 b17 3 = 2) → zk g a0 6 ∧ ∃ (w26 : Int32) (I27 : Nat → Nat → Int32), Cl mX6_refuse [.ref a0] (g, I14, P) (some (.int w26)) (g, I27, P) ∧ (w26 = 0 ∨ w26 = 1) ∧ r = some (.int w26) ∧ h' = (g, I27, P))) ∧ ((x1 = 5) → ((I14 b17 3 = 1) → zk g a0 6 ∧ ∃ (I32 : Nat → Nat → Int32), Cl mX6_keepSecond [.ref a0] (g, I14, P) none (g, I32, P) ∧ Zt none mX6_readOne 0 0 115 [(0, .ref a0), (1, .int x1)] [] (g, I32, P) r h') ∧ ((¬ I14 b17 3 = 1) → zk g a0 6 ∧ ∃ (w36 : Int32) (I37 : Nat → Nat → Int32), Cl mX6_refuse [.ref a0] (g, I14, P) (some (.int w36)) (g, I37, P) ∧ (w36 = 0 ∨ w36 = 1) ∧ r = some (.int w36) ∧ h' = (g, I37, P))))))) ∧ ((¬ xs0 = xs1) → zk g a0 6 ∧ ∃ (w41 : Int32) (I42 : Nat → Nat → Int32), Cl mX6_refuse [.ref a0] (g, I, P) (some (.int w41)) (g, I42, P) ∧ (w41 = 0 ∨ w41 = 1) ∧ r = some (.int w41) ∧ h' = (g, I42, P))) : Zt none mX6_readOne 0 0 50 [(0, .ref a0), (1, .int x1)] [.int xs1, .int xs0] (g, I, P) r h' := by
  refine z_icmp_eq (t := 58) dX6_readOne_50 (by decide) (fun q => ?_) (fun q => ?_)
  · have H1 := H.1 q
    refine z_aload_n 0 dX6_readOne_58 rfl rfl ?_
    obtain ⟨oc3, I2, c3, H4⟩ := H1
    refine z_virt (As := []) (st := []) (r1 := none) (h1 := (g, I2, P)) dX6_readOne_59 kX6_keepFirst wm_X6_97 ⟨by decide, by decide⟩ rfl rfl (Nat.le_of_ble_eq_true rfl) (by decide) (by decide) oc3 c3 ?_
    refine z_iload_n 1 dX6_readOne_62 rfl (z_iconst (w := 4) dX6_readOne_63 (by decide) ?_)
    refine z_icmp_eq (t := 115) dX6_readOne_64 (by decide) (fun q => ?_) (fun q => ?_)
    · have H5 := H4.1 q
      exact z_less [0, 1] rfl H5
    · have H6 := H4.2 q
      refine z_iload_n 1 dX6_readOne_67 rfl (z_bipush (w := 6) dX6_readOne_68 (by decide) ?_)
      refine z_icmp_eq (t := 115) dX6_readOne_70 (by decide) (fun q => ?_) (fun q => ?_)
      · have H7 := H6.1 q
        exact z_less [0, 1] rfl H7
      · have H8 := H6.2 q
        refine z_iload_n 1 dX6_readOne_73 rfl (z_bipush (w := 7) dX6_readOne_74 (by decide) ?_)
        refine z_icmp_eq (t := 115) dX6_readOne_76 (by decide) (fun q => ?_) (fun q => ?_)
        · have H9 := H8.1 q
          exact z_less [0, 1] rfl H9
        · have H10 := H8.2 q
          refine z_aload_n 0 dX6_readOne_79 rfl rfl ?_
          obtain ⟨oe13, b11, e13, H12⟩ := H10
          refine z_getP dX6_readOne_80 wf_X6_42 (by decide) (by decide) rfl oe13 (fun q => (by cases q.symm.trans e13)) (fun j q => ?_)
          cases q.symm.trans e13
          obtain ⟨oc15, I14, c15, H16⟩ := H12
          refine z_virt (As := []) (st := []) (r1 := none) (h1 := (g, I14, P)) dX6_readOne_83 kX8_step wm_X6_69 ⟨by decide, by decide⟩ rfl rfl (Nat.le_of_ble_eq_true rfl) (by decide) (by decide) oc15 c15 ?_
          refine z_aload_n 0 dX6_readOne_86 rfl rfl ?_
          obtain ⟨oe19, b17, e19, H18⟩ := H16
          refine z_getP dX6_readOne_87 wf_X6_42 (by decide) (by decide) rfl oe19 (fun q => (by cases q.symm.trans e19)) (fun j q => ?_)
          cases q.symm.trans e19
          refine z_getI dX6_readOne_90 wf_X6_72 (by decide) (by decide) rfl H18.1 (z_iload_n 1 dX6_readOne_93 rfl (z_iconst (w := 5) dX6_readOne_94 (by decide) ?_))
          refine z_icmp_ne (t := 102) dX6_readOne_95 (by decide) (fun q => ?_) (fun q => ?_)
          · have H20 := H18.2.1 q
            refine z_iconst (w := 2) dX6_readOne_102 (by decide) ?_
            refine z_icmp_eq (t := 111) dX6_readOne_103 (by decide) (fun q => ?_) (fun q => ?_)
            · have H21 := H20.1 q
              refine z_aload_n 0 dX6_readOne_111 rfl rfl ?_
              obtain ⟨oc23, I22, c23, H24⟩ := H21
              refine z_virt (As := []) (st := []) (r1 := none) (h1 := (g, I22, P)) dX6_readOne_112 kX6_keepSecond wm_X6_100 ⟨by decide, by decide⟩ rfl rfl (Nat.le_of_ble_eq_true rfl) (by decide) (by decide) oc23 c23 ?_
              exact z_less [0, 1] rfl H24
            · have H25 := H20.2 q
              refine z_aload_n 0 dX6_readOne_106 rfl rfl ?_
              obtain ⟨oc28, w26, I27, c28, H29⟩ := H25
              refine z_virt (As := []) (st := []) (r1 := (some (.int w26))) (h1 := (g, I27, P)) dX6_readOne_107 kX6_refuse wm_X6_93 ⟨by decide, by decide⟩ rfl rfl (Nat.le_of_ble_eq_true rfl) (by decide) (by decide) oc28 c28 ?_
              obtain ⟨ob, rfl, rfl⟩ := H29
              exact z_zret dX6_readOne_110 rfl ob (by decide) (by decide)
          · have H30 := H18.2.2 q
            refine z_iconst (w := 1) dX6_readOne_98 (by decide) (z_goto (t := 103) dX6_readOne_99 (by decide) ?_)
            refine z_icmp_eq (t := 111) dX6_readOne_103 (by decide) (fun q => ?_) (fun q => ?_)
            · have H31 := H30.1 q
              refine z_aload_n 0 dX6_readOne_111 rfl rfl ?_
              obtain ⟨oc33, I32, c33, H34⟩ := H31
              refine z_virt (As := []) (st := []) (r1 := none) (h1 := (g, I32, P)) dX6_readOne_112 kX6_keepSecond wm_X6_100 ⟨by decide, by decide⟩ rfl rfl (Nat.le_of_ble_eq_true rfl) (by decide) (by decide) oc33 c33 ?_
              exact z_less [0, 1] rfl H34
            · have H35 := H30.2 q
              refine z_aload_n 0 dX6_readOne_106 rfl rfl ?_
              obtain ⟨oc38, w36, I37, c38, H39⟩ := H35
              refine z_virt (As := []) (st := []) (r1 := (some (.int w36))) (h1 := (g, I37, P)) dX6_readOne_107 kX6_refuse wm_X6_93 ⟨by decide, by decide⟩ rfl rfl (Nat.le_of_ble_eq_true rfl) (by decide) (by decide) oc38 c38 ?_
              obtain ⟨ob, rfl, rfl⟩ := H39
              exact z_zret dX6_readOne_110 rfl ob (by decide) (by decide)
  · have H40 := H.2 q
    refine z_aload_n 0 dX6_readOne_53 rfl rfl ?_
    obtain ⟨oc43, w41, I42, c43, H44⟩ := H40
    refine z_virt (As := []) (st := []) (r1 := (some (.int w41))) (h1 := (g, I42, P)) dX6_readOne_54 kX6_refuse wm_X6_93 ⟨by decide, by decide⟩ rfl rfl (Nat.le_of_ble_eq_true rfl) (by decide) (by decide) oc43 c43 ?_
    obtain ⟨ob, rfl, rfl⟩ := H44
    exact z_zret dX6_readOne_57 rfl ob (by decide) (by decide)
set_option maxRecDepth 10000 in
theorem wX6_readOne_115 {g : zG} {I : Nat → Nat → Int32} {P : Nat → Nat → Option Nat} {r : Option Value} {h' : zH} {a0 : Nat} {x1 : Int32} (H : zk g a0 6 ∧ ∃ b1, P a0 6 = some b1 ∧ zk g b1 8 ∧ ∃ (I4 : Nat → Nat → Int32), Cl mX8_step [.ref b1] (g, I, P) none (g, I4, P) ∧ zk g a0 6 ∧ ∃ b7, P a0 6 = some b7 ∧ zk g b7 8 ∧ ((I4 b7 3 = 3) → zk g a0 6 ∧ ∃ (I11 : Nat → Nat → Int32), Cl mX6_tell [.ref a0, .int x1] (g, I4, P) none (g, I11, P) ∧ r = some (.int 1) ∧ h' = (g, I11, P)) ∧ ((¬ I4 b7 3 = 3) → zk g a0 6 ∧ ∃ (w15 : Int32) (I16 : Nat → Nat → Int32), Cl mX6_refuse [.ref a0] (g, I4, P) (some (.int w15)) (g, I16, P) ∧ (w15 = 0 ∨ w15 = 1) ∧ r = some (.int w15) ∧ h' = (g, I16, P))) : Zt none mX6_readOne 0 0 115 [(0, .ref a0), (1, .int x1)] [] (g, I, P) r h' := by
  refine z_aload_n 0 dX6_readOne_115 rfl rfl ?_
  obtain ⟨oe3, b1, e3, H2⟩ := H
  refine z_getP dX6_readOne_116 wf_X6_42 (by decide) (by decide) rfl oe3 (fun q => (by cases q.symm.trans e3)) (fun j q => ?_)
  cases q.symm.trans e3
  obtain ⟨oc5, I4, c5, H6⟩ := H2
  refine z_virt (As := []) (st := []) (r1 := none) (h1 := (g, I4, P)) dX6_readOne_119 kX8_step wm_X6_69 ⟨by decide, by decide⟩ rfl rfl (Nat.le_of_ble_eq_true rfl) (by decide) (by decide) oc5 c5 ?_
  refine z_aload_n 0 dX6_readOne_122 rfl rfl ?_
  obtain ⟨oe9, b7, e9, H8⟩ := H6
  refine z_getP dX6_readOne_123 wf_X6_42 (by decide) (by decide) rfl oe9 (fun q => (by cases q.symm.trans e9)) (fun j q => ?_)
  cases q.symm.trans e9
  refine z_getI dX6_readOne_126 wf_X6_72 (by decide) (by decide) rfl H8.1 (z_iconst (w := 3) dX6_readOne_129 (by decide) ?_)
  refine z_icmp_eq (t := 138) dX6_readOne_130 (by decide) (fun q => ?_) (fun q => ?_)
  · have H10 := H8.2.1 q
    refine z_aload_n 0 dX6_readOne_138 rfl rfl (z_iload_n 1 dX6_readOne_139 rfl ?_)
    obtain ⟨oc12, I11, c12, H13⟩ := H10
    refine z_virt (As := [.int x1]) (st := []) (r1 := none) (h1 := (g, I11, P)) dX6_readOne_140 kX6_tell wm_X6_103 ⟨by decide, by decide⟩ rfl rfl (Nat.le_of_ble_eq_true rfl) (by decide) (by decide) oc12 c12 ?_
    refine z_iconst (w := 1) dX6_readOne_143 (by decide) ?_
    obtain ⟨rfl, rfl⟩ := H13
    exact z_zret dX6_readOne_144 rfl (Or.inr rfl) (by decide) (by decide)
  · have H14 := H8.2.2 q
    refine z_aload_n 0 dX6_readOne_133 rfl rfl ?_
    obtain ⟨oc17, w15, I16, c17, H18⟩ := H14
    refine z_virt (As := []) (st := []) (r1 := (some (.int w15))) (h1 := (g, I16, P)) dX6_readOne_134 kX6_refuse wm_X6_93 ⟨by decide, by decide⟩ rfl rfl (Nat.le_of_ble_eq_true rfl) (by decide) (by decide) oc17 c17 ?_
    obtain ⟨ob, rfl, rfl⟩ := H18
    exact z_zret dX6_readOne_137 rfl ob (by decide) (by decide)
theorem dX6_keepFirst_0 : decode cX6_keepFirst 0 = .ok (.aload_n 0, 1) := by decide +kernel
theorem dX6_keepFirst_1 : decode cX6_keepFirst 1 = .ok (.aload_n 0, 1) := by decide +kernel
theorem dX6_keepFirst_2 : decode cX6_keepFirst 2 = .ok (.getfield 42, 3) := by decide +kernel
theorem dX6_keepFirst_5 : decode cX6_keepFirst 5 = .ok (.getfield 87, 3) := by decide +kernel
theorem dX6_keepFirst_8 : decode cX6_keepFirst 8 = .ok (.putfield 106, 3) := by decide +kernel
theorem dX6_keepFirst_11 : decode cX6_keepFirst 11 = .ok (.aload_n 0, 1) := by decide +kernel
theorem dX6_keepFirst_12 : decode cX6_keepFirst 12 = .ok (.aload_n 0, 1) := by decide +kernel
theorem dX6_keepFirst_13 : decode cX6_keepFirst 13 = .ok (.getfield 42, 3) := by decide +kernel
theorem dX6_keepFirst_16 : decode cX6_keepFirst 16 = .ok (.getfield 109, 3) := by decide +kernel
theorem dX6_keepFirst_19 : decode cX6_keepFirst 19 = .ok (.putfield 110, 3) := by decide +kernel
theorem dX6_keepFirst_22 : decode cX6_keepFirst 22 = .ok (.aload_n 0, 1) := by decide +kernel
theorem dX6_keepFirst_23 : decode cX6_keepFirst 23 = .ok (.aload_n 0, 1) := by decide +kernel
theorem dX6_keepFirst_24 : decode cX6_keepFirst 24 = .ok (.getfield 42, 3) := by decide +kernel
theorem dX6_keepFirst_27 : decode cX6_keepFirst 27 = .ok (.getfield 113, 3) := by decide +kernel
theorem dX6_keepFirst_30 : decode cX6_keepFirst 30 = .ok (.putfield 116, 3) := by decide +kernel
theorem dX6_keepFirst_33 : decode cX6_keepFirst 33 = .ok (.return_, 1) := by decide +kernel
set_option maxRecDepth 10000 in
theorem wX6_keepFirst_0 {g : zG} {I : Nat → Nat → Int32} {P : Nat → Nat → Option Nat} {r : Option Value} {h' : zH} {a0 : Nat} (H : zk g a0 6 ∧ ∃ b1, P a0 6 = some b1 ∧ zk g b1 8 ∧ zk g a0 6 ∧ zk g a0 6 ∧ ∃ b4, P a0 6 = some b4 ∧ zk g b4 8 ∧ zk g a0 6 ∧ zk g a0 6 ∧ ∃ b7, P a0 6 = some b7 ∧ zk g b7 8 ∧ zk g a0 6 ∧ r = none ∧ h' = (g, zU (zU (zU I a0 10 (I b1 4)) a0 11 ((zU I a0 10 (I b1 4)) b4 5)) a0 12 ((zU (zU I a0 10 (I b1 4)) a0 11 ((zU I a0 10 (I b1 4)) b4 5)) b7 6), P)) : Zt none mX6_keepFirst 0 0 0 [(0, .ref a0)] [] (g, I, P) r h' := by
  refine z_aload_n 0 dX6_keepFirst_0 rfl rfl (z_aload_n 0 dX6_keepFirst_1 rfl rfl ?_)
  obtain ⟨oe3, b1, e3, H2⟩ := H
  refine z_getP dX6_keepFirst_2 wf_X6_42 (by decide) (by decide) rfl oe3 (fun q => (by cases q.symm.trans e3)) (fun j q => ?_)
  cases q.symm.trans e3
  refine z_getI dX6_keepFirst_5 wf_X6_87 (by decide) (by decide) rfl H2.1 (z_putI (g := g) (I := I) (Q := P) dX6_keepFirst_8 wf_X6_106 (by decide) (by decide) rfl (Or.inl rfl) (zfit_int rfl) H2.2.1 (z_aload_n 0 dX6_keepFirst_11 rfl rfl (z_aload_n 0 dX6_keepFirst_12 rfl rfl ?_)))
  obtain ⟨oe6, b4, e6, H5⟩ := H2.2.2
  refine z_getP dX6_keepFirst_13 wf_X6_42 (by decide) (by decide) rfl oe6 (fun q => (by cases q.symm.trans e6)) (fun j q => ?_)
  cases q.symm.trans e6
  refine z_getI dX6_keepFirst_16 wf_X6_109 (by decide) (by decide) rfl H5.1 (z_putI (g := g) (I := zU I a0 10 (I b1 4)) (Q := P) dX6_keepFirst_19 wf_X6_110 (by decide) (by decide) rfl (Or.inl rfl) (zfit_int rfl) H5.2.1 (z_aload_n 0 dX6_keepFirst_22 rfl rfl (z_aload_n 0 dX6_keepFirst_23 rfl rfl ?_)))
  obtain ⟨oe9, b7, e9, H8⟩ := H5.2.2
  refine z_getP dX6_keepFirst_24 wf_X6_42 (by decide) (by decide) rfl oe9 (fun q => (by cases q.symm.trans e9)) (fun j q => ?_)
  cases q.symm.trans e9
  refine z_getI dX6_keepFirst_27 wf_X6_113 (by decide) (by decide) rfl H8.1 (z_putI (g := g) (I := zU (zU I a0 10 (I b1 4)) a0 11 ((zU I a0 10 (I b1 4)) b4 5)) (Q := P) dX6_keepFirst_30 wf_X6_116 (by decide) (by decide) rfl (Or.inl rfl) (zfit_int rfl) H8.2.1 ?_)
  obtain ⟨rfl, rfl⟩ := H8.2.2
  exact z_vret dX6_keepFirst_33 rfl (by decide) (by decide)
theorem eX6_keepFirst {g : zG} {I : Nat → Nat → Int32} {P : Nat → Nat → Option Nat} {r : Option Value} {h' : zH} {a0 : Nat} (H : Zt none mX6_keepFirst 0 0 0 [(0, .ref a0)] [] (g, I, P) r h') : Cl mX6_keepFirst [.ref a0] (g, I, P) r h' := Cl.of (by decide) (Nat.le_of_ble_eq_true rfl) H
theorem dX6_keepSecond_0 : decode cX6_keepSecond 0 = .ok (.aload_n 0, 1) := by decide +kernel
theorem dX6_keepSecond_1 : decode cX6_keepSecond 1 = .ok (.aload_n 0, 1) := by decide +kernel
theorem dX6_keepSecond_2 : decode cX6_keepSecond 2 = .ok (.getfield 42, 3) := by decide +kernel
theorem dX6_keepSecond_5 : decode cX6_keepSecond 5 = .ok (.getfield 87, 3) := by decide +kernel
theorem dX6_keepSecond_8 : decode cX6_keepSecond 8 = .ok (.putfield 119, 3) := by decide +kernel
theorem dX6_keepSecond_11 : decode cX6_keepSecond 11 = .ok (.aload_n 0, 1) := by decide +kernel
theorem dX6_keepSecond_12 : decode cX6_keepSecond 12 = .ok (.aload_n 0, 1) := by decide +kernel
theorem dX6_keepSecond_13 : decode cX6_keepSecond 13 = .ok (.getfield 42, 3) := by decide +kernel
theorem dX6_keepSecond_16 : decode cX6_keepSecond 16 = .ok (.getfield 109, 3) := by decide +kernel
theorem dX6_keepSecond_19 : decode cX6_keepSecond 19 = .ok (.putfield 122, 3) := by decide +kernel
theorem dX6_keepSecond_22 : decode cX6_keepSecond 22 = .ok (.aload_n 0, 1) := by decide +kernel
theorem dX6_keepSecond_23 : decode cX6_keepSecond 23 = .ok (.aload_n 0, 1) := by decide +kernel
theorem dX6_keepSecond_24 : decode cX6_keepSecond 24 = .ok (.getfield 42, 3) := by decide +kernel
theorem dX6_keepSecond_27 : decode cX6_keepSecond 27 = .ok (.getfield 113, 3) := by decide +kernel
theorem dX6_keepSecond_30 : decode cX6_keepSecond 30 = .ok (.putfield 125, 3) := by decide +kernel
theorem dX6_keepSecond_33 : decode cX6_keepSecond 33 = .ok (.return_, 1) := by decide +kernel
set_option maxRecDepth 10000 in
theorem wX6_keepSecond_0 {g : zG} {I : Nat → Nat → Int32} {P : Nat → Nat → Option Nat} {r : Option Value} {h' : zH} {a0 : Nat} (H : zk g a0 6 ∧ ∃ b1, P a0 6 = some b1 ∧ zk g b1 8 ∧ zk g a0 6 ∧ zk g a0 6 ∧ ∃ b4, P a0 6 = some b4 ∧ zk g b4 8 ∧ zk g a0 6 ∧ zk g a0 6 ∧ ∃ b7, P a0 6 = some b7 ∧ zk g b7 8 ∧ zk g a0 6 ∧ r = none ∧ h' = (g, zU (zU (zU I a0 13 (I b1 4)) a0 14 ((zU I a0 13 (I b1 4)) b4 5)) a0 15 ((zU (zU I a0 13 (I b1 4)) a0 14 ((zU I a0 13 (I b1 4)) b4 5)) b7 6), P)) : Zt none mX6_keepSecond 0 0 0 [(0, .ref a0)] [] (g, I, P) r h' := by
  refine z_aload_n 0 dX6_keepSecond_0 rfl rfl (z_aload_n 0 dX6_keepSecond_1 rfl rfl ?_)
  obtain ⟨oe3, b1, e3, H2⟩ := H
  refine z_getP dX6_keepSecond_2 wf_X6_42 (by decide) (by decide) rfl oe3 (fun q => (by cases q.symm.trans e3)) (fun j q => ?_)
  cases q.symm.trans e3
  refine z_getI dX6_keepSecond_5 wf_X6_87 (by decide) (by decide) rfl H2.1 (z_putI (g := g) (I := I) (Q := P) dX6_keepSecond_8 wf_X6_119 (by decide) (by decide) rfl (Or.inl rfl) (zfit_int rfl) H2.2.1 (z_aload_n 0 dX6_keepSecond_11 rfl rfl (z_aload_n 0 dX6_keepSecond_12 rfl rfl ?_)))
  obtain ⟨oe6, b4, e6, H5⟩ := H2.2.2
  refine z_getP dX6_keepSecond_13 wf_X6_42 (by decide) (by decide) rfl oe6 (fun q => (by cases q.symm.trans e6)) (fun j q => ?_)
  cases q.symm.trans e6
  refine z_getI dX6_keepSecond_16 wf_X6_109 (by decide) (by decide) rfl H5.1 (z_putI (g := g) (I := zU I a0 13 (I b1 4)) (Q := P) dX6_keepSecond_19 wf_X6_122 (by decide) (by decide) rfl (Or.inl rfl) (zfit_int rfl) H5.2.1 (z_aload_n 0 dX6_keepSecond_22 rfl rfl (z_aload_n 0 dX6_keepSecond_23 rfl rfl ?_)))
  obtain ⟨oe9, b7, e9, H8⟩ := H5.2.2
  refine z_getP dX6_keepSecond_24 wf_X6_42 (by decide) (by decide) rfl oe9 (fun q => (by cases q.symm.trans e9)) (fun j q => ?_)
  cases q.symm.trans e9
  refine z_getI dX6_keepSecond_27 wf_X6_113 (by decide) (by decide) rfl H8.1 (z_putI (g := g) (I := zU (zU I a0 13 (I b1 4)) a0 14 ((zU I a0 13 (I b1 4)) b4 5)) (Q := P) dX6_keepSecond_30 wf_X6_125 (by decide) (by decide) rfl (Or.inl rfl) (zfit_int rfl) H8.2.1 ?_)
  obtain ⟨rfl, rfl⟩ := H8.2.2
  exact z_vret dX6_keepSecond_33 rfl (by decide) (by decide)
theorem eX6_keepSecond {g : zG} {I : Nat → Nat → Int32} {P : Nat → Nat → Option Nat} {r : Option Value} {h' : zH} {a0 : Nat} (H : Zt none mX6_keepSecond 0 0 0 [(0, .ref a0)] [] (g, I, P) r h') : Cl mX6_keepSecond [.ref a0] (g, I, P) r h' := Cl.of (by decide) (Nat.le_of_ble_eq_true rfl) H
theorem dX6_refuse_0 : decode cX6_refuse 0 = .ok (.aload_n 0, 1) := by decide +kernel
theorem dX6_refuse_1 : decode cX6_refuse 1 = .ok (.iconst 1, 1) := by decide +kernel
theorem dX6_refuse_2 : decode cX6_refuse 2 = .ok (.putfield 54, 3) := by decide +kernel
theorem dX6_refuse_5 : decode cX6_refuse 5 = .ok (.aload_n 0, 1) := by decide +kernel
theorem dX6_refuse_6 : decode cX6_refuse 6 = .ok (.aload_n 0, 1) := by decide +kernel
theorem dX6_refuse_7 : decode cX6_refuse 7 = .ok (.getfield 42, 3) := by decide +kernel
theorem dX6_refuse_10 : decode cX6_refuse 10 = .ok (.getfield 87, 3) := by decide +kernel
theorem dX6_refuse_13 : decode cX6_refuse 13 = .ok (.putfield 58, 3) := by decide +kernel
theorem dX6_refuse_16 : decode cX6_refuse 16 = .ok (.iconst 0, 1) := by decide +kernel
theorem dX6_refuse_17 : decode cX6_refuse 17 = .ok (.ireturn, 1) := by decide +kernel
set_option maxRecDepth 10000 in
theorem wX6_refuse_0 {g : zG} {I : Nat → Nat → Int32} {P : Nat → Nat → Option Nat} {r : Option Value} {h' : zH} {a0 : Nat} (H : zk g a0 6 ∧ zk g a0 6 ∧ ∃ b1, P a0 6 = some b1 ∧ zk g b1 8 ∧ zk g a0 6 ∧ r = some (.int 0) ∧ h' = (g, zU (zU I a0 4 1) a0 5 ((zU I a0 4 1) b1 4), P)) : Zt none mX6_refuse 0 0 0 [(0, .ref a0)] [] (g, I, P) r h' := by
  refine z_aload_n 0 dX6_refuse_0 rfl rfl (z_iconst (w := 1) dX6_refuse_1 (by decide) (z_putI (g := g) (I := I) (Q := P) dX6_refuse_2 wf_X6_54 (by decide) (by decide) rfl (Or.inl rfl) (zfit_int rfl) H.1 (z_aload_n 0 dX6_refuse_5 rfl rfl (z_aload_n 0 dX6_refuse_6 rfl rfl ?_))))
  obtain ⟨oe3, b1, e3, H2⟩ := H.2
  refine z_getP dX6_refuse_7 wf_X6_42 (by decide) (by decide) rfl oe3 (fun q => (by cases q.symm.trans e3)) (fun j q => ?_)
  cases q.symm.trans e3
  refine z_getI dX6_refuse_10 wf_X6_87 (by decide) (by decide) rfl H2.1 (z_putI (g := g) (I := zU I a0 4 1) (Q := P) dX6_refuse_13 wf_X6_58 (by decide) (by decide) rfl (Or.inl rfl) (zfit_int rfl) H2.2.1 (z_iconst (w := 0) dX6_refuse_16 (by decide) ?_))
  obtain ⟨rfl, rfl⟩ := H2.2.2
  exact z_zret dX6_refuse_17 rfl (Or.inl rfl) (by decide) (by decide)
theorem eX6_refuse {g : zG} {I : Nat → Nat → Int32} {P : Nat → Nat → Option Nat} {r : Option Value} {h' : zH} {a0 : Nat} (H : Zt none mX6_refuse 0 0 0 [(0, .ref a0)] [] (g, I, P) r h') : Cl mX6_refuse [.ref a0] (g, I, P) r h' := Cl.of (by decide) (Nat.le_of_ble_eq_true rfl) H
theorem dX6_keyOf_0 : decode cX6_keyOf 0 = .ok (.iload_n 1, 1) := by decide +kernel
theorem dX6_keyOf_1 : decode cX6_keyOf 1 = .ok (.tableswitch 79 0 3 #[31, 36, 41, 60], 31) := by decide +kernel
theorem dX6_keyOf_32 : decode cX6_keyOf 32 = .ok (.aload_n 0, 1) := by decide +kernel
theorem dX6_keyOf_33 : decode cX6_keyOf 33 = .ok (.invokevirtual 128, 3) := by decide +kernel
theorem dX6_keyOf_36 : decode cX6_keyOf 36 = .ok (.ireturn, 1) := by decide +kernel
theorem dX6_keyOf_37 : decode cX6_keyOf 37 = .ok (.aload_n 0, 1) := by decide +kernel
theorem dX6_keyOf_38 : decode cX6_keyOf 38 = .ok (.invokevirtual 132, 3) := by decide +kernel
theorem dX6_keyOf_41 : decode cX6_keyOf 41 = .ok (.ireturn, 1) := by decide +kernel
theorem dX6_keyOf_42 : decode cX6_keyOf 42 = .ok (.aload_n 0, 1) := by decide +kernel
theorem dX6_keyOf_43 : decode cX6_keyOf 43 = .ok (.getfield 42, 3) := by decide +kernel
theorem dX6_keyOf_46 : decode cX6_keyOf 46 = .ok (.ldc 135, 2) := by decide +kernel
theorem dX6_keyOf_48 : decode cX6_keyOf 48 = .ok (.invokevirtual 137, 3) := by decide +kernel
theorem dX6_keyOf_51 : decode cX6_keyOf 51 = .ok (.ifCond .eq 8, 3) := by decide +kernel
theorem dX6_keyOf_54 : decode cX6_keyOf 54 = .ok (.bipush 7, 2) := by decide +kernel
theorem dX6_keyOf_56 : decode cX6_keyOf 56 = .ok (.goto 4, 3) := by decide +kernel
theorem dX6_keyOf_59 : decode cX6_keyOf 59 = .ok (.iconst 0, 1) := by decide +kernel
theorem dX6_keyOf_60 : decode cX6_keyOf 60 = .ok (.ireturn, 1) := by decide +kernel
theorem dX6_keyOf_61 : decode cX6_keyOf 61 = .ok (.aload_n 0, 1) := by decide +kernel
theorem dX6_keyOf_62 : decode cX6_keyOf 62 = .ok (.getfield 42, 3) := by decide +kernel
theorem dX6_keyOf_65 : decode cX6_keyOf 65 = .ok (.ldc 141, 2) := by decide +kernel
theorem dX6_keyOf_67 : decode cX6_keyOf 67 = .ok (.invokevirtual 137, 3) := by decide +kernel
theorem dX6_keyOf_70 : decode cX6_keyOf 70 = .ok (.ifCond .eq 8, 3) := by decide +kernel
theorem dX6_keyOf_73 : decode cX6_keyOf 73 = .ok (.bipush 8, 2) := by decide +kernel
theorem dX6_keyOf_75 : decode cX6_keyOf 75 = .ok (.goto 4, 3) := by decide +kernel
theorem dX6_keyOf_78 : decode cX6_keyOf 78 = .ok (.iconst 0, 1) := by decide +kernel
theorem dX6_keyOf_79 : decode cX6_keyOf 79 = .ok (.ireturn, 1) := by decide +kernel
theorem dX6_keyOf_80 : decode cX6_keyOf 80 = .ok (.iconst 0, 1) := by decide +kernel
theorem dX6_keyOf_81 : decode cX6_keyOf 81 = .ok (.ireturn, 1) := by decide +kernel
set_option maxRecDepth 10000 in
theorem wX6_keyOf_0 {g : zG} {I : Nat → Nat → Int32} {P : Nat → Nat → Option Nat} {r : Option Value} {h' : zH} {a0 : Nat} {x1 : Int32} (H : ((x1 = 0) → zk g a0 6 ∧ ∃ (w3 : Int32), Cl mX6_hillKey [.ref a0] (g, I, P) (some (.int w3)) (g, I, P) ∧ r = some (.int w3) ∧ h' = (g, I, P)) ∧ ((x1 = 1) → zk g a0 6 ∧ ∃ (w8 : Int32) (I9 : Nat → Nat → Int32), Cl mX6_centuryKey [.ref a0] (g, I, P) (some (.int w8)) (g, I9, P) ∧ r = some (.int w8) ∧ h' = (g, I9, P)) ∧ ((x1 = 2) → zk g a0 6 ∧ ∃ b14, P a0 6 = some b14 ∧ zk g b14 8 ∧ ∃ (w17 : Int32), Cl mX8_is [.ref b14, .retAddr 9] (g, I, P) (some (.int w17)) (g, I, P) ∧ ((w17 = 0) → r = some (.int 0) ∧ h' = (g, I, P)) ∧ ((¬ w17 = 0) → r = some (.int 7) ∧ h' = (g, I, P))) ∧ ((x1 = 3) → zk g a0 6 ∧ ∃ b24, P a0 6 = some b24 ∧ zk g b24 8 ∧ ∃ (w27 : Int32), Cl mX8_is [.ref b24, .retAddr 10] (g, I, P) (some (.int w27)) (g, I, P) ∧ ((w27 = 0) → r = some (.int 0) ∧ h' = (g, I, P)) ∧ ((¬ w27 = 0) → r = some (.int 8) ∧ h' = (g, I, P))) ∧ (¬ x1 = 0 → ¬ x1 = 1 → ¬ x1 = 2 → ¬ x1 = 3 → r = some (.int 0) ∧ h' = (g, I, P))) : Zt none mX6_keyOf 0 0 0 [(0, .ref a0), (1, .int x1)] [] (g, I, P) r h' := by
  refine z_iload_n 1 dX6_keyOf_0 rfl ?_
  by_cases q1 : x1 = 0
  · have H2 := H.1 q1
    have eq1 : (x1 : Int32).toInt = 0 := by rw [q1]; decide
    refine z_tableIn (off := 31) (t := 32) dX6_keyOf_1 (by rw [eq1]; decide) (by rw [eq1]; decide) (by rw [eq1]; rfl) (by decide) ?_
    refine z_aload_n 0 dX6_keyOf_32 rfl rfl ?_
    obtain ⟨oc4, w3, c4, H5⟩ := H2
    refine z_virt (As := []) (st := []) (r1 := (some (.int w3))) (h1 := (g, I, P)) dX6_keyOf_33 kX6_hillKey wm_X6_128 ⟨by decide, by decide⟩ rfl rfl (Nat.le_of_ble_eq_true rfl) (by decide) (by decide) oc4 c4 ?_
    obtain ⟨rfl, rfl⟩ := H5
    exact z_iret dX6_keyOf_36 rfl (by decide) (by decide)
  by_cases q6 : x1 = 1
  · have H7 := H.2.1 q6
    have eq6 : (x1 : Int32).toInt = 1 := by rw [q6]; decide
    refine z_tableIn (off := 36) (t := 37) dX6_keyOf_1 (by rw [eq6]; decide) (by rw [eq6]; decide) (by rw [eq6]; rfl) (by decide) ?_
    refine z_aload_n 0 dX6_keyOf_37 rfl rfl ?_
    obtain ⟨oc10, w8, I9, c10, H11⟩ := H7
    refine z_virt (As := []) (st := []) (r1 := (some (.int w8))) (h1 := (g, I9, P)) dX6_keyOf_38 kX6_centuryKey wm_X6_132 ⟨by decide, by decide⟩ rfl rfl (Nat.le_of_ble_eq_true rfl) (by decide) (by decide) oc10 c10 ?_
    obtain ⟨rfl, rfl⟩ := H11
    exact z_iret dX6_keyOf_41 rfl (by decide) (by decide)
  by_cases q12 : x1 = 2
  · have H13 := H.2.2.1 q12
    have eq12 : (x1 : Int32).toInt = 2 := by rw [q12]; decide
    refine z_tableIn (off := 41) (t := 42) dX6_keyOf_1 (by rw [eq12]; decide) (by rw [eq12]; decide) (by rw [eq12]; rfl) (by decide) ?_
    refine z_aload_n 0 dX6_keyOf_42 rfl rfl ?_
    obtain ⟨oe16, b14, e16, H15⟩ := H13
    refine z_getP dX6_keyOf_43 wf_X6_42 (by decide) (by decide) rfl oe16 (fun q => (by cases q.symm.trans e16)) (fun j q => ?_)
    cases q.symm.trans e16
    refine z_ldcS (j := 9) dX6_keyOf_46 rfl rfl ?_
    obtain ⟨oc18, w17, c18, H19⟩ := H15
    refine z_virt (As := [.retAddr 9]) (st := []) (r1 := (some (.int w17))) (h1 := (g, I, P)) dX6_keyOf_48 kX8_is wm_X6_137 ⟨by decide, by decide⟩ rfl rfl (Nat.le_of_ble_eq_true rfl) (by decide) (by decide) oc18 c18 ?_
    refine z_if_eq (t := 59) dX6_keyOf_51 (by decide) (fun q => ?_) (fun q => ?_)
    · have H20 := H19.1 q
      refine z_iconst (w := 0) dX6_keyOf_59 (by decide) ?_
      obtain ⟨rfl, rfl⟩ := H20
      exact z_iret dX6_keyOf_60 rfl (by decide) (by decide)
    · have H21 := H19.2 q
      refine z_bipush (w := 7) dX6_keyOf_54 (by decide) (z_goto (t := 60) dX6_keyOf_56 (by decide) ?_)
      obtain ⟨rfl, rfl⟩ := H21
      exact z_iret dX6_keyOf_60 rfl (by decide) (by decide)
  by_cases q22 : x1 = 3
  · have H23 := H.2.2.2.1 q22
    have eq22 : (x1 : Int32).toInt = 3 := by rw [q22]; decide
    refine z_tableIn (off := 60) (t := 61) dX6_keyOf_1 (by rw [eq22]; decide) (by rw [eq22]; decide) (by rw [eq22]; rfl) (by decide) ?_
    refine z_aload_n 0 dX6_keyOf_61 rfl rfl ?_
    obtain ⟨oe26, b24, e26, H25⟩ := H23
    refine z_getP dX6_keyOf_62 wf_X6_42 (by decide) (by decide) rfl oe26 (fun q => (by cases q.symm.trans e26)) (fun j q => ?_)
    cases q.symm.trans e26
    refine z_ldcS (j := 10) dX6_keyOf_65 rfl rfl ?_
    obtain ⟨oc28, w27, c28, H29⟩ := H25
    refine z_virt (As := [.retAddr 10]) (st := []) (r1 := (some (.int w27))) (h1 := (g, I, P)) dX6_keyOf_67 kX8_is wm_X6_137 ⟨by decide, by decide⟩ rfl rfl (Nat.le_of_ble_eq_true rfl) (by decide) (by decide) oc28 c28 ?_
    refine z_if_eq (t := 78) dX6_keyOf_70 (by decide) (fun q => ?_) (fun q => ?_)
    · have H30 := H29.1 q
      refine z_iconst (w := 0) dX6_keyOf_78 (by decide) ?_
      obtain ⟨rfl, rfl⟩ := H30
      exact z_iret dX6_keyOf_79 rfl (by decide) (by decide)
    · have H31 := H29.2 q
      refine z_bipush (w := 8) dX6_keyOf_73 (by decide) (z_goto (t := 79) dX6_keyOf_75 (by decide) ?_)
      obtain ⟨rfl, rfl⟩ := H31
      exact z_iret dX6_keyOf_79 rfl (by decide) (by decide)
  have H32 := H.2.2.2.2 q1 q6 q12 q22
  have nq1 := lv_neT q1 (show (0 : Int32).toInt = 0 by decide)
  have nq6 := lv_neT q6 (show (1 : Int32).toInt = 1 by decide)
  have nq12 := lv_neT q12 (show (2 : Int32).toInt = 2 by decide)
  have nq22 := lv_neT q22 (show (3 : Int32).toInt = 3 by decide)
  refine z_tableOut (t := 80) dX6_keyOf_1 (by omega) (by decide) ?_
  refine z_iconst (w := 0) dX6_keyOf_80 (by decide) ?_
  obtain ⟨rfl, rfl⟩ := H32
  exact z_iret dX6_keyOf_81 rfl (by decide) (by decide)
theorem eX6_keyOf {g : zG} {I : Nat → Nat → Int32} {P : Nat → Nat → Option Nat} {r : Option Value} {h' : zH} {a0 : Nat} {x1 : Int32} (H : Zt none mX6_keyOf 0 0 0 [(0, .ref a0), (1, .int x1)] [] (g, I, P) r h') : Cl mX6_keyOf [.ref a0, .int x1] (g, I, P) r h' := Cl.of (by decide) (Nat.le_of_ble_eq_true rfl) H
theorem dX6_hillKey_0 : decode cX6_hillKey 0 = .ok (.aload_n 0, 1) := by decide +kernel
theorem dX6_hillKey_1 : decode cX6_hillKey 1 = .ok (.getfield 42, 3) := by decide +kernel
theorem dX6_hillKey_4 : decode cX6_hillKey 4 = .ok (.ldc 143, 2) := by decide +kernel
theorem dX6_hillKey_6 : decode cX6_hillKey 6 = .ok (.invokevirtual 137, 3) := by decide +kernel
theorem dX6_hillKey_9 : decode cX6_hillKey 9 = .ok (.ifCond .eq 5, 3) := by decide +kernel
theorem dX6_hillKey_12 : decode cX6_hillKey 12 = .ok (.iconst 1, 1) := by decide +kernel
theorem dX6_hillKey_13 : decode cX6_hillKey 13 = .ok (.ireturn, 1) := by decide +kernel
theorem dX6_hillKey_14 : decode cX6_hillKey 14 = .ok (.aload_n 0, 1) := by decide +kernel
theorem dX6_hillKey_15 : decode cX6_hillKey 15 = .ok (.getfield 42, 3) := by decide +kernel
theorem dX6_hillKey_18 : decode cX6_hillKey 18 = .ok (.ldc 145, 2) := by decide +kernel
theorem dX6_hillKey_20 : decode cX6_hillKey 20 = .ok (.invokevirtual 137, 3) := by decide +kernel
theorem dX6_hillKey_23 : decode cX6_hillKey 23 = .ok (.ifCond .eq 5, 3) := by decide +kernel
theorem dX6_hillKey_26 : decode cX6_hillKey 26 = .ok (.iconst 2, 1) := by decide +kernel
theorem dX6_hillKey_27 : decode cX6_hillKey 27 = .ok (.ireturn, 1) := by decide +kernel
theorem dX6_hillKey_28 : decode cX6_hillKey 28 = .ok (.aload_n 0, 1) := by decide +kernel
theorem dX6_hillKey_29 : decode cX6_hillKey 29 = .ok (.getfield 42, 3) := by decide +kernel
theorem dX6_hillKey_32 : decode cX6_hillKey 32 = .ok (.ldc 147, 2) := by decide +kernel
theorem dX6_hillKey_34 : decode cX6_hillKey 34 = .ok (.invokevirtual 137, 3) := by decide +kernel
theorem dX6_hillKey_37 : decode cX6_hillKey 37 = .ok (.ifCond .eq 5, 3) := by decide +kernel
theorem dX6_hillKey_40 : decode cX6_hillKey 40 = .ok (.iconst 3, 1) := by decide +kernel
theorem dX6_hillKey_41 : decode cX6_hillKey 41 = .ok (.ireturn, 1) := by decide +kernel
theorem dX6_hillKey_42 : decode cX6_hillKey 42 = .ok (.aload_n 0, 1) := by decide +kernel
theorem dX6_hillKey_43 : decode cX6_hillKey 43 = .ok (.getfield 42, 3) := by decide +kernel
theorem dX6_hillKey_46 : decode cX6_hillKey 46 = .ok (.ldc 149, 2) := by decide +kernel
theorem dX6_hillKey_48 : decode cX6_hillKey 48 = .ok (.invokevirtual 137, 3) := by decide +kernel
theorem dX6_hillKey_51 : decode cX6_hillKey 51 = .ok (.ifCond .eq 7, 3) := by decide +kernel
theorem dX6_hillKey_54 : decode cX6_hillKey 54 = .ok (.iconst 4, 1) := by decide +kernel
theorem dX6_hillKey_55 : decode cX6_hillKey 55 = .ok (.goto 4, 3) := by decide +kernel
theorem dX6_hillKey_58 : decode cX6_hillKey 58 = .ok (.iconst 0, 1) := by decide +kernel
theorem dX6_hillKey_59 : decode cX6_hillKey 59 = .ok (.ireturn, 1) := by decide +kernel
set_option maxRecDepth 10000 in
theorem wX6_hillKey_0 {g : zG} {I : Nat → Nat → Int32} {P : Nat → Nat → Option Nat} {r : Option Value} {h' : zH} {a0 : Nat} (H : zk g a0 6 ∧ ∃ b1, P a0 6 = some b1 ∧ zk g b1 8 ∧ ∃ (w4 : Int32), Cl mX8_is [.ref b1, .retAddr 0] (g, I, P) (some (.int w4)) (g, I, P) ∧ ((w4 = 0) → zk g a0 6 ∧ ∃ b8, P a0 6 = some b8 ∧ zk g b8 8 ∧ ∃ (w11 : Int32), Cl mX8_is [.ref b8, .retAddr 1] (g, I, P) (some (.int w11)) (g, I, P) ∧ ((w11 = 0) → zk g a0 6 ∧ ∃ b15, P a0 6 = some b15 ∧ zk g b15 8 ∧ ∃ (w18 : Int32), Cl mX8_is [.ref b15, .retAddr 2] (g, I, P) (some (.int w18)) (g, I, P) ∧ ((w18 = 0) → zk g a0 6 ∧ ∃ b22, P a0 6 = some b22 ∧ zk g b22 8 ∧ ∃ (w25 : Int32), Cl mX8_is [.ref b22, .retAddr 3] (g, I, P) (some (.int w25)) (g, I, P) ∧ ((w25 = 0) → r = some (.int 0) ∧ h' = (g, I, P)) ∧ ((¬ w25 = 0) → r = some (.int 4) ∧ h' = (g, I, P))) ∧ ((¬ w18 = 0) → r = some (.int 3) ∧ h' = (g, I, P))) ∧ ((¬ w11 = 0) → r = some (.int 2) ∧ h' = (g, I, P))) ∧ ((¬ w4 = 0) → r = some (.int 1) ∧ h' = (g, I, P))) : Zt none mX6_hillKey 0 0 0 [(0, .ref a0)] [] (g, I, P) r h' := by
  refine z_aload_n 0 dX6_hillKey_0 rfl rfl ?_
  obtain ⟨oe3, b1, e3, H2⟩ := H
  refine z_getP dX6_hillKey_1 wf_X6_42 (by decide) (by decide) rfl oe3 (fun q => (by cases q.symm.trans e3)) (fun j q => ?_)
  cases q.symm.trans e3
  refine z_ldcS (j := 0) dX6_hillKey_4 rfl rfl ?_
  obtain ⟨oc5, w4, c5, H6⟩ := H2
  refine z_virt (As := [.retAddr 0]) (st := []) (r1 := (some (.int w4))) (h1 := (g, I, P)) dX6_hillKey_6 kX8_is wm_X6_137 ⟨by decide, by decide⟩ rfl rfl (Nat.le_of_ble_eq_true rfl) (by decide) (by decide) oc5 c5 ?_
  refine z_if_eq (t := 14) dX6_hillKey_9 (by decide) (fun q => ?_) (fun q => ?_)
  · have H7 := H6.1 q
    refine z_aload_n 0 dX6_hillKey_14 rfl rfl ?_
    obtain ⟨oe10, b8, e10, H9⟩ := H7
    refine z_getP dX6_hillKey_15 wf_X6_42 (by decide) (by decide) rfl oe10 (fun q => (by cases q.symm.trans e10)) (fun j q => ?_)
    cases q.symm.trans e10
    refine z_ldcS (j := 1) dX6_hillKey_18 rfl rfl ?_
    obtain ⟨oc12, w11, c12, H13⟩ := H9
    refine z_virt (As := [.retAddr 1]) (st := []) (r1 := (some (.int w11))) (h1 := (g, I, P)) dX6_hillKey_20 kX8_is wm_X6_137 ⟨by decide, by decide⟩ rfl rfl (Nat.le_of_ble_eq_true rfl) (by decide) (by decide) oc12 c12 ?_
    refine z_if_eq (t := 28) dX6_hillKey_23 (by decide) (fun q => ?_) (fun q => ?_)
    · have H14 := H13.1 q
      refine z_aload_n 0 dX6_hillKey_28 rfl rfl ?_
      obtain ⟨oe17, b15, e17, H16⟩ := H14
      refine z_getP dX6_hillKey_29 wf_X6_42 (by decide) (by decide) rfl oe17 (fun q => (by cases q.symm.trans e17)) (fun j q => ?_)
      cases q.symm.trans e17
      refine z_ldcS (j := 2) dX6_hillKey_32 rfl rfl ?_
      obtain ⟨oc19, w18, c19, H20⟩ := H16
      refine z_virt (As := [.retAddr 2]) (st := []) (r1 := (some (.int w18))) (h1 := (g, I, P)) dX6_hillKey_34 kX8_is wm_X6_137 ⟨by decide, by decide⟩ rfl rfl (Nat.le_of_ble_eq_true rfl) (by decide) (by decide) oc19 c19 ?_
      refine z_if_eq (t := 42) dX6_hillKey_37 (by decide) (fun q => ?_) (fun q => ?_)
      · have H21 := H20.1 q
        refine z_aload_n 0 dX6_hillKey_42 rfl rfl ?_
        obtain ⟨oe24, b22, e24, H23⟩ := H21
        refine z_getP dX6_hillKey_43 wf_X6_42 (by decide) (by decide) rfl oe24 (fun q => (by cases q.symm.trans e24)) (fun j q => ?_)
        cases q.symm.trans e24
        refine z_ldcS (j := 3) dX6_hillKey_46 rfl rfl ?_
        obtain ⟨oc26, w25, c26, H27⟩ := H23
        refine z_virt (As := [.retAddr 3]) (st := []) (r1 := (some (.int w25))) (h1 := (g, I, P)) dX6_hillKey_48 kX8_is wm_X6_137 ⟨by decide, by decide⟩ rfl rfl (Nat.le_of_ble_eq_true rfl) (by decide) (by decide) oc26 c26 ?_
        refine z_if_eq (t := 58) dX6_hillKey_51 (by decide) (fun q => ?_) (fun q => ?_)
        · have H28 := H27.1 q
          refine z_iconst (w := 0) dX6_hillKey_58 (by decide) ?_
          obtain ⟨rfl, rfl⟩ := H28
          exact z_iret dX6_hillKey_59 rfl (by decide) (by decide)
        · have H29 := H27.2 q
          refine z_iconst (w := 4) dX6_hillKey_54 (by decide) (z_goto (t := 59) dX6_hillKey_55 (by decide) ?_)
          obtain ⟨rfl, rfl⟩ := H29
          exact z_iret dX6_hillKey_59 rfl (by decide) (by decide)
      · have H30 := H20.2 q
        refine z_iconst (w := 3) dX6_hillKey_40 (by decide) ?_
        obtain ⟨rfl, rfl⟩ := H30
        exact z_iret dX6_hillKey_41 rfl (by decide) (by decide)
    · have H31 := H13.2 q
      refine z_iconst (w := 2) dX6_hillKey_26 (by decide) ?_
      obtain ⟨rfl, rfl⟩ := H31
      exact z_iret dX6_hillKey_27 rfl (by decide) (by decide)
  · have H32 := H6.2 q
    refine z_iconst (w := 1) dX6_hillKey_12 (by decide) ?_
    obtain ⟨rfl, rfl⟩ := H32
    exact z_iret dX6_hillKey_13 rfl (by decide) (by decide)
theorem eX6_hillKey {g : zG} {I : Nat → Nat → Int32} {P : Nat → Nat → Option Nat} {r : Option Value} {h' : zH} {a0 : Nat} (H : Zt none mX6_hillKey 0 0 0 [(0, .ref a0)] [] (g, I, P) r h') : Cl mX6_hillKey [.ref a0] (g, I, P) r h' := Cl.of (by decide) (Nat.le_of_ble_eq_true rfl) H
theorem dX6_centuryKey_0 : decode cX6_centuryKey 0 = .ok (.aload_n 0, 1) := by decide +kernel
theorem dX6_centuryKey_1 : decode cX6_centuryKey 1 = .ok (.aload_n 0, 1) := by decide +kernel
theorem dX6_centuryKey_2 : decode cX6_centuryKey 2 = .ok (.invokevirtual 151, 3) := by decide +kernel
theorem dX6_centuryKey_5 : decode cX6_centuryKey 5 = .ok (.putfield 154, 3) := by decide +kernel
theorem dX6_centuryKey_8 : decode cX6_centuryKey 8 = .ok (.aload_n 0, 1) := by decide +kernel
theorem dX6_centuryKey_9 : decode cX6_centuryKey 9 = .ok (.getfield 154, 3) := by decide +kernel
theorem dX6_centuryKey_12 : decode cX6_centuryKey 12 = .ok (.iconst (-1), 1) := by decide +kernel
theorem dX6_centuryKey_13 : decode cX6_centuryKey 13 = .ok (.if_icmp .ne 5, 3) := by decide +kernel
theorem dX6_centuryKey_16 : decode cX6_centuryKey 16 = .ok (.iconst 0, 1) := by decide +kernel
theorem dX6_centuryKey_17 : decode cX6_centuryKey 17 = .ok (.ireturn, 1) := by decide +kernel
theorem dX6_centuryKey_18 : decode cX6_centuryKey 18 = .ok (.aload_n 0, 1) := by decide +kernel
theorem dX6_centuryKey_19 : decode cX6_centuryKey 19 = .ok (.getfield 154, 3) := by decide +kernel
theorem dX6_centuryKey_22 : decode cX6_centuryKey 22 = .ok (.ifCond .eq 11, 3) := by decide +kernel
theorem dX6_centuryKey_25 : decode cX6_centuryKey 25 = .ok (.aload_n 0, 1) := by decide +kernel
theorem dX6_centuryKey_26 : decode cX6_centuryKey 26 = .ok (.getfield 154, 3) := by decide +kernel
theorem dX6_centuryKey_29 : decode cX6_centuryKey 29 = .ok (.iconst 1, 1) := by decide +kernel
theorem dX6_centuryKey_30 : decode cX6_centuryKey 30 = .ok (.if_icmp .ne 7, 3) := by decide +kernel
theorem dX6_centuryKey_33 : decode cX6_centuryKey 33 = .ok (.iconst 5, 1) := by decide +kernel
theorem dX6_centuryKey_34 : decode cX6_centuryKey 34 = .ok (.goto 5, 3) := by decide +kernel
theorem dX6_centuryKey_37 : decode cX6_centuryKey 37 = .ok (.bipush 6, 2) := by decide +kernel
theorem dX6_centuryKey_39 : decode cX6_centuryKey 39 = .ok (.ireturn, 1) := by decide +kernel
set_option maxRecDepth 10000 in
theorem wX6_centuryKey_0 {g : zG} {I : Nat → Nat → Int32} {P : Nat → Nat → Option Nat} {r : Option Value} {h' : zH} {a0 : Nat} (H : zk g a0 6 ∧ ∃ (w1 : Int32), Cl mX6_deedOfToken [.ref a0] (g, I, P) (some (.int w1)) (g, I, P) ∧ zk g a0 6 ∧ zk g a0 6 ∧ ((¬ ((zU I a0 9 w1) a0 9) = (-1)) → zk g a0 6 ∧ (((zU I a0 9 w1) a0 9 = 0) → r = some (.int 5) ∧ h' = (g, zU I a0 9 w1, P)) ∧ ((¬ (zU I a0 9 w1) a0 9 = 0) → zk g a0 6 ∧ ((¬ ((zU I a0 9 w1) a0 9) = 1) → r = some (.int 6) ∧ h' = (g, zU I a0 9 w1, P)) ∧ (((zU I a0 9 w1) a0 9 = 1) → r = some (.int 5) ∧ h' = (g, zU I a0 9 w1, P)))) ∧ (((zU I a0 9 w1) a0 9 = (-1)) → r = some (.int 0) ∧ h' = (g, zU I a0 9 w1, P))) : Zt none mX6_centuryKey 0 0 0 [(0, .ref a0)] [] (g, I, P) r h' := by
  refine z_aload_n 0 dX6_centuryKey_0 rfl rfl (z_aload_n 0 dX6_centuryKey_1 rfl rfl ?_)
  obtain ⟨oc2, w1, c2, H3⟩ := H
  refine z_virt (As := []) (st := [.ref a0]) (r1 := (some (.int w1))) (h1 := (g, I, P)) dX6_centuryKey_2 kX6_deedOfToken wm_X6_151 ⟨by decide, by decide⟩ rfl rfl (Nat.le_of_ble_eq_true rfl) (by decide) (by decide) oc2 c2 ?_
  refine z_putI (g := g) (I := I) (Q := P) dX6_centuryKey_5 wf_X6_154 (by decide) (by decide) rfl (Or.inl rfl) (zfit_int rfl) H3.1 (z_aload_n 0 dX6_centuryKey_8 rfl rfl (z_getI dX6_centuryKey_9 wf_X6_154 (by decide) (by decide) rfl H3.2.1 (z_iconst (w := (-1)) dX6_centuryKey_12 (by decide) ?_)))
  refine z_icmp_ne (t := 18) dX6_centuryKey_13 (by decide) (fun q => ?_) (fun q => ?_)
  · have H4 := H3.2.2.1 q
    refine z_aload_n 0 dX6_centuryKey_18 rfl rfl (z_getI dX6_centuryKey_19 wf_X6_154 (by decide) (by decide) rfl H4.1 ?_)
    refine z_if_eq (t := 33) dX6_centuryKey_22 (by decide) (fun q => ?_) (fun q => ?_)
    · have H5 := H4.2.1 q
      refine z_iconst (w := 5) dX6_centuryKey_33 (by decide) (z_goto (t := 39) dX6_centuryKey_34 (by decide) ?_)
      obtain ⟨rfl, rfl⟩ := H5
      exact z_iret dX6_centuryKey_39 rfl (by decide) (by decide)
    · have H6 := H4.2.2 q
      refine z_aload_n 0 dX6_centuryKey_25 rfl rfl (z_getI dX6_centuryKey_26 wf_X6_154 (by decide) (by decide) rfl H6.1 (z_iconst (w := 1) dX6_centuryKey_29 (by decide) ?_))
      refine z_icmp_ne (t := 37) dX6_centuryKey_30 (by decide) (fun q => ?_) (fun q => ?_)
      · have H7 := H6.2.1 q
        refine z_bipush (w := 6) dX6_centuryKey_37 (by decide) ?_
        obtain ⟨rfl, rfl⟩ := H7
        exact z_iret dX6_centuryKey_39 rfl (by decide) (by decide)
      · have H8 := H6.2.2 q
        refine z_iconst (w := 5) dX6_centuryKey_33 (by decide) (z_goto (t := 39) dX6_centuryKey_34 (by decide) ?_)
        obtain ⟨rfl, rfl⟩ := H8
        exact z_iret dX6_centuryKey_39 rfl (by decide) (by decide)
  · have H9 := H3.2.2.2 q
    refine z_iconst (w := 0) dX6_centuryKey_16 (by decide) ?_
    obtain ⟨rfl, rfl⟩ := H9
    exact z_iret dX6_centuryKey_17 rfl (by decide) (by decide)
theorem eX6_centuryKey {g : zG} {I : Nat → Nat → Int32} {P : Nat → Nat → Option Nat} {r : Option Value} {h' : zH} {a0 : Nat} (H : Zt none mX6_centuryKey 0 0 0 [(0, .ref a0)] [] (g, I, P) r h') : Cl mX6_centuryKey [.ref a0] (g, I, P) r h' := Cl.of (by decide) (Nat.le_of_ble_eq_true rfl) H
theorem dX6_deedOfToken_0 : decode cX6_deedOfToken 0 = .ok (.aload_n 0, 1) := by decide +kernel
theorem dX6_deedOfToken_1 : decode cX6_deedOfToken 1 = .ok (.getfield 42, 3) := by decide +kernel
theorem dX6_deedOfToken_4 : decode cX6_deedOfToken 4 = .ok (.ldc 157, 2) := by decide +kernel
theorem dX6_deedOfToken_6 : decode cX6_deedOfToken 6 = .ok (.invokevirtual 137, 3) := by decide +kernel
theorem dX6_deedOfToken_9 : decode cX6_deedOfToken 9 = .ok (.ifCond .eq 5, 3) := by decide +kernel
theorem dX6_deedOfToken_12 : decode cX6_deedOfToken 12 = .ok (.iconst 0, 1) := by decide +kernel
theorem dX6_deedOfToken_13 : decode cX6_deedOfToken 13 = .ok (.ireturn, 1) := by decide +kernel
theorem dX6_deedOfToken_14 : decode cX6_deedOfToken 14 = .ok (.aload_n 0, 1) := by decide +kernel
theorem dX6_deedOfToken_15 : decode cX6_deedOfToken 15 = .ok (.getfield 42, 3) := by decide +kernel
theorem dX6_deedOfToken_18 : decode cX6_deedOfToken 18 = .ok (.ldc 159, 2) := by decide +kernel
theorem dX6_deedOfToken_20 : decode cX6_deedOfToken 20 = .ok (.invokevirtual 137, 3) := by decide +kernel
theorem dX6_deedOfToken_23 : decode cX6_deedOfToken 23 = .ok (.ifCond .eq 5, 3) := by decide +kernel
theorem dX6_deedOfToken_26 : decode cX6_deedOfToken 26 = .ok (.iconst 1, 1) := by decide +kernel
theorem dX6_deedOfToken_27 : decode cX6_deedOfToken 27 = .ok (.ireturn, 1) := by decide +kernel
theorem dX6_deedOfToken_28 : decode cX6_deedOfToken 28 = .ok (.aload_n 0, 1) := by decide +kernel
theorem dX6_deedOfToken_29 : decode cX6_deedOfToken 29 = .ok (.getfield 42, 3) := by decide +kernel
theorem dX6_deedOfToken_32 : decode cX6_deedOfToken 32 = .ok (.ldc 161, 2) := by decide +kernel
theorem dX6_deedOfToken_34 : decode cX6_deedOfToken 34 = .ok (.invokevirtual 137, 3) := by decide +kernel
theorem dX6_deedOfToken_37 : decode cX6_deedOfToken 37 = .ok (.ifCond .eq 5, 3) := by decide +kernel
theorem dX6_deedOfToken_40 : decode cX6_deedOfToken 40 = .ok (.iconst 2, 1) := by decide +kernel
theorem dX6_deedOfToken_41 : decode cX6_deedOfToken 41 = .ok (.ireturn, 1) := by decide +kernel
theorem dX6_deedOfToken_42 : decode cX6_deedOfToken 42 = .ok (.aload_n 0, 1) := by decide +kernel
theorem dX6_deedOfToken_43 : decode cX6_deedOfToken 43 = .ok (.getfield 42, 3) := by decide +kernel
theorem dX6_deedOfToken_46 : decode cX6_deedOfToken 46 = .ok (.ldc 163, 2) := by decide +kernel
theorem dX6_deedOfToken_48 : decode cX6_deedOfToken 48 = .ok (.invokevirtual 137, 3) := by decide +kernel
theorem dX6_deedOfToken_51 : decode cX6_deedOfToken 51 = .ok (.ifCond .eq 5, 3) := by decide +kernel
theorem dX6_deedOfToken_54 : decode cX6_deedOfToken 54 = .ok (.iconst 3, 1) := by decide +kernel
theorem dX6_deedOfToken_55 : decode cX6_deedOfToken 55 = .ok (.ireturn, 1) := by decide +kernel
theorem dX6_deedOfToken_56 : decode cX6_deedOfToken 56 = .ok (.aload_n 0, 1) := by decide +kernel
theorem dX6_deedOfToken_57 : decode cX6_deedOfToken 57 = .ok (.getfield 42, 3) := by decide +kernel
theorem dX6_deedOfToken_60 : decode cX6_deedOfToken 60 = .ok (.ldc 165, 2) := by decide +kernel
theorem dX6_deedOfToken_62 : decode cX6_deedOfToken 62 = .ok (.invokevirtual 137, 3) := by decide +kernel
theorem dX6_deedOfToken_65 : decode cX6_deedOfToken 65 = .ok (.ifCond .eq 7, 3) := by decide +kernel
theorem dX6_deedOfToken_68 : decode cX6_deedOfToken 68 = .ok (.iconst 4, 1) := by decide +kernel
theorem dX6_deedOfToken_69 : decode cX6_deedOfToken 69 = .ok (.goto 4, 3) := by decide +kernel
theorem dX6_deedOfToken_72 : decode cX6_deedOfToken 72 = .ok (.iconst (-1), 1) := by decide +kernel
theorem dX6_deedOfToken_73 : decode cX6_deedOfToken 73 = .ok (.ireturn, 1) := by decide +kernel
set_option maxRecDepth 10000 in
theorem wX6_deedOfToken_0 {g : zG} {I : Nat → Nat → Int32} {P : Nat → Nat → Option Nat} {r : Option Value} {h' : zH} {a0 : Nat} (H : zk g a0 6 ∧ ∃ b1, P a0 6 = some b1 ∧ zk g b1 8 ∧ ∃ (w4 : Int32), Cl mX8_is [.ref b1, .retAddr 4] (g, I, P) (some (.int w4)) (g, I, P) ∧ ((w4 = 0) → zk g a0 6 ∧ ∃ b8, P a0 6 = some b8 ∧ zk g b8 8 ∧ ∃ (w11 : Int32), Cl mX8_is [.ref b8, .retAddr 5] (g, I, P) (some (.int w11)) (g, I, P) ∧ ((w11 = 0) → zk g a0 6 ∧ ∃ b15, P a0 6 = some b15 ∧ zk g b15 8 ∧ ∃ (w18 : Int32), Cl mX8_is [.ref b15, .retAddr 6] (g, I, P) (some (.int w18)) (g, I, P) ∧ ((w18 = 0) → zk g a0 6 ∧ ∃ b22, P a0 6 = some b22 ∧ zk g b22 8 ∧ ∃ (w25 : Int32), Cl mX8_is [.ref b22, .retAddr 7] (g, I, P) (some (.int w25)) (g, I, P) ∧ ((w25 = 0) → zk g a0 6 ∧ ∃ b29, P a0 6 = some b29 ∧ zk g b29 8 ∧ ∃ (w32 : Int32), Cl mX8_is [.ref b29, .retAddr 8] (g, I, P) (some (.int w32)) (g, I, P) ∧ ((w32 = 0) → r = some (.int (-1)) ∧ h' = (g, I, P)) ∧ ((¬ w32 = 0) → r = some (.int 4) ∧ h' = (g, I, P))) ∧ ((¬ w25 = 0) → r = some (.int 3) ∧ h' = (g, I, P))) ∧ ((¬ w18 = 0) → r = some (.int 2) ∧ h' = (g, I, P))) ∧ ((¬ w11 = 0) → r = some (.int 1) ∧ h' = (g, I, P))) ∧ ((¬ w4 = 0) → r = some (.int 0) ∧ h' = (g, I, P))) : Zt none mX6_deedOfToken 0 0 0 [(0, .ref a0)] [] (g, I, P) r h' := by
  refine z_aload_n 0 dX6_deedOfToken_0 rfl rfl ?_
  obtain ⟨oe3, b1, e3, H2⟩ := H
  refine z_getP dX6_deedOfToken_1 wf_X6_42 (by decide) (by decide) rfl oe3 (fun q => (by cases q.symm.trans e3)) (fun j q => ?_)
  cases q.symm.trans e3
  refine z_ldcS (j := 4) dX6_deedOfToken_4 rfl rfl ?_
  obtain ⟨oc5, w4, c5, H6⟩ := H2
  refine z_virt (As := [.retAddr 4]) (st := []) (r1 := (some (.int w4))) (h1 := (g, I, P)) dX6_deedOfToken_6 kX8_is wm_X6_137 ⟨by decide, by decide⟩ rfl rfl (Nat.le_of_ble_eq_true rfl) (by decide) (by decide) oc5 c5 ?_
  refine z_if_eq (t := 14) dX6_deedOfToken_9 (by decide) (fun q => ?_) (fun q => ?_)
  · have H7 := H6.1 q
    refine z_aload_n 0 dX6_deedOfToken_14 rfl rfl ?_
    obtain ⟨oe10, b8, e10, H9⟩ := H7
    refine z_getP dX6_deedOfToken_15 wf_X6_42 (by decide) (by decide) rfl oe10 (fun q => (by cases q.symm.trans e10)) (fun j q => ?_)
    cases q.symm.trans e10
    refine z_ldcS (j := 5) dX6_deedOfToken_18 rfl rfl ?_
    obtain ⟨oc12, w11, c12, H13⟩ := H9
    refine z_virt (As := [.retAddr 5]) (st := []) (r1 := (some (.int w11))) (h1 := (g, I, P)) dX6_deedOfToken_20 kX8_is wm_X6_137 ⟨by decide, by decide⟩ rfl rfl (Nat.le_of_ble_eq_true rfl) (by decide) (by decide) oc12 c12 ?_
    refine z_if_eq (t := 28) dX6_deedOfToken_23 (by decide) (fun q => ?_) (fun q => ?_)
    · have H14 := H13.1 q
      refine z_aload_n 0 dX6_deedOfToken_28 rfl rfl ?_
      obtain ⟨oe17, b15, e17, H16⟩ := H14
      refine z_getP dX6_deedOfToken_29 wf_X6_42 (by decide) (by decide) rfl oe17 (fun q => (by cases q.symm.trans e17)) (fun j q => ?_)
      cases q.symm.trans e17
      refine z_ldcS (j := 6) dX6_deedOfToken_32 rfl rfl ?_
      obtain ⟨oc19, w18, c19, H20⟩ := H16
      refine z_virt (As := [.retAddr 6]) (st := []) (r1 := (some (.int w18))) (h1 := (g, I, P)) dX6_deedOfToken_34 kX8_is wm_X6_137 ⟨by decide, by decide⟩ rfl rfl (Nat.le_of_ble_eq_true rfl) (by decide) (by decide) oc19 c19 ?_
      refine z_if_eq (t := 42) dX6_deedOfToken_37 (by decide) (fun q => ?_) (fun q => ?_)
      · have H21 := H20.1 q
        refine z_aload_n 0 dX6_deedOfToken_42 rfl rfl ?_
        obtain ⟨oe24, b22, e24, H23⟩ := H21
        refine z_getP dX6_deedOfToken_43 wf_X6_42 (by decide) (by decide) rfl oe24 (fun q => (by cases q.symm.trans e24)) (fun j q => ?_)
        cases q.symm.trans e24
        refine z_ldcS (j := 7) dX6_deedOfToken_46 rfl rfl ?_
        obtain ⟨oc26, w25, c26, H27⟩ := H23
        refine z_virt (As := [.retAddr 7]) (st := []) (r1 := (some (.int w25))) (h1 := (g, I, P)) dX6_deedOfToken_48 kX8_is wm_X6_137 ⟨by decide, by decide⟩ rfl rfl (Nat.le_of_ble_eq_true rfl) (by decide) (by decide) oc26 c26 ?_
        refine z_if_eq (t := 56) dX6_deedOfToken_51 (by decide) (fun q => ?_) (fun q => ?_)
        · have H28 := H27.1 q
          refine z_aload_n 0 dX6_deedOfToken_56 rfl rfl ?_
          obtain ⟨oe31, b29, e31, H30⟩ := H28
          refine z_getP dX6_deedOfToken_57 wf_X6_42 (by decide) (by decide) rfl oe31 (fun q => (by cases q.symm.trans e31)) (fun j q => ?_)
          cases q.symm.trans e31
          refine z_ldcS (j := 8) dX6_deedOfToken_60 rfl rfl ?_
          obtain ⟨oc33, w32, c33, H34⟩ := H30
          refine z_virt (As := [.retAddr 8]) (st := []) (r1 := (some (.int w32))) (h1 := (g, I, P)) dX6_deedOfToken_62 kX8_is wm_X6_137 ⟨by decide, by decide⟩ rfl rfl (Nat.le_of_ble_eq_true rfl) (by decide) (by decide) oc33 c33 ?_
          refine z_if_eq (t := 72) dX6_deedOfToken_65 (by decide) (fun q => ?_) (fun q => ?_)
          · have H35 := H34.1 q
            refine z_iconst (w := (-1)) dX6_deedOfToken_72 (by decide) ?_
            obtain ⟨rfl, rfl⟩ := H35
            exact z_iret dX6_deedOfToken_73 rfl (by decide) (by decide)
          · have H36 := H34.2 q
            refine z_iconst (w := 4) dX6_deedOfToken_68 (by decide) (z_goto (t := 73) dX6_deedOfToken_69 (by decide) ?_)
            obtain ⟨rfl, rfl⟩ := H36
            exact z_iret dX6_deedOfToken_73 rfl (by decide) (by decide)
        · have H37 := H27.2 q
          refine z_iconst (w := 3) dX6_deedOfToken_54 (by decide) ?_
          obtain ⟨rfl, rfl⟩ := H37
          exact z_iret dX6_deedOfToken_55 rfl (by decide) (by decide)
      · have H38 := H20.2 q
        refine z_iconst (w := 2) dX6_deedOfToken_40 (by decide) ?_
        obtain ⟨rfl, rfl⟩ := H38
        exact z_iret dX6_deedOfToken_41 rfl (by decide) (by decide)
    · have H39 := H13.2 q
      refine z_iconst (w := 1) dX6_deedOfToken_26 (by decide) ?_
      obtain ⟨rfl, rfl⟩ := H39
      exact z_iret dX6_deedOfToken_27 rfl (by decide) (by decide)
  · have H40 := H6.2 q
    refine z_iconst (w := 0) dX6_deedOfToken_12 (by decide) ?_
    obtain ⟨rfl, rfl⟩ := H40
    exact z_iret dX6_deedOfToken_13 rfl (by decide) (by decide)
theorem eX6_deedOfToken {g : zG} {I : Nat → Nat → Int32} {P : Nat → Nat → Option Nat} {r : Option Value} {h' : zH} {a0 : Nat} (H : Zt none mX6_deedOfToken 0 0 0 [(0, .ref a0)] [] (g, I, P) r h') : Cl mX6_deedOfToken [.ref a0] (g, I, P) r h' := Cl.of (by decide) (Nat.le_of_ble_eq_true rfl) H
theorem dX6_tell_0 : decode cX6_tell 0 = .ok (.iload_n 1, 1) := by decide +kernel
theorem dX6_tell_1 : decode cX6_tell 1 = .ok (.tableswitch 105 1 8 #[47, 54, 61, 68, 75, 83, 91, 98], 47) := by decide +kernel
theorem dX6_tell_48 : decode cX6_tell 48 = .ok (.aload_n 0, 1) := by decide +kernel
theorem dX6_tell_49 : decode cX6_tell 49 = .ok (.invokevirtual 167, 3) := by decide +kernel
theorem dX6_tell_52 : decode cX6_tell 52 = .ok (.goto 54, 3) := by decide +kernel
theorem dX6_tell_55 : decode cX6_tell 55 = .ok (.aload_n 0, 1) := by decide +kernel
theorem dX6_tell_56 : decode cX6_tell 56 = .ok (.invokevirtual 170, 3) := by decide +kernel
theorem dX6_tell_59 : decode cX6_tell 59 = .ok (.goto 47, 3) := by decide +kernel
theorem dX6_tell_62 : decode cX6_tell 62 = .ok (.aload_n 0, 1) := by decide +kernel
theorem dX6_tell_63 : decode cX6_tell 63 = .ok (.invokevirtual 173, 3) := by decide +kernel
theorem dX6_tell_66 : decode cX6_tell 66 = .ok (.goto 40, 3) := by decide +kernel
theorem dX6_tell_69 : decode cX6_tell 69 = .ok (.aload_n 0, 1) := by decide +kernel
theorem dX6_tell_70 : decode cX6_tell 70 = .ok (.invokevirtual 176, 3) := by decide +kernel
theorem dX6_tell_73 : decode cX6_tell 73 = .ok (.goto 33, 3) := by decide +kernel
theorem dX6_tell_76 : decode cX6_tell 76 = .ok (.aload_n 0, 1) := by decide +kernel
theorem dX6_tell_77 : decode cX6_tell 77 = .ok (.iconst 1, 1) := by decide +kernel
theorem dX6_tell_78 : decode cX6_tell 78 = .ok (.invokevirtual 179, 3) := by decide +kernel
theorem dX6_tell_81 : decode cX6_tell 81 = .ok (.goto 25, 3) := by decide +kernel
theorem dX6_tell_84 : decode cX6_tell 84 = .ok (.aload_n 0, 1) := by decide +kernel
theorem dX6_tell_85 : decode cX6_tell 85 = .ok (.iconst 0, 1) := by decide +kernel
theorem dX6_tell_86 : decode cX6_tell 86 = .ok (.invokevirtual 179, 3) := by decide +kernel
theorem dX6_tell_89 : decode cX6_tell 89 = .ok (.goto 17, 3) := by decide +kernel
theorem dX6_tell_92 : decode cX6_tell 92 = .ok (.aload_n 0, 1) := by decide +kernel
theorem dX6_tell_93 : decode cX6_tell 93 = .ok (.invokevirtual 183, 3) := by decide +kernel
theorem dX6_tell_96 : decode cX6_tell 96 = .ok (.goto 10, 3) := by decide +kernel
theorem dX6_tell_99 : decode cX6_tell 99 = .ok (.aload_n 0, 1) := by decide +kernel
theorem dX6_tell_100 : decode cX6_tell 100 = .ok (.invokevirtual 186, 3) := by decide +kernel
theorem dX6_tell_103 : decode cX6_tell 103 = .ok (.goto 3, 3) := by decide +kernel
theorem dX6_tell_106 : decode cX6_tell 106 = .ok (.return_, 1) := by decide +kernel
set_option maxRecDepth 10000 in
theorem wX6_tell_0 {g : zG} {I : Nat → Nat → Int32} {P : Nat → Nat → Option Nat} {r : Option Value} {h' : zH} {a0 : Nat} {x1 : Int32} (H : ((x1 = 1) → zk g a0 6 ∧ ∃ (I3 : Nat → Nat → Int32), Cl mX6_tellWord [.ref a0] (g, I, P) none (g, I3, P) ∧ r = none ∧ h' = (g, I3, P)) ∧ ((x1 = 2) → zk g a0 6 ∧ ∃ (I8 : Nat → Nat → Int32), Cl mX6_tellFollows [.ref a0] (g, I, P) none (g, I8, P) ∧ r = none ∧ h' = (g, I8, P)) ∧ ((x1 = 3) → zk g a0 6 ∧ ∃ (I13 : Nat → Nat → Int32), Cl mX6_tellAsks [.ref a0] (g, I, P) none (g, I13, P) ∧ r = none ∧ h' = (g, I13, P)) ∧ ((x1 = 4) → zk g a0 6 ∧ ∃ (I18 : Nat → Nat → Int32), Cl mX6_tellStones [.ref a0] (g, I, P) none (g, I18, P) ∧ r = none ∧ h' = (g, I18, P)) ∧ ((x1 = 5) → zk g a0 6 ∧ ∃ (I23 : Nat → Nat → Int32), Cl mX6_tellDeed [.ref a0, .int 1] (g, I, P) none (g, I23, P) ∧ r = none ∧ h' = (g, I23, P)) ∧ ((x1 = 6) → zk g a0 6 ∧ ∃ (I28 : Nat → Nat → Int32), Cl mX6_tellDeed [.ref a0, .int 0] (g, I, P) none (g, I28, P) ∧ r = none ∧ h' = (g, I28, P)) ∧ ((x1 = 7) → zk g a0 6 ∧ ∃ (I33 : Nat → Nat → Int32), Cl mX6_tellLine [.ref a0] (g, I, P) none (g, I33, P) ∧ r = none ∧ h' = (g, I33, P)) ∧ ((x1 = 8) → zk g a0 6 ∧ ∃ (I38 : Nat → Nat → Int32), Cl mX6_tellFact [.ref a0] (g, I, P) none (g, I38, P) ∧ r = none ∧ h' = (g, I38, P)) ∧ (¬ x1 = 1 → ¬ x1 = 2 → ¬ x1 = 3 → ¬ x1 = 4 → ¬ x1 = 5 → ¬ x1 = 6 → ¬ x1 = 7 → ¬ x1 = 8 → r = none ∧ h' = (g, I, P))) : Zt none mX6_tell 0 0 0 [(0, .ref a0), (1, .int x1)] [] (g, I, P) r h' := by
  refine z_iload_n 1 dX6_tell_0 rfl ?_
  by_cases q1 : x1 = 1
  · have H2 := H.1 q1
    have eq1 : (x1 : Int32).toInt = 1 := by rw [q1]; decide
    refine z_tableIn (off := 47) (t := 48) dX6_tell_1 (by rw [eq1]; decide) (by rw [eq1]; decide) (by rw [eq1]; rfl) (by decide) ?_
    refine z_aload_n 0 dX6_tell_48 rfl rfl ?_
    obtain ⟨oc4, I3, c4, H5⟩ := H2
    refine z_virt (As := []) (st := []) (r1 := none) (h1 := (g, I3, P)) dX6_tell_49 kX6_tellWord wm_X6_167 ⟨by decide, by decide⟩ rfl rfl (Nat.le_of_ble_eq_true rfl) (by decide) (by decide) oc4 c4 ?_
    refine z_goto (t := 106) dX6_tell_52 (by decide) ?_
    obtain ⟨rfl, rfl⟩ := H5
    exact z_vret dX6_tell_106 rfl (by decide) (by decide)
  by_cases q6 : x1 = 2
  · have H7 := H.2.1 q6
    have eq6 : (x1 : Int32).toInt = 2 := by rw [q6]; decide
    refine z_tableIn (off := 54) (t := 55) dX6_tell_1 (by rw [eq6]; decide) (by rw [eq6]; decide) (by rw [eq6]; rfl) (by decide) ?_
    refine z_aload_n 0 dX6_tell_55 rfl rfl ?_
    obtain ⟨oc9, I8, c9, H10⟩ := H7
    refine z_virt (As := []) (st := []) (r1 := none) (h1 := (g, I8, P)) dX6_tell_56 kX6_tellFollows wm_X6_170 ⟨by decide, by decide⟩ rfl rfl (Nat.le_of_ble_eq_true rfl) (by decide) (by decide) oc9 c9 ?_
    refine z_goto (t := 106) dX6_tell_59 (by decide) ?_
    obtain ⟨rfl, rfl⟩ := H10
    exact z_vret dX6_tell_106 rfl (by decide) (by decide)
  by_cases q11 : x1 = 3
  · have H12 := H.2.2.1 q11
    have eq11 : (x1 : Int32).toInt = 3 := by rw [q11]; decide
    refine z_tableIn (off := 61) (t := 62) dX6_tell_1 (by rw [eq11]; decide) (by rw [eq11]; decide) (by rw [eq11]; rfl) (by decide) ?_
    refine z_aload_n 0 dX6_tell_62 rfl rfl ?_
    obtain ⟨oc14, I13, c14, H15⟩ := H12
    refine z_virt (As := []) (st := []) (r1 := none) (h1 := (g, I13, P)) dX6_tell_63 kX6_tellAsks wm_X6_173 ⟨by decide, by decide⟩ rfl rfl (Nat.le_of_ble_eq_true rfl) (by decide) (by decide) oc14 c14 ?_
    refine z_goto (t := 106) dX6_tell_66 (by decide) ?_
    obtain ⟨rfl, rfl⟩ := H15
    exact z_vret dX6_tell_106 rfl (by decide) (by decide)
  by_cases q16 : x1 = 4
  · have H17 := H.2.2.2.1 q16
    have eq16 : (x1 : Int32).toInt = 4 := by rw [q16]; decide
    refine z_tableIn (off := 68) (t := 69) dX6_tell_1 (by rw [eq16]; decide) (by rw [eq16]; decide) (by rw [eq16]; rfl) (by decide) ?_
    refine z_aload_n 0 dX6_tell_69 rfl rfl ?_
    obtain ⟨oc19, I18, c19, H20⟩ := H17
    refine z_virt (As := []) (st := []) (r1 := none) (h1 := (g, I18, P)) dX6_tell_70 kX6_tellStones wm_X6_176 ⟨by decide, by decide⟩ rfl rfl (Nat.le_of_ble_eq_true rfl) (by decide) (by decide) oc19 c19 ?_
    refine z_goto (t := 106) dX6_tell_73 (by decide) ?_
    obtain ⟨rfl, rfl⟩ := H20
    exact z_vret dX6_tell_106 rfl (by decide) (by decide)
  by_cases q21 : x1 = 5
  · have H22 := H.2.2.2.2.1 q21
    have eq21 : (x1 : Int32).toInt = 5 := by rw [q21]; decide
    refine z_tableIn (off := 75) (t := 76) dX6_tell_1 (by rw [eq21]; decide) (by rw [eq21]; decide) (by rw [eq21]; rfl) (by decide) ?_
    refine z_aload_n 0 dX6_tell_76 rfl rfl (z_iconst (w := 1) dX6_tell_77 (by decide) ?_)
    obtain ⟨oc24, I23, c24, H25⟩ := H22
    refine z_virt (As := [.int 1]) (st := []) (r1 := none) (h1 := (g, I23, P)) dX6_tell_78 kX6_tellDeed wm_X6_179 ⟨by decide, by decide⟩ rfl rfl (Nat.le_of_ble_eq_true rfl) (by decide) (by decide) oc24 c24 ?_
    refine z_goto (t := 106) dX6_tell_81 (by decide) ?_
    obtain ⟨rfl, rfl⟩ := H25
    exact z_vret dX6_tell_106 rfl (by decide) (by decide)
  by_cases q26 : x1 = 6
  · have H27 := H.2.2.2.2.2.1 q26
    have eq26 : (x1 : Int32).toInt = 6 := by rw [q26]; decide
    refine z_tableIn (off := 83) (t := 84) dX6_tell_1 (by rw [eq26]; decide) (by rw [eq26]; decide) (by rw [eq26]; rfl) (by decide) ?_
    refine z_aload_n 0 dX6_tell_84 rfl rfl (z_iconst (w := 0) dX6_tell_85 (by decide) ?_)
    obtain ⟨oc29, I28, c29, H30⟩ := H27
    refine z_virt (As := [.int 0]) (st := []) (r1 := none) (h1 := (g, I28, P)) dX6_tell_86 kX6_tellDeed wm_X6_179 ⟨by decide, by decide⟩ rfl rfl (Nat.le_of_ble_eq_true rfl) (by decide) (by decide) oc29 c29 ?_
    refine z_goto (t := 106) dX6_tell_89 (by decide) ?_
    obtain ⟨rfl, rfl⟩ := H30
    exact z_vret dX6_tell_106 rfl (by decide) (by decide)
  by_cases q31 : x1 = 7
  · have H32 := H.2.2.2.2.2.2.1 q31
    have eq31 : (x1 : Int32).toInt = 7 := by rw [q31]; decide
    refine z_tableIn (off := 91) (t := 92) dX6_tell_1 (by rw [eq31]; decide) (by rw [eq31]; decide) (by rw [eq31]; rfl) (by decide) ?_
    refine z_aload_n 0 dX6_tell_92 rfl rfl ?_
    obtain ⟨oc34, I33, c34, H35⟩ := H32
    refine z_virt (As := []) (st := []) (r1 := none) (h1 := (g, I33, P)) dX6_tell_93 kX6_tellLine wm_X6_183 ⟨by decide, by decide⟩ rfl rfl (Nat.le_of_ble_eq_true rfl) (by decide) (by decide) oc34 c34 ?_
    refine z_goto (t := 106) dX6_tell_96 (by decide) ?_
    obtain ⟨rfl, rfl⟩ := H35
    exact z_vret dX6_tell_106 rfl (by decide) (by decide)
  by_cases q36 : x1 = 8
  · have H37 := H.2.2.2.2.2.2.2.1 q36
    have eq36 : (x1 : Int32).toInt = 8 := by rw [q36]; decide
    refine z_tableIn (off := 98) (t := 99) dX6_tell_1 (by rw [eq36]; decide) (by rw [eq36]; decide) (by rw [eq36]; rfl) (by decide) ?_
    refine z_aload_n 0 dX6_tell_99 rfl rfl ?_
    obtain ⟨oc39, I38, c39, H40⟩ := H37
    refine z_virt (As := []) (st := []) (r1 := none) (h1 := (g, I38, P)) dX6_tell_100 kX6_tellFact wm_X6_186 ⟨by decide, by decide⟩ rfl rfl (Nat.le_of_ble_eq_true rfl) (by decide) (by decide) oc39 c39 ?_
    refine z_goto (t := 106) dX6_tell_103 (by decide) ?_
    obtain ⟨rfl, rfl⟩ := H40
    exact z_vret dX6_tell_106 rfl (by decide) (by decide)
  have H41 := H.2.2.2.2.2.2.2.2 q1 q6 q11 q16 q21 q26 q31 q36
  have nq1 := lv_neT q1 (show (1 : Int32).toInt = 1 by decide)
  have nq6 := lv_neT q6 (show (2 : Int32).toInt = 2 by decide)
  have nq11 := lv_neT q11 (show (3 : Int32).toInt = 3 by decide)
  have nq16 := lv_neT q16 (show (4 : Int32).toInt = 4 by decide)
  have nq21 := lv_neT q21 (show (5 : Int32).toInt = 5 by decide)
  have nq26 := lv_neT q26 (show (6 : Int32).toInt = 6 by decide)
  have nq31 := lv_neT q31 (show (7 : Int32).toInt = 7 by decide)
  have nq36 := lv_neT q36 (show (8 : Int32).toInt = 8 by decide)
  refine z_tableOut (t := 106) dX6_tell_1 (by omega) (by decide) ?_
  obtain ⟨rfl, rfl⟩ := H41
  exact z_vret dX6_tell_106 rfl (by decide) (by decide)
theorem eX6_tell {g : zG} {I : Nat → Nat → Int32} {P : Nat → Nat → Option Nat} {r : Option Value} {h' : zH} {a0 : Nat} {x1 : Int32} (H : Zt none mX6_tell 0 0 0 [(0, .ref a0), (1, .int x1)] [] (g, I, P) r h') : Cl mX6_tell [.ref a0, .int x1] (g, I, P) r h' := Cl.of (by decide) (Nat.le_of_ble_eq_true rfl) H
theorem dX6_tellWord_0 : decode cX6_tellWord 0 = .ok (.aload_n 0, 1) := by decide +kernel
theorem dX6_tellWord_1 : decode cX6_tellWord 1 = .ok (.aload_n 0, 1) := by decide +kernel
theorem dX6_tellWord_2 : decode cX6_tellWord 2 = .ok (.getfield 12, 3) := by decide +kernel
theorem dX6_tellWord_5 : decode cX6_tellWord 5 = .ok (.getfield 189, 3) := by decide +kernel
theorem dX6_tellWord_8 : decode cX6_tellWord 8 = .ok (.bipush 10, 2) := by decide +kernel
theorem dX6_tellWord_10 : decode cX6_tellWord 10 = .ok (.invokevirtual 192, 3) := by decide +kernel
theorem dX6_tellWord_13 : decode cX6_tellWord 13 = .ok (.istore_n 1, 1) := by decide +kernel
theorem dX6_tellWord_14 : decode cX6_tellWord 14 = .ok (.aload_n 0, 1) := by decide +kernel
theorem dX6_tellWord_15 : decode cX6_tellWord 15 = .ok (.aload_n 0, 1) := by decide +kernel
theorem dX6_tellWord_16 : decode cX6_tellWord 16 = .ok (.getfield 106, 3) := by decide +kernel
theorem dX6_tellWord_19 : decode cX6_tellWord 19 = .ok (.aload_n 0, 1) := by decide +kernel
theorem dX6_tellWord_20 : decode cX6_tellWord 20 = .ok (.getfield 110, 3) := by decide +kernel
theorem dX6_tellWord_23 : decode cX6_tellWord 23 = .ok (.bipush 6, 2) := by decide +kernel
theorem dX6_tellWord_25 : decode cX6_tellWord 25 = .ok (.invokevirtual 196, 3) := by decide +kernel
theorem dX6_tellWord_28 : decode cX6_tellWord 28 = .ok (.aload_n 0, 1) := by decide +kernel
theorem dX6_tellWord_29 : decode cX6_tellWord 29 = .ok (.aload_n 0, 1) := by decide +kernel
theorem dX6_tellWord_30 : decode cX6_tellWord 30 = .ok (.getfield 119, 3) := by decide +kernel
theorem dX6_tellWord_33 : decode cX6_tellWord 33 = .ok (.aload_n 0, 1) := by decide +kernel
theorem dX6_tellWord_34 : decode cX6_tellWord 34 = .ok (.getfield 125, 3) := by decide +kernel
theorem dX6_tellWord_37 : decode cX6_tellWord 37 = .ok (.iconst 0, 1) := by decide +kernel
theorem dX6_tellWord_38 : decode cX6_tellWord 38 = .ok (.bipush 99, 2) := by decide +kernel
theorem dX6_tellWord_40 : decode cX6_tellWord 40 = .ok (.invokevirtual 200, 3) := by decide +kernel
theorem dX6_tellWord_43 : decode cX6_tellWord 43 = .ok (.iload_n 1, 1) := by decide +kernel
theorem dX6_tellWord_44 : decode cX6_tellWord 44 = .ok (.ifCond .ne 4, 3) := by decide +kernel
theorem dX6_tellWord_47 : decode cX6_tellWord 47 = .ok (.return_, 1) := by decide +kernel
theorem dX6_tellWord_48 : decode cX6_tellWord 48 = .ok (.aload_n 0, 1) := by decide +kernel
theorem dX6_tellWord_49 : decode cX6_tellWord 49 = .ok (.getfield 12, 3) := by decide +kernel
theorem dX6_tellWord_52 : decode cX6_tellWord 52 = .ok (.getfield 189, 3) := by decide +kernel
theorem dX6_tellWord_55 : decode cX6_tellWord 55 = .ok (.istore_n 2, 1) := by decide +kernel
theorem dX6_tellWord_56 : decode cX6_tellWord 56 = .ok (.aload_n 0, 1) := by decide +kernel
theorem dX6_tellWord_57 : decode cX6_tellWord 57 = .ok (.getfield 12, 3) := by decide +kernel
theorem dX6_tellWord_60 : decode cX6_tellWord 60 = .ok (.getfield 204, 3) := by decide +kernel
theorem dX6_tellWord_63 : decode cX6_tellWord 63 = .ok (.iload_n 2, 1) := by decide +kernel
theorem dX6_tellWord_64 : decode cX6_tellWord 64 = .ok (.aload_n 0, 1) := by decide +kernel
theorem dX6_tellWord_65 : decode cX6_tellWord 65 = .ok (.getfield 110, 3) := by decide +kernel
theorem dX6_tellWord_68 : decode cX6_tellWord 68 = .ok (.bipush 6, 2) := by decide +kernel
theorem dX6_tellWord_70 : decode cX6_tellWord 70 = .ok (.invokestatic 207, 3) := by decide +kernel
theorem dX6_tellWord_73 : decode cX6_tellWord 73 = .ok (.invokestatic 213, 3) := by decide +kernel
theorem dX6_tellWord_76 : decode cX6_tellWord 76 = .ok (.aload_n 0, 1) := by decide +kernel
theorem dX6_tellWord_77 : decode cX6_tellWord 77 = .ok (.getfield 12, 3) := by decide +kernel
theorem dX6_tellWord_80 : decode cX6_tellWord 80 = .ok (.getfield 217, 3) := by decide +kernel
theorem dX6_tellWord_83 : decode cX6_tellWord 83 = .ok (.iload_n 2, 1) := by decide +kernel
theorem dX6_tellWord_84 : decode cX6_tellWord 84 = .ok (.aload_n 0, 1) := by decide +kernel
theorem dX6_tellWord_85 : decode cX6_tellWord 85 = .ok (.getfield 125, 3) := by decide +kernel
theorem dX6_tellWord_88 : decode cX6_tellWord 88 = .ok (.invokestatic 213, 3) := by decide +kernel
theorem dX6_tellWord_91 : decode cX6_tellWord 91 = .ok (.iconst 0, 1) := by decide +kernel
theorem dX6_tellWord_92 : decode cX6_tellWord 92 = .ok (.istore_n 3, 1) := by decide +kernel
theorem dX6_tellWord_93 : decode cX6_tellWord 93 = .ok (.iload_n 3, 1) := by decide +kernel
theorem dX6_tellWord_94 : decode cX6_tellWord 94 = .ok (.aload_n 0, 1) := by decide +kernel
theorem dX6_tellWord_95 : decode cX6_tellWord 95 = .ok (.getfield 110, 3) := by decide +kernel
theorem dX6_tellWord_98 : decode cX6_tellWord 98 = .ok (.if_icmp .ge 41, 3) := by decide +kernel
theorem dX6_tellWord_101 : decode cX6_tellWord 101 = .ok (.iload_n 3, 1) := by decide +kernel
theorem dX6_tellWord_102 : decode cX6_tellWord 102 = .ok (.bipush 6, 2) := by decide +kernel
theorem dX6_tellWord_104 : decode cX6_tellWord 104 = .ok (.if_icmp .ge 35, 3) := by decide +kernel
theorem dX6_tellWord_107 : decode cX6_tellWord 107 = .ok (.aload_n 0, 1) := by decide +kernel
theorem dX6_tellWord_108 : decode cX6_tellWord 108 = .ok (.getfield 12, 3) := by decide +kernel
theorem dX6_tellWord_111 : decode cX6_tellWord 111 = .ok (.getfield 220, 3) := by decide +kernel
theorem dX6_tellWord_114 : decode cX6_tellWord 114 = .ok (.iload_n 2, 1) := by decide +kernel
theorem dX6_tellWord_115 : decode cX6_tellWord 115 = .ok (.bipush 6, 2) := by decide +kernel
theorem dX6_tellWord_117 : decode cX6_tellWord 117 = .ok (.imul, 1) := by decide +kernel
theorem dX6_tellWord_118 : decode cX6_tellWord 118 = .ok (.iload_n 3, 1) := by decide +kernel
theorem dX6_tellWord_119 : decode cX6_tellWord 119 = .ok (.iadd, 1) := by decide +kernel
theorem dX6_tellWord_120 : decode cX6_tellWord 120 = .ok (.aload_n 0, 1) := by decide +kernel
theorem dX6_tellWord_121 : decode cX6_tellWord 121 = .ok (.aload_n 0, 1) := by decide +kernel
theorem dX6_tellWord_122 : decode cX6_tellWord 122 = .ok (.getfield 106, 3) := by decide +kernel
theorem dX6_tellWord_125 : decode cX6_tellWord 125 = .ok (.iload_n 3, 1) := by decide +kernel
theorem dX6_tellWord_126 : decode cX6_tellWord 126 = .ok (.iadd, 1) := by decide +kernel
theorem dX6_tellWord_127 : decode cX6_tellWord 127 = .ok (.invokevirtual 223, 3) := by decide +kernel
theorem dX6_tellWord_130 : decode cX6_tellWord 130 = .ok (.invokestatic 213, 3) := by decide +kernel
theorem dX6_tellWord_133 : decode cX6_tellWord 133 = .ok (.iinc 3 1, 3) := by decide +kernel
theorem dX6_tellWord_136 : decode cX6_tellWord 136 = .ok (.goto (-43), 3) := by decide +kernel
theorem dX6_tellWord_139 : decode cX6_tellWord 139 = .ok (.aload_n 0, 1) := by decide +kernel
theorem dX6_tellWord_140 : decode cX6_tellWord 140 = .ok (.getfield 12, 3) := by decide +kernel
theorem dX6_tellWord_143 : decode cX6_tellWord 143 = .ok (.dup, 1) := by decide +kernel
theorem dX6_tellWord_144 : decode cX6_tellWord 144 = .ok (.getfield 189, 3) := by decide +kernel
theorem dX6_tellWord_147 : decode cX6_tellWord 147 = .ok (.iconst 1, 1) := by decide +kernel
theorem dX6_tellWord_148 : decode cX6_tellWord 148 = .ok (.iadd, 1) := by decide +kernel
theorem dX6_tellWord_149 : decode cX6_tellWord 149 = .ok (.putfield 189, 3) := by decide +kernel
theorem dX6_tellWord_152 : decode cX6_tellWord 152 = .ok (.return_, 1) := by decide +kernel
set_option maxRecDepth 10000 in
theorem wX6_tellWord_0 {g : zG} {I : Nat → Nat → Int32} {P : Nat → Nat → Option Nat} {r : Option Value} {h' : zH} {a0 : Nat} (H : zk g a0 6 ∧ ∃ b1, P a0 0 = some b1 ∧ zk g b1 3 ∧ zk g a0 6 ∧ ∃ (w4 : Int32) (I5 : Nat → Nat → Int32), Cl mX6_needRoom [.ref a0, .int (I b1 1), .int 10] (g, I, P) (some (.int w4)) (g, I5, P) ∧ zk g a0 6 ∧ zk g a0 6 ∧ zk g a0 6 ∧ ∃ (I8 : Nat → Nat → Int32), Cl mX6_needRow [.ref a0, .int (I5 a0 10), .int (I5 a0 11), .int 6] (g, I5, P) none (g, I8, P) ∧ zk g a0 6 ∧ zk g a0 6 ∧ zk g a0 6 ∧ ∃ (I11 : Nat → Nat → Int32), Cl mX6_needNumber [.ref a0, .int (I8 a0 13), .int (I8 a0 15), .int 0, .int 99] (g, I8, P) none (g, I11, P) ∧ ((¬ w4 = 0) → zk g a0 6 ∧ ∃ b15, P a0 0 = some b15 ∧ zk g b15 3 ∧ zk g a0 6 ∧ ∃ b18, P a0 0 = some b18 ∧ zk g b18 3 ∧ ∃ b21, P b18 4 = some b21 ∧ zk g a0 6 ∧ ∃ (I24 : Nat → Nat → Int32), Cl mX11_put [.ref b21, .int (I11 b15 1), .int (zmmin (I11 a0 11) 6)] (g, I11, P) none (g, I24, P) ∧ zk g a0 6 ∧ ∃ b27, P a0 0 = some b27 ∧ zk g b27 3 ∧ ∃ b30, P b27 5 = some b30 ∧ zk g a0 6 ∧ ∃ (I33 : Nat → Nat → Int32), Cl mX11_put [.ref b30, .int (I11 b15 1), .int (I24 a0 15)] (g, I24, P) none (g, I33, P) ∧ Zt none mX6_tellWord 0 0 93 [(0, .ref a0), (2, .int (I11 b15 1)), (3, .int 0)] [] (g, I33, P) r h') ∧ ((w4 = 0) → r = none ∧ h' = (g, I11, P))) : Zt none mX6_tellWord 0 0 0 [(0, .ref a0)] [] (g, I, P) r h' := by
  refine z_aload_n 0 dX6_tellWord_0 rfl rfl (z_aload_n 0 dX6_tellWord_1 rfl rfl ?_)
  obtain ⟨oe3, b1, e3, H2⟩ := H
  refine z_getP dX6_tellWord_2 wf_X6_12 (by decide) (by decide) rfl oe3 (fun q => (by cases q.symm.trans e3)) (fun j q => ?_)
  cases q.symm.trans e3
  refine z_getI dX6_tellWord_5 wf_X6_189 (by decide) (by decide) rfl H2.1 (z_bipush (w := 10) dX6_tellWord_8 (by decide) ?_)
  obtain ⟨oc6, w4, I5, c6, H7⟩ := H2.2
  refine z_virt (As := [.int (I b1 1), .int 10]) (st := []) (r1 := (some (.int w4))) (h1 := (g, I5, P)) dX6_tellWord_10 kX6_needRoom wm_X6_192 ⟨by decide, by decide⟩ rfl rfl (Nat.le_of_ble_eq_true rfl) (by decide) (by decide) oc6 c6 ?_
  refine z_istore_n (lv' := [(1, .int w4), (0, .ref a0)]) dX6_tellWord_13 (by decide) rfl (z_aload_n 1 dX6_tellWord_14 rfl rfl (z_aload_n 1 dX6_tellWord_15 rfl rfl (z_getI dX6_tellWord_16 wf_X6_106 (by decide) (by decide) rfl H7.1 (z_aload_n 1 dX6_tellWord_19 rfl rfl (z_getI dX6_tellWord_20 wf_X6_110 (by decide) (by decide) rfl H7.2.1 (z_bipush (w := 6) dX6_tellWord_23 (by decide) ?_))))))
  obtain ⟨oc9, I8, c9, H10⟩ := H7.2.2
  refine z_virt (As := [.int (I5 a0 10), .int (I5 a0 11), .int 6]) (st := []) (r1 := none) (h1 := (g, I8, P)) dX6_tellWord_25 kX6_needRow wm_X6_196 ⟨by decide, by decide⟩ rfl rfl (Nat.le_of_ble_eq_true rfl) (by decide) (by decide) oc9 c9 ?_
  refine z_aload_n 1 dX6_tellWord_28 rfl rfl (z_aload_n 1 dX6_tellWord_29 rfl rfl (z_getI dX6_tellWord_30 wf_X6_119 (by decide) (by decide) rfl H10.1 (z_aload_n 1 dX6_tellWord_33 rfl rfl (z_getI dX6_tellWord_34 wf_X6_125 (by decide) (by decide) rfl H10.2.1 (z_iconst (w := 0) dX6_tellWord_37 (by decide) (z_bipush (w := 99) dX6_tellWord_38 (by decide) ?_))))))
  obtain ⟨oc12, I11, c12, H13⟩ := H10.2.2
  refine z_virt (As := [.int (I8 a0 13), .int (I8 a0 15), .int 0, .int 99]) (st := []) (r1 := none) (h1 := (g, I11, P)) dX6_tellWord_40 kX6_needNumber wm_X6_200 ⟨by decide, by decide⟩ rfl rfl (Nat.le_of_ble_eq_true rfl) (by decide) (by decide) oc12 c12 ?_
  refine z_iload_n 0 dX6_tellWord_43 rfl ?_
  refine z_if_ne (t := 48) dX6_tellWord_44 (by decide) (fun q => ?_) (fun q => ?_)
  · have H14 := H13.1 q
    refine z_aload_n 1 dX6_tellWord_48 rfl rfl ?_
    obtain ⟨oe17, b15, e17, H16⟩ := H14
    refine z_getP dX6_tellWord_49 wf_X6_12 (by decide) (by decide) rfl oe17 (fun q => (by cases q.symm.trans e17)) (fun j q => ?_)
    cases q.symm.trans e17
    refine z_getI dX6_tellWord_52 wf_X6_189 (by decide) (by decide) rfl H16.1 (z_istore_n (lv' := [(2, .int (I11 b15 1)), (1, .int w4), (0, .ref a0)]) dX6_tellWord_55 (by decide) rfl (z_aload_n 2 dX6_tellWord_56 rfl rfl ?_))
    obtain ⟨oe20, b18, e20, H19⟩ := H16.2
    refine z_getP dX6_tellWord_57 wf_X6_12 (by decide) (by decide) rfl oe20 (fun q => (by cases q.symm.trans e20)) (fun j q => ?_)
    cases q.symm.trans e20
    obtain ⟨oe23, b21, e23, H22⟩ := H19
    refine z_getP dX6_tellWord_60 wf_X6_204 (by decide) (by decide) rfl oe23 (fun q => (by cases q.symm.trans e23)) (fun j q => ?_)
    cases q.symm.trans e23
    refine z_iload_n 0 dX6_tellWord_63 rfl (z_aload_n 2 dX6_tellWord_64 rfl rfl (z_getI dX6_tellWord_65 wf_X6_110 (by decide) (by decide) rfl H22.1 (z_bipush (w := 6) dX6_tellWord_68 (by decide) (z_mmin dX6_tellWord_70 wm_X6_207 (by decide) (Nat.le_of_ble_eq_true rfl) (by decide) (by decide) w_mnS w_mI w_mnC ?_))))
    obtain ⟨I24, c25, H26⟩ := H22.2
    refine z_stat (As := [.ref b21, .int (I11 b15 1), .int (zmmin (I11 a0 11) 6)]) (st := []) (r1 := none) (h1 := (g, I24, P)) dX6_tellWord_73 kX11_put wm_X6_213 ⟨by decide, by decide⟩ rfl rfl (Nat.le_of_ble_eq_true rfl) (by decide) (by decide) c25 ?_
    refine z_aload_n 2 dX6_tellWord_76 rfl rfl ?_
    obtain ⟨oe29, b27, e29, H28⟩ := H26
    refine z_getP dX6_tellWord_77 wf_X6_12 (by decide) (by decide) rfl oe29 (fun q => (by cases q.symm.trans e29)) (fun j q => ?_)
    cases q.symm.trans e29
    obtain ⟨oe32, b30, e32, H31⟩ := H28
    refine z_getP dX6_tellWord_80 wf_X6_217 (by decide) (by decide) rfl oe32 (fun q => (by cases q.symm.trans e32)) (fun j q => ?_)
    cases q.symm.trans e32
    refine z_iload_n 0 dX6_tellWord_83 rfl (z_aload_n 2 dX6_tellWord_84 rfl rfl (z_getI dX6_tellWord_85 wf_X6_125 (by decide) (by decide) rfl H31.1 ?_))
    obtain ⟨I33, c34, H35⟩ := H31.2
    refine z_stat (As := [.ref b30, .int (I11 b15 1), .int (I24 a0 15)]) (st := []) (r1 := none) (h1 := (g, I33, P)) dX6_tellWord_88 kX11_put wm_X6_213 ⟨by decide, by decide⟩ rfl rfl (Nat.le_of_ble_eq_true rfl) (by decide) (by decide) c34 ?_
    refine z_iconst (w := 0) dX6_tellWord_91 (by decide) (z_istore_n (lv' := [(3, .int 0), (2, .int (I11 b15 1)), (1, .int w4), (0, .ref a0)]) dX6_tellWord_92 (by decide) rfl ?_)
    exact z_less [3, 1, 0] rfl H35
  · have H36 := H13.2 q
    obtain ⟨rfl, rfl⟩ := H36
    exact z_vret dX6_tellWord_47 rfl (by decide) (by decide)
theorem eX6_tellWord {g : zG} {I : Nat → Nat → Int32} {P : Nat → Nat → Option Nat} {r : Option Value} {h' : zH} {a0 : Nat} (H : Zt none mX6_tellWord 0 0 0 [(0, .ref a0)] [] (g, I, P) r h') : Cl mX6_tellWord [.ref a0] (g, I, P) r h' := Cl.of (by decide) (Nat.le_of_ble_eq_true rfl) H
set_option maxRecDepth 10000 in
theorem wX6_tellWord_93 {g : zG} {I : Nat → Nat → Int32} {P : Nat → Nat → Option Nat} {r : Option Value} {h' : zH} {a0 : Nat} {x2 : Int32} {x3 : Int32} (H : zk g a0 6 ∧ ((I a0 11 ≤ x3) → zk g a0 6 ∧ ∃ b2, P a0 0 = some b2 ∧ zk g b2 3 ∧ zk g b2 3 ∧ r = none ∧ h' = (g, zU I b2 1 ((I b2 1) + 1), P)) ∧ ((¬ I a0 11 ≤ x3) → ((6 ≤ x3) → zk g a0 6 ∧ ∃ b7, P a0 0 = some b7 ∧ zk g b7 3 ∧ zk g b7 3 ∧ r = none ∧ h' = (g, zU I b7 1 ((I b7 1) + 1), P)) ∧ ((¬ 6 ≤ x3) → zk g a0 6 ∧ ∃ b11, P a0 0 = some b11 ∧ zk g b11 3 ∧ ∃ b14, P b11 7 = some b14 ∧ zk g a0 6 ∧ zk g a0 6 ∧ ∃ (w17 : Int32), Cl mX6_letterAt [.ref a0, .int ((I a0 10) + x3)] (g, I, P) (some (.int w17)) (g, I, P) ∧ ∃ (I20 : Nat → Nat → Int32), Cl mX11_put [.ref b14, .int ((x2 * 6) + x3), .int w17] (g, I, P) none (g, I20, P) ∧ Zt none mX6_tellWord 0 0 93 [(0, .ref a0), (2, .int x2), (3, .int (x3 + 1))] [] (g, I20, P) r h'))) : Zt none mX6_tellWord 0 0 93 [(0, .ref a0), (2, .int x2), (3, .int x3)] [] (g, I, P) r h' := by
  refine z_iload_n 2 dX6_tellWord_93 rfl (z_aload_n 0 dX6_tellWord_94 rfl rfl (z_getI dX6_tellWord_95 wf_X6_110 (by decide) (by decide) rfl H.1 ?_))
  refine z_icmp_ge (t := 139) dX6_tellWord_98 (by decide) (fun q => ?_) (fun q => ?_)
  · have H1 := H.2.1 q
    refine z_aload_n 0 dX6_tellWord_139 rfl rfl ?_
    obtain ⟨oe4, b2, e4, H3⟩ := H1
    refine z_getP dX6_tellWord_140 wf_X6_12 (by decide) (by decide) rfl oe4 (fun q => (by cases q.symm.trans e4)) (fun j q => ?_)
    cases q.symm.trans e4
    refine z_dup dX6_tellWord_143 rfl (z_getI dX6_tellWord_144 wf_X6_189 (by decide) (by decide) rfl H3.1 (z_iconst (w := 1) dX6_tellWord_147 (by decide) (z_iadd dX6_tellWord_148 (z_putI (g := g) (I := I) (Q := P) dX6_tellWord_149 wf_X6_189 (by decide) (by decide) rfl (Or.inl rfl) (zfit_int rfl) H3.2.1 ?_))))
    obtain ⟨rfl, rfl⟩ := H3.2.2
    exact z_vret dX6_tellWord_152 rfl (by decide) (by decide)
  · have H5 := H.2.2 q
    refine z_iload_n 2 dX6_tellWord_101 rfl (z_bipush (w := 6) dX6_tellWord_102 (by decide) ?_)
    refine z_icmp_ge (t := 139) dX6_tellWord_104 (by decide) (fun q => ?_) (fun q => ?_)
    · have H6 := H5.1 q
      refine z_aload_n 0 dX6_tellWord_139 rfl rfl ?_
      obtain ⟨oe9, b7, e9, H8⟩ := H6
      refine z_getP dX6_tellWord_140 wf_X6_12 (by decide) (by decide) rfl oe9 (fun q => (by cases q.symm.trans e9)) (fun j q => ?_)
      cases q.symm.trans e9
      refine z_dup dX6_tellWord_143 rfl (z_getI dX6_tellWord_144 wf_X6_189 (by decide) (by decide) rfl H8.1 (z_iconst (w := 1) dX6_tellWord_147 (by decide) (z_iadd dX6_tellWord_148 (z_putI (g := g) (I := I) (Q := P) dX6_tellWord_149 wf_X6_189 (by decide) (by decide) rfl (Or.inl rfl) (zfit_int rfl) H8.2.1 ?_))))
      obtain ⟨rfl, rfl⟩ := H8.2.2
      exact z_vret dX6_tellWord_152 rfl (by decide) (by decide)
    · have H10 := H5.2 q
      refine z_aload_n 0 dX6_tellWord_107 rfl rfl ?_
      obtain ⟨oe13, b11, e13, H12⟩ := H10
      refine z_getP dX6_tellWord_108 wf_X6_12 (by decide) (by decide) rfl oe13 (fun q => (by cases q.symm.trans e13)) (fun j q => ?_)
      cases q.symm.trans e13
      obtain ⟨oe16, b14, e16, H15⟩ := H12
      refine z_getP dX6_tellWord_111 wf_X6_220 (by decide) (by decide) rfl oe16 (fun q => (by cases q.symm.trans e16)) (fun j q => ?_)
      cases q.symm.trans e16
      refine z_iload_n 1 dX6_tellWord_114 rfl (z_bipush (w := 6) dX6_tellWord_115 (by decide) (z_imul dX6_tellWord_117 (z_iload_n 2 dX6_tellWord_118 rfl (z_iadd dX6_tellWord_119 (z_aload_n 0 dX6_tellWord_120 rfl rfl (z_aload_n 0 dX6_tellWord_121 rfl rfl (z_getI dX6_tellWord_122 wf_X6_106 (by decide) (by decide) rfl H15.1 (z_iload_n 2 dX6_tellWord_125 rfl (z_iadd dX6_tellWord_126 ?_)))))))))
      obtain ⟨oc18, w17, c18, H19⟩ := H15.2
      refine z_virt (As := [.int ((I a0 10) + x3)]) (st := [.int ((x2 * 6) + x3), .ref b14]) (r1 := (some (.int w17))) (h1 := (g, I, P)) dX6_tellWord_127 kX6_letterAt wm_X6_223 ⟨by decide, by decide⟩ rfl rfl (Nat.le_of_ble_eq_true rfl) (by decide) (by decide) oc18 c18 ?_
      obtain ⟨I20, c21, H22⟩ := H19
      refine z_stat (As := [.ref b14, .int ((x2 * 6) + x3), .int w17]) (st := []) (r1 := none) (h1 := (g, I20, P)) dX6_tellWord_130 kX11_put wm_X6_213 ⟨by decide, by decide⟩ rfl rfl (Nat.le_of_ble_eq_true rfl) (by decide) (by decide) c21 ?_
      refine z_iinc (y := x3 + 1) (lv' := [(3, .int (x3 + 1)), (0, .ref a0), (2, .int x2)]) 2 dX6_tellWord_133 rfl rfl (by decide) rfl (z_goto (t := 93) dX6_tellWord_136 (by decide) ?_)
      exact z_less [1, 2, 0] rfl H22
theorem dX6_tellFollows_0 : decode cX6_tellFollows 0 = .ok (.aload_n 0, 1) := by decide +kernel
theorem dX6_tellFollows_1 : decode cX6_tellFollows 1 = .ok (.aload_n 0, 1) := by decide +kernel
theorem dX6_tellFollows_2 : decode cX6_tellFollows 2 = .ok (.getfield 106, 3) := by decide +kernel
theorem dX6_tellFollows_5 : decode cX6_tellFollows 5 = .ok (.aload_n 0, 1) := by decide +kernel
theorem dX6_tellFollows_6 : decode cX6_tellFollows 6 = .ok (.getfield 116, 3) := by decide +kernel
theorem dX6_tellFollows_9 : decode cX6_tellFollows 9 = .ok (.iconst 0, 1) := by decide +kernel
theorem dX6_tellFollows_10 : decode cX6_tellFollows 10 = .ok (.bipush 9, 2) := by decide +kernel
theorem dX6_tellFollows_12 : decode cX6_tellFollows 12 = .ok (.invokevirtual 200, 3) := by decide +kernel
theorem dX6_tellFollows_15 : decode cX6_tellFollows 15 = .ok (.aload_n 0, 1) := by decide +kernel
theorem dX6_tellFollows_16 : decode cX6_tellFollows 16 = .ok (.aload_n 0, 1) := by decide +kernel
theorem dX6_tellFollows_17 : decode cX6_tellFollows 17 = .ok (.getfield 119, 3) := by decide +kernel
theorem dX6_tellFollows_20 : decode cX6_tellFollows 20 = .ok (.aload_n 0, 1) := by decide +kernel
theorem dX6_tellFollows_21 : decode cX6_tellFollows 21 = .ok (.getfield 125, 3) := by decide +kernel
theorem dX6_tellFollows_24 : decode cX6_tellFollows 24 = .ok (.iconst 0, 1) := by decide +kernel
theorem dX6_tellFollows_25 : decode cX6_tellFollows 25 = .ok (.bipush 9, 2) := by decide +kernel
theorem dX6_tellFollows_27 : decode cX6_tellFollows 27 = .ok (.invokevirtual 200, 3) := by decide +kernel
theorem dX6_tellFollows_30 : decode cX6_tellFollows 30 = .ok (.aload_n 0, 1) := by decide +kernel
theorem dX6_tellFollows_31 : decode cX6_tellFollows 31 = .ok (.getfield 12, 3) := by decide +kernel
theorem dX6_tellFollows_34 : decode cX6_tellFollows 34 = .ok (.iconst 1, 1) := by decide +kernel
theorem dX6_tellFollows_35 : decode cX6_tellFollows 35 = .ok (.putfield 226, 3) := by decide +kernel
theorem dX6_tellFollows_38 : decode cX6_tellFollows 38 = .ok (.aload_n 0, 1) := by decide +kernel
theorem dX6_tellFollows_39 : decode cX6_tellFollows 39 = .ok (.getfield 12, 3) := by decide +kernel
theorem dX6_tellFollows_42 : decode cX6_tellFollows 42 = .ok (.getfield 230, 3) := by decide +kernel
theorem dX6_tellFollows_45 : decode cX6_tellFollows 45 = .ok (.aload_n 0, 1) := by decide +kernel
theorem dX6_tellFollows_46 : decode cX6_tellFollows 46 = .ok (.getfield 116, 3) := by decide +kernel
theorem dX6_tellFollows_49 : decode cX6_tellFollows 49 = .ok (.aload_n 0, 1) := by decide +kernel
theorem dX6_tellFollows_50 : decode cX6_tellFollows 50 = .ok (.getfield 12, 3) := by decide +kernel
theorem dX6_tellFollows_53 : decode cX6_tellFollows 53 = .ok (.getfield 230, 3) := by decide +kernel
theorem dX6_tellFollows_56 : decode cX6_tellFollows 56 = .ok (.aload_n 0, 1) := by decide +kernel
theorem dX6_tellFollows_57 : decode cX6_tellFollows 57 = .ok (.getfield 116, 3) := by decide +kernel
theorem dX6_tellFollows_60 : decode cX6_tellFollows 60 = .ok (.invokestatic 232, 3) := by decide +kernel
theorem dX6_tellFollows_63 : decode cX6_tellFollows 63 = .ok (.aload_n 0, 1) := by decide +kernel
theorem dX6_tellFollows_64 : decode cX6_tellFollows 64 = .ok (.getfield 125, 3) := by decide +kernel
theorem dX6_tellFollows_67 : decode cX6_tellFollows 67 = .ok (.invokestatic 236, 3) := by decide +kernel
theorem dX6_tellFollows_70 : decode cX6_tellFollows 70 = .ok (.ior, 1) := by decide +kernel
theorem dX6_tellFollows_71 : decode cX6_tellFollows 71 = .ok (.invokestatic 213, 3) := by decide +kernel
theorem dX6_tellFollows_74 : decode cX6_tellFollows 74 = .ok (.aload_n 0, 1) := by decide +kernel
theorem dX6_tellFollows_75 : decode cX6_tellFollows 75 = .ok (.getfield 12, 3) := by decide +kernel
theorem dX6_tellFollows_78 : decode cX6_tellFollows 78 = .ok (.aload_n 0, 1) := by decide +kernel
theorem dX6_tellFollows_79 : decode cX6_tellFollows 79 = .ok (.getfield 12, 3) := by decide +kernel
theorem dX6_tellFollows_82 : decode cX6_tellFollows 82 = .ok (.getfield 239, 3) := by decide +kernel
theorem dX6_tellFollows_85 : decode cX6_tellFollows 85 = .ok (.aload_n 0, 1) := by decide +kernel
theorem dX6_tellFollows_86 : decode cX6_tellFollows 86 = .ok (.getfield 116, 3) := by decide +kernel
theorem dX6_tellFollows_89 : decode cX6_tellFollows 89 = .ok (.aload_n 0, 1) := by decide +kernel
theorem dX6_tellFollows_90 : decode cX6_tellFollows 90 = .ok (.getfield 125, 3) := by decide +kernel
theorem dX6_tellFollows_93 : decode cX6_tellFollows 93 = .ok (.invokestatic 242, 3) := by decide +kernel
theorem dX6_tellFollows_96 : decode cX6_tellFollows 96 = .ok (.iconst 1, 1) := by decide +kernel
theorem dX6_tellFollows_97 : decode cX6_tellFollows 97 = .ok (.iadd, 1) := by decide +kernel
theorem dX6_tellFollows_98 : decode cX6_tellFollows 98 = .ok (.invokestatic 242, 3) := by decide +kernel
theorem dX6_tellFollows_101 : decode cX6_tellFollows 101 = .ok (.putfield 239, 3) := by decide +kernel
theorem dX6_tellFollows_104 : decode cX6_tellFollows 104 = .ok (.return_, 1) := by decide +kernel
set_option maxRecDepth 10000 in
theorem wX6_tellFollows_0 {g : zG} {I : Nat → Nat → Int32} {P : Nat → Nat → Option Nat} {r : Option Value} {h' : zH} {a0 : Nat} (H : zk g a0 6 ∧ zk g a0 6 ∧ zk g a0 6 ∧ ∃ (I1 : Nat → Nat → Int32), Cl mX6_needNumber [.ref a0, .int (I a0 10), .int (I a0 12), .int 0, .int 9] (g, I, P) none (g, I1, P) ∧ zk g a0 6 ∧ zk g a0 6 ∧ zk g a0 6 ∧ ∃ (I4 : Nat → Nat → Int32), Cl mX6_needNumber [.ref a0, .int (I1 a0 13), .int (I1 a0 15), .int 0, .int 9] (g, I1, P) none (g, I4, P) ∧ zk g a0 6 ∧ ∃ b7, P a0 0 = some b7 ∧ zk g b7 3 ∧ zk g a0 6 ∧ ∃ b10, P a0 0 = some b10 ∧ zk g b10 3 ∧ ∃ b13, P b10 6 = some b13 ∧ zk g a0 6 ∧ zk g a0 6 ∧ ∃ b16, P a0 0 = some b16 ∧ zk g b16 3 ∧ ∃ b19, P b16 6 = some b19 ∧ zk g a0 6 ∧ ∃ (w22 : Int32), Cl mX11_got [.ref b19, .int ((zU I4 b7 2 1) a0 12)] (g, zU I4 b7 2 1, P) (some (.int w22)) (g, zU I4 b7 2 1, P) ∧ zk g a0 6 ∧ ∃ (w25 : Int32), Cl mX11_bit [.int ((zU I4 b7 2 1) a0 15)] (g, zU I4 b7 2 1, P) (some (.int w25)) (g, zU I4 b7 2 1, P) ∧ ∃ (I28 : Nat → Nat → Int32), Cl mX11_put [.ref b13, .int ((zU I4 b7 2 1) a0 12), .int (w22 ||| w25)] (g, zU I4 b7 2 1, P) none (g, I28, P) ∧ zk g a0 6 ∧ ∃ b31, P a0 0 = some b31 ∧ zk g a0 6 ∧ ∃ b34, P a0 0 = some b34 ∧ zk g b34 3 ∧ zk g a0 6 ∧ zk g a0 6 ∧ zk g b31 3 ∧ r = none ∧ h' = (g, zU I28 b31 3 (zmmax (I28 b34 3) ((zmmax (I28 a0 12) (I28 a0 15)) + 1)), P)) : Zt none mX6_tellFollows 0 0 0 [(0, .ref a0)] [] (g, I, P) r h' := by
  refine z_aload_n 0 dX6_tellFollows_0 rfl rfl (z_aload_n 0 dX6_tellFollows_1 rfl rfl (z_getI dX6_tellFollows_2 wf_X6_106 (by decide) (by decide) rfl H.1 (z_aload_n 0 dX6_tellFollows_5 rfl rfl (z_getI dX6_tellFollows_6 wf_X6_116 (by decide) (by decide) rfl H.2.1 (z_iconst (w := 0) dX6_tellFollows_9 (by decide) (z_bipush (w := 9) dX6_tellFollows_10 (by decide) ?_))))))
  obtain ⟨oc2, I1, c2, H3⟩ := H.2.2
  refine z_virt (As := [.int (I a0 10), .int (I a0 12), .int 0, .int 9]) (st := []) (r1 := none) (h1 := (g, I1, P)) dX6_tellFollows_12 kX6_needNumber wm_X6_200 ⟨by decide, by decide⟩ rfl rfl (Nat.le_of_ble_eq_true rfl) (by decide) (by decide) oc2 c2 ?_
  refine z_aload_n 0 dX6_tellFollows_15 rfl rfl (z_aload_n 0 dX6_tellFollows_16 rfl rfl (z_getI dX6_tellFollows_17 wf_X6_119 (by decide) (by decide) rfl H3.1 (z_aload_n 0 dX6_tellFollows_20 rfl rfl (z_getI dX6_tellFollows_21 wf_X6_125 (by decide) (by decide) rfl H3.2.1 (z_iconst (w := 0) dX6_tellFollows_24 (by decide) (z_bipush (w := 9) dX6_tellFollows_25 (by decide) ?_))))))
  obtain ⟨oc5, I4, c5, H6⟩ := H3.2.2
  refine z_virt (As := [.int (I1 a0 13), .int (I1 a0 15), .int 0, .int 9]) (st := []) (r1 := none) (h1 := (g, I4, P)) dX6_tellFollows_27 kX6_needNumber wm_X6_200 ⟨by decide, by decide⟩ rfl rfl (Nat.le_of_ble_eq_true rfl) (by decide) (by decide) oc5 c5 ?_
  refine z_aload_n 0 dX6_tellFollows_30 rfl rfl ?_
  obtain ⟨oe9, b7, e9, H8⟩ := H6
  refine z_getP dX6_tellFollows_31 wf_X6_12 (by decide) (by decide) rfl oe9 (fun q => (by cases q.symm.trans e9)) (fun j q => ?_)
  cases q.symm.trans e9
  refine z_iconst (w := 1) dX6_tellFollows_34 (by decide) (z_putI (g := g) (I := I4) (Q := P) dX6_tellFollows_35 wf_X6_226 (by decide) (by decide) rfl (Or.inl rfl) (zfit_bool rfl (Or.inr rfl)) H8.1 (z_aload_n 0 dX6_tellFollows_38 rfl rfl ?_))
  obtain ⟨oe12, b10, e12, H11⟩ := H8.2
  refine z_getP dX6_tellFollows_39 wf_X6_12 (by decide) (by decide) rfl oe12 (fun q => (by cases q.symm.trans e12)) (fun j q => ?_)
  cases q.symm.trans e12
  obtain ⟨oe15, b13, e15, H14⟩ := H11
  refine z_getP dX6_tellFollows_42 wf_X6_230 (by decide) (by decide) rfl oe15 (fun q => (by cases q.symm.trans e15)) (fun j q => ?_)
  cases q.symm.trans e15
  refine z_aload_n 0 dX6_tellFollows_45 rfl rfl (z_getI dX6_tellFollows_46 wf_X6_116 (by decide) (by decide) rfl H14.1 (z_aload_n 0 dX6_tellFollows_49 rfl rfl ?_))
  obtain ⟨oe18, b16, e18, H17⟩ := H14.2
  refine z_getP dX6_tellFollows_50 wf_X6_12 (by decide) (by decide) rfl oe18 (fun q => (by cases q.symm.trans e18)) (fun j q => ?_)
  cases q.symm.trans e18
  obtain ⟨oe21, b19, e21, H20⟩ := H17
  refine z_getP dX6_tellFollows_53 wf_X6_230 (by decide) (by decide) rfl oe21 (fun q => (by cases q.symm.trans e21)) (fun j q => ?_)
  cases q.symm.trans e21
  refine z_aload_n 0 dX6_tellFollows_56 rfl rfl (z_getI dX6_tellFollows_57 wf_X6_116 (by decide) (by decide) rfl H20.1 ?_)
  obtain ⟨w22, c23, H24⟩ := H20.2
  refine z_stat (As := [.ref b19, .int ((zU I4 b7 2 1) a0 12)]) (st := [.int ((zU I4 b7 2 1) a0 12), .ref b13]) (r1 := (some (.int w22))) (h1 := (g, zU I4 b7 2 1, P)) dX6_tellFollows_60 kX11_got wm_X6_232 ⟨by decide, by decide⟩ rfl rfl (Nat.le_of_ble_eq_true rfl) (by decide) (by decide) c23 ?_
  refine z_aload_n 0 dX6_tellFollows_63 rfl rfl (z_getI dX6_tellFollows_64 wf_X6_125 (by decide) (by decide) rfl H24.1 ?_)
  obtain ⟨w25, c26, H27⟩ := H24.2
  refine z_stat (As := [.int ((zU I4 b7 2 1) a0 15)]) (st := [.int w22, .int ((zU I4 b7 2 1) a0 12), .ref b13]) (r1 := (some (.int w25))) (h1 := (g, zU I4 b7 2 1, P)) dX6_tellFollows_67 kX11_bit wm_X6_236 ⟨by decide, by decide⟩ rfl rfl (Nat.le_of_ble_eq_true rfl) (by decide) (by decide) c26 ?_
  refine z_ior dX6_tellFollows_70 ?_
  obtain ⟨I28, c29, H30⟩ := H27
  refine z_stat (As := [.ref b13, .int ((zU I4 b7 2 1) a0 12), .int (w22 ||| w25)]) (st := []) (r1 := none) (h1 := (g, I28, P)) dX6_tellFollows_71 kX11_put wm_X6_213 ⟨by decide, by decide⟩ rfl rfl (Nat.le_of_ble_eq_true rfl) (by decide) (by decide) c29 ?_
  refine z_aload_n 0 dX6_tellFollows_74 rfl rfl ?_
  obtain ⟨oe33, b31, e33, H32⟩ := H30
  refine z_getP dX6_tellFollows_75 wf_X6_12 (by decide) (by decide) rfl oe33 (fun q => (by cases q.symm.trans e33)) (fun j q => ?_)
  cases q.symm.trans e33
  refine z_aload_n 0 dX6_tellFollows_78 rfl rfl ?_
  obtain ⟨oe36, b34, e36, H35⟩ := H32
  refine z_getP dX6_tellFollows_79 wf_X6_12 (by decide) (by decide) rfl oe36 (fun q => (by cases q.symm.trans e36)) (fun j q => ?_)
  cases q.symm.trans e36
  refine z_getI dX6_tellFollows_82 wf_X6_239 (by decide) (by decide) rfl H35.1 (z_aload_n 0 dX6_tellFollows_85 rfl rfl (z_getI dX6_tellFollows_86 wf_X6_116 (by decide) (by decide) rfl H35.2.1 (z_aload_n 0 dX6_tellFollows_89 rfl rfl (z_getI dX6_tellFollows_90 wf_X6_125 (by decide) (by decide) rfl H35.2.2.1 (z_mmax dX6_tellFollows_93 wm_X6_242 (by decide) (Nat.le_of_ble_eq_true rfl) (by decide) (by decide) w_mxS w_mI w_mxC (z_iconst (w := 1) dX6_tellFollows_96 (by decide) (z_iadd dX6_tellFollows_97 (z_mmax dX6_tellFollows_98 wm_X6_242 (by decide) (Nat.le_of_ble_eq_true rfl) (by decide) (by decide) w_mxS w_mI w_mxC (z_putI (g := g) (I := I28) (Q := P) dX6_tellFollows_101 wf_X6_239 (by decide) (by decide) rfl (Or.inl rfl) (zfit_int rfl) H35.2.2.2.1 ?_)))))))))
  obtain ⟨rfl, rfl⟩ := H35.2.2.2.2
  exact z_vret dX6_tellFollows_104 rfl (by decide) (by decide)
theorem eX6_tellFollows {g : zG} {I : Nat → Nat → Int32} {P : Nat → Nat → Option Nat} {r : Option Value} {h' : zH} {a0 : Nat} (H : Zt none mX6_tellFollows 0 0 0 [(0, .ref a0)] [] (g, I, P) r h') : Cl mX6_tellFollows [.ref a0] (g, I, P) r h' := Cl.of (by decide) (Nat.le_of_ble_eq_true rfl) H
theorem dX6_tellAsks_0 : decode cX6_tellAsks 0 = .ok (.aload_n 0, 1) := by decide +kernel
theorem dX6_tellAsks_1 : decode cX6_tellAsks 1 = .ok (.aload_n 0, 1) := by decide +kernel
theorem dX6_tellAsks_2 : decode cX6_tellAsks 2 = .ok (.getfield 106, 3) := by decide +kernel
theorem dX6_tellAsks_5 : decode cX6_tellAsks 5 = .ok (.aload_n 0, 1) := by decide +kernel
theorem dX6_tellAsks_6 : decode cX6_tellAsks 6 = .ok (.getfield 116, 3) := by decide +kernel
theorem dX6_tellAsks_9 : decode cX6_tellAsks 9 = .ok (.iconst 0, 1) := by decide +kernel
theorem dX6_tellAsks_10 : decode cX6_tellAsks 10 = .ok (.iconst 5, 1) := by decide +kernel
theorem dX6_tellAsks_11 : decode cX6_tellAsks 11 = .ok (.invokevirtual 200, 3) := by decide +kernel
theorem dX6_tellAsks_14 : decode cX6_tellAsks 14 = .ok (.aload_n 0, 1) := by decide +kernel
theorem dX6_tellAsks_15 : decode cX6_tellAsks 15 = .ok (.aload_n 0, 1) := by decide +kernel
theorem dX6_tellAsks_16 : decode cX6_tellAsks 16 = .ok (.getfield 119, 3) := by decide +kernel
theorem dX6_tellAsks_19 : decode cX6_tellAsks 19 = .ok (.aload_n 0, 1) := by decide +kernel
theorem dX6_tellAsks_20 : decode cX6_tellAsks 20 = .ok (.getfield 125, 3) := by decide +kernel
theorem dX6_tellAsks_23 : decode cX6_tellAsks 23 = .ok (.iconst 0, 1) := by decide +kernel
theorem dX6_tellAsks_24 : decode cX6_tellAsks 24 = .ok (.bipush 9, 2) := by decide +kernel
theorem dX6_tellAsks_26 : decode cX6_tellAsks 26 = .ok (.invokevirtual 200, 3) := by decide +kernel
theorem dX6_tellAsks_29 : decode cX6_tellAsks 29 = .ok (.aload_n 0, 1) := by decide +kernel
theorem dX6_tellAsks_30 : decode cX6_tellAsks 30 = .ok (.getfield 12, 3) := by decide +kernel
theorem dX6_tellAsks_33 : decode cX6_tellAsks 33 = .ok (.getfield 245, 3) := by decide +kernel
theorem dX6_tellAsks_36 : decode cX6_tellAsks 36 = .ok (.aload_n 0, 1) := by decide +kernel
theorem dX6_tellAsks_37 : decode cX6_tellAsks 37 = .ok (.getfield 116, 3) := by decide +kernel
theorem dX6_tellAsks_40 : decode cX6_tellAsks 40 = .ok (.aload_n 0, 1) := by decide +kernel
theorem dX6_tellAsks_41 : decode cX6_tellAsks 41 = .ok (.getfield 12, 3) := by decide +kernel
theorem dX6_tellAsks_44 : decode cX6_tellAsks 44 = .ok (.getfield 245, 3) := by decide +kernel
theorem dX6_tellAsks_47 : decode cX6_tellAsks 47 = .ok (.aload_n 0, 1) := by decide +kernel
theorem dX6_tellAsks_48 : decode cX6_tellAsks 48 = .ok (.getfield 116, 3) := by decide +kernel
theorem dX6_tellAsks_51 : decode cX6_tellAsks 51 = .ok (.invokestatic 232, 3) := by decide +kernel
theorem dX6_tellAsks_54 : decode cX6_tellAsks 54 = .ok (.aload_n 0, 1) := by decide +kernel
theorem dX6_tellAsks_55 : decode cX6_tellAsks 55 = .ok (.getfield 125, 3) := by decide +kernel
theorem dX6_tellAsks_58 : decode cX6_tellAsks 58 = .ok (.invokestatic 236, 3) := by decide +kernel
theorem dX6_tellAsks_61 : decode cX6_tellAsks 61 = .ok (.ior, 1) := by decide +kernel
theorem dX6_tellAsks_62 : decode cX6_tellAsks 62 = .ok (.invokestatic 213, 3) := by decide +kernel
theorem dX6_tellAsks_65 : decode cX6_tellAsks 65 = .ok (.aload_n 0, 1) := by decide +kernel
theorem dX6_tellAsks_66 : decode cX6_tellAsks 66 = .ok (.getfield 12, 3) := by decide +kernel
theorem dX6_tellAsks_69 : decode cX6_tellAsks 69 = .ok (.aload_n 0, 1) := by decide +kernel
theorem dX6_tellAsks_70 : decode cX6_tellAsks 70 = .ok (.getfield 12, 3) := by decide +kernel
theorem dX6_tellAsks_73 : decode cX6_tellAsks 73 = .ok (.getfield 239, 3) := by decide +kernel
theorem dX6_tellAsks_76 : decode cX6_tellAsks 76 = .ok (.aload_n 0, 1) := by decide +kernel
theorem dX6_tellAsks_77 : decode cX6_tellAsks 77 = .ok (.getfield 125, 3) := by decide +kernel
theorem dX6_tellAsks_80 : decode cX6_tellAsks 80 = .ok (.iconst 1, 1) := by decide +kernel
theorem dX6_tellAsks_81 : decode cX6_tellAsks 81 = .ok (.iadd, 1) := by decide +kernel
theorem dX6_tellAsks_82 : decode cX6_tellAsks 82 = .ok (.invokestatic 242, 3) := by decide +kernel
theorem dX6_tellAsks_85 : decode cX6_tellAsks 85 = .ok (.putfield 239, 3) := by decide +kernel
theorem dX6_tellAsks_88 : decode cX6_tellAsks 88 = .ok (.return_, 1) := by decide +kernel
set_option maxRecDepth 10000 in
theorem wX6_tellAsks_0 {g : zG} {I : Nat → Nat → Int32} {P : Nat → Nat → Option Nat} {r : Option Value} {h' : zH} {a0 : Nat} (H : zk g a0 6 ∧ zk g a0 6 ∧ zk g a0 6 ∧ ∃ (I1 : Nat → Nat → Int32), Cl mX6_needNumber [.ref a0, .int (I a0 10), .int (I a0 12), .int 0, .int 5] (g, I, P) none (g, I1, P) ∧ zk g a0 6 ∧ zk g a0 6 ∧ zk g a0 6 ∧ ∃ (I4 : Nat → Nat → Int32), Cl mX6_needNumber [.ref a0, .int (I1 a0 13), .int (I1 a0 15), .int 0, .int 9] (g, I1, P) none (g, I4, P) ∧ zk g a0 6 ∧ ∃ b7, P a0 0 = some b7 ∧ zk g b7 3 ∧ ∃ b10, P b7 8 = some b10 ∧ zk g a0 6 ∧ zk g a0 6 ∧ ∃ b13, P a0 0 = some b13 ∧ zk g b13 3 ∧ ∃ b16, P b13 8 = some b16 ∧ zk g a0 6 ∧ ∃ (w19 : Int32), Cl mX11_got [.ref b16, .int (I4 a0 12)] (g, I4, P) (some (.int w19)) (g, I4, P) ∧ zk g a0 6 ∧ ∃ (w22 : Int32), Cl mX11_bit [.int (I4 a0 15)] (g, I4, P) (some (.int w22)) (g, I4, P) ∧ ∃ (I25 : Nat → Nat → Int32), Cl mX11_put [.ref b10, .int (I4 a0 12), .int (w19 ||| w22)] (g, I4, P) none (g, I25, P) ∧ zk g a0 6 ∧ ∃ b28, P a0 0 = some b28 ∧ zk g a0 6 ∧ ∃ b31, P a0 0 = some b31 ∧ zk g b31 3 ∧ zk g a0 6 ∧ zk g b28 3 ∧ r = none ∧ h' = (g, zU I25 b28 3 (zmmax (I25 b31 3) ((I25 a0 15) + 1)), P)) : Zt none mX6_tellAsks 0 0 0 [(0, .ref a0)] [] (g, I, P) r h' := by
  refine z_aload_n 0 dX6_tellAsks_0 rfl rfl (z_aload_n 0 dX6_tellAsks_1 rfl rfl (z_getI dX6_tellAsks_2 wf_X6_106 (by decide) (by decide) rfl H.1 (z_aload_n 0 dX6_tellAsks_5 rfl rfl (z_getI dX6_tellAsks_6 wf_X6_116 (by decide) (by decide) rfl H.2.1 (z_iconst (w := 0) dX6_tellAsks_9 (by decide) (z_iconst (w := 5) dX6_tellAsks_10 (by decide) ?_))))))
  obtain ⟨oc2, I1, c2, H3⟩ := H.2.2
  refine z_virt (As := [.int (I a0 10), .int (I a0 12), .int 0, .int 5]) (st := []) (r1 := none) (h1 := (g, I1, P)) dX6_tellAsks_11 kX6_needNumber wm_X6_200 ⟨by decide, by decide⟩ rfl rfl (Nat.le_of_ble_eq_true rfl) (by decide) (by decide) oc2 c2 ?_
  refine z_aload_n 0 dX6_tellAsks_14 rfl rfl (z_aload_n 0 dX6_tellAsks_15 rfl rfl (z_getI dX6_tellAsks_16 wf_X6_119 (by decide) (by decide) rfl H3.1 (z_aload_n 0 dX6_tellAsks_19 rfl rfl (z_getI dX6_tellAsks_20 wf_X6_125 (by decide) (by decide) rfl H3.2.1 (z_iconst (w := 0) dX6_tellAsks_23 (by decide) (z_bipush (w := 9) dX6_tellAsks_24 (by decide) ?_))))))
  obtain ⟨oc5, I4, c5, H6⟩ := H3.2.2
  refine z_virt (As := [.int (I1 a0 13), .int (I1 a0 15), .int 0, .int 9]) (st := []) (r1 := none) (h1 := (g, I4, P)) dX6_tellAsks_26 kX6_needNumber wm_X6_200 ⟨by decide, by decide⟩ rfl rfl (Nat.le_of_ble_eq_true rfl) (by decide) (by decide) oc5 c5 ?_
  refine z_aload_n 0 dX6_tellAsks_29 rfl rfl ?_
  obtain ⟨oe9, b7, e9, H8⟩ := H6
  refine z_getP dX6_tellAsks_30 wf_X6_12 (by decide) (by decide) rfl oe9 (fun q => (by cases q.symm.trans e9)) (fun j q => ?_)
  cases q.symm.trans e9
  obtain ⟨oe12, b10, e12, H11⟩ := H8
  refine z_getP dX6_tellAsks_33 wf_X6_245 (by decide) (by decide) rfl oe12 (fun q => (by cases q.symm.trans e12)) (fun j q => ?_)
  cases q.symm.trans e12
  refine z_aload_n 0 dX6_tellAsks_36 rfl rfl (z_getI dX6_tellAsks_37 wf_X6_116 (by decide) (by decide) rfl H11.1 (z_aload_n 0 dX6_tellAsks_40 rfl rfl ?_))
  obtain ⟨oe15, b13, e15, H14⟩ := H11.2
  refine z_getP dX6_tellAsks_41 wf_X6_12 (by decide) (by decide) rfl oe15 (fun q => (by cases q.symm.trans e15)) (fun j q => ?_)
  cases q.symm.trans e15
  obtain ⟨oe18, b16, e18, H17⟩ := H14
  refine z_getP dX6_tellAsks_44 wf_X6_245 (by decide) (by decide) rfl oe18 (fun q => (by cases q.symm.trans e18)) (fun j q => ?_)
  cases q.symm.trans e18
  refine z_aload_n 0 dX6_tellAsks_47 rfl rfl (z_getI dX6_tellAsks_48 wf_X6_116 (by decide) (by decide) rfl H17.1 ?_)
  obtain ⟨w19, c20, H21⟩ := H17.2
  refine z_stat (As := [.ref b16, .int (I4 a0 12)]) (st := [.int (I4 a0 12), .ref b10]) (r1 := (some (.int w19))) (h1 := (g, I4, P)) dX6_tellAsks_51 kX11_got wm_X6_232 ⟨by decide, by decide⟩ rfl rfl (Nat.le_of_ble_eq_true rfl) (by decide) (by decide) c20 ?_
  refine z_aload_n 0 dX6_tellAsks_54 rfl rfl (z_getI dX6_tellAsks_55 wf_X6_125 (by decide) (by decide) rfl H21.1 ?_)
  obtain ⟨w22, c23, H24⟩ := H21.2
  refine z_stat (As := [.int (I4 a0 15)]) (st := [.int w19, .int (I4 a0 12), .ref b10]) (r1 := (some (.int w22))) (h1 := (g, I4, P)) dX6_tellAsks_58 kX11_bit wm_X6_236 ⟨by decide, by decide⟩ rfl rfl (Nat.le_of_ble_eq_true rfl) (by decide) (by decide) c23 ?_
  refine z_ior dX6_tellAsks_61 ?_
  obtain ⟨I25, c26, H27⟩ := H24
  refine z_stat (As := [.ref b10, .int (I4 a0 12), .int (w19 ||| w22)]) (st := []) (r1 := none) (h1 := (g, I25, P)) dX6_tellAsks_62 kX11_put wm_X6_213 ⟨by decide, by decide⟩ rfl rfl (Nat.le_of_ble_eq_true rfl) (by decide) (by decide) c26 ?_
  refine z_aload_n 0 dX6_tellAsks_65 rfl rfl ?_
  obtain ⟨oe30, b28, e30, H29⟩ := H27
  refine z_getP dX6_tellAsks_66 wf_X6_12 (by decide) (by decide) rfl oe30 (fun q => (by cases q.symm.trans e30)) (fun j q => ?_)
  cases q.symm.trans e30
  refine z_aload_n 0 dX6_tellAsks_69 rfl rfl ?_
  obtain ⟨oe33, b31, e33, H32⟩ := H29
  refine z_getP dX6_tellAsks_70 wf_X6_12 (by decide) (by decide) rfl oe33 (fun q => (by cases q.symm.trans e33)) (fun j q => ?_)
  cases q.symm.trans e33
  refine z_getI dX6_tellAsks_73 wf_X6_239 (by decide) (by decide) rfl H32.1 (z_aload_n 0 dX6_tellAsks_76 rfl rfl (z_getI dX6_tellAsks_77 wf_X6_125 (by decide) (by decide) rfl H32.2.1 (z_iconst (w := 1) dX6_tellAsks_80 (by decide) (z_iadd dX6_tellAsks_81 (z_mmax dX6_tellAsks_82 wm_X6_242 (by decide) (Nat.le_of_ble_eq_true rfl) (by decide) (by decide) w_mxS w_mI w_mxC (z_putI (g := g) (I := I25) (Q := P) dX6_tellAsks_85 wf_X6_239 (by decide) (by decide) rfl (Or.inl rfl) (zfit_int rfl) H32.2.2.1 ?_))))))
  obtain ⟨rfl, rfl⟩ := H32.2.2.2
  exact z_vret dX6_tellAsks_88 rfl (by decide) (by decide)
theorem eX6_tellAsks {g : zG} {I : Nat → Nat → Int32} {P : Nat → Nat → Option Nat} {r : Option Value} {h' : zH} {a0 : Nat} (H : Zt none mX6_tellAsks 0 0 0 [(0, .ref a0)] [] (g, I, P) r h') : Cl mX6_tellAsks [.ref a0] (g, I, P) r h' := Cl.of (by decide) (Nat.le_of_ble_eq_true rfl) H
theorem dX6_tellStones_0 : decode cX6_tellStones 0 = .ok (.aload_n 0, 1) := by decide +kernel
theorem dX6_tellStones_1 : decode cX6_tellStones 1 = .ok (.aload_n 0, 1) := by decide +kernel
theorem dX6_tellStones_2 : decode cX6_tellStones 2 = .ok (.getfield 106, 3) := by decide +kernel
theorem dX6_tellStones_5 : decode cX6_tellStones 5 = .ok (.aload_n 0, 1) := by decide +kernel
theorem dX6_tellStones_6 : decode cX6_tellStones 6 = .ok (.getfield 116, 3) := by decide +kernel
theorem dX6_tellStones_9 : decode cX6_tellStones 9 = .ok (.iconst 1, 1) := by decide +kernel
theorem dX6_tellStones_10 : decode cX6_tellStones 10 = .ok (.iconst 4, 1) := by decide +kernel
theorem dX6_tellStones_11 : decode cX6_tellStones 11 = .ok (.invokevirtual 200, 3) := by decide +kernel
theorem dX6_tellStones_14 : decode cX6_tellStones 14 = .ok (.aload_n 0, 1) := by decide +kernel
theorem dX6_tellStones_15 : decode cX6_tellStones 15 = .ok (.getfield 12, 3) := by decide +kernel
theorem dX6_tellStones_18 : decode cX6_tellStones 18 = .ok (.aload_n 0, 1) := by decide +kernel
theorem dX6_tellStones_19 : decode cX6_tellStones 19 = .ok (.getfield 116, 3) := by decide +kernel
theorem dX6_tellStones_22 : decode cX6_tellStones 22 = .ok (.putfield 248, 3) := by decide +kernel
theorem dX6_tellStones_25 : decode cX6_tellStones 25 = .ok (.return_, 1) := by decide +kernel
set_option maxRecDepth 10000 in
theorem wX6_tellStones_0 {g : zG} {I : Nat → Nat → Int32} {P : Nat → Nat → Option Nat} {r : Option Value} {h' : zH} {a0 : Nat} (H : zk g a0 6 ∧ zk g a0 6 ∧ zk g a0 6 ∧ ∃ (I1 : Nat → Nat → Int32), Cl mX6_needNumber [.ref a0, .int (I a0 10), .int (I a0 12), .int 1, .int 4] (g, I, P) none (g, I1, P) ∧ zk g a0 6 ∧ ∃ b4, P a0 0 = some b4 ∧ zk g a0 6 ∧ zk g b4 3 ∧ r = none ∧ h' = (g, zU I1 b4 0 (I1 a0 12), P)) : Zt none mX6_tellStones 0 0 0 [(0, .ref a0)] [] (g, I, P) r h' := by
  refine z_aload_n 0 dX6_tellStones_0 rfl rfl (z_aload_n 0 dX6_tellStones_1 rfl rfl (z_getI dX6_tellStones_2 wf_X6_106 (by decide) (by decide) rfl H.1 (z_aload_n 0 dX6_tellStones_5 rfl rfl (z_getI dX6_tellStones_6 wf_X6_116 (by decide) (by decide) rfl H.2.1 (z_iconst (w := 1) dX6_tellStones_9 (by decide) (z_iconst (w := 4) dX6_tellStones_10 (by decide) ?_))))))
  obtain ⟨oc2, I1, c2, H3⟩ := H.2.2
  refine z_virt (As := [.int (I a0 10), .int (I a0 12), .int 1, .int 4]) (st := []) (r1 := none) (h1 := (g, I1, P)) dX6_tellStones_11 kX6_needNumber wm_X6_200 ⟨by decide, by decide⟩ rfl rfl (Nat.le_of_ble_eq_true rfl) (by decide) (by decide) oc2 c2 ?_
  refine z_aload_n 0 dX6_tellStones_14 rfl rfl ?_
  obtain ⟨oe6, b4, e6, H5⟩ := H3
  refine z_getP dX6_tellStones_15 wf_X6_12 (by decide) (by decide) rfl oe6 (fun q => (by cases q.symm.trans e6)) (fun j q => ?_)
  cases q.symm.trans e6
  refine z_aload_n 0 dX6_tellStones_18 rfl rfl (z_getI dX6_tellStones_19 wf_X6_116 (by decide) (by decide) rfl H5.1 (z_putI (g := g) (I := I1) (Q := P) dX6_tellStones_22 wf_X6_248 (by decide) (by decide) rfl (Or.inl rfl) (zfit_int rfl) H5.2.1 ?_))
  obtain ⟨rfl, rfl⟩ := H5.2.2
  exact z_vret dX6_tellStones_25 rfl (by decide) (by decide)
theorem eX6_tellStones {g : zG} {I : Nat → Nat → Int32} {P : Nat → Nat → Option Nat} {r : Option Value} {h' : zH} {a0 : Nat} (H : Zt none mX6_tellStones 0 0 0 [(0, .ref a0)] [] (g, I, P) r h') : Cl mX6_tellStones [.ref a0] (g, I, P) r h' := Cl.of (by decide) (Nat.le_of_ble_eq_true rfl) H
theorem dX6_tellDeed_0 : decode cX6_tellDeed 0 = .ok (.aload_n 0, 1) := by decide +kernel
theorem dX6_tellDeed_1 : decode cX6_tellDeed 1 = .ok (.aload_n 0, 1) := by decide +kernel
theorem dX6_tellDeed_2 : decode cX6_tellDeed 2 = .ok (.getfield 21, 3) := by decide +kernel
theorem dX6_tellDeed_5 : decode cX6_tellDeed 5 = .ok (.getfield 64, 3) := by decide +kernel
theorem dX6_tellDeed_8 : decode cX6_tellDeed 8 = .ok (.bipush 40, 2) := by decide +kernel
theorem dX6_tellDeed_10 : decode cX6_tellDeed 10 = .ok (.invokevirtual 192, 3) := by decide +kernel
theorem dX6_tellDeed_13 : decode cX6_tellDeed 13 = .ok (.istore_n 2, 1) := by decide +kernel
theorem dX6_tellDeed_14 : decode cX6_tellDeed 14 = .ok (.aload_n 0, 1) := by decide +kernel
theorem dX6_tellDeed_15 : decode cX6_tellDeed 15 = .ok (.aload_n 0, 1) := by decide +kernel
theorem dX6_tellDeed_16 : decode cX6_tellDeed 16 = .ok (.getfield 106, 3) := by decide +kernel
theorem dX6_tellDeed_19 : decode cX6_tellDeed 19 = .ok (.aload_n 0, 1) := by decide +kernel
theorem dX6_tellDeed_20 : decode cX6_tellDeed 20 = .ok (.getfield 116, 3) := by decide +kernel
theorem dX6_tellDeed_23 : decode cX6_tellDeed 23 = .ok (.iconst 0, 1) := by decide +kernel
theorem dX6_tellDeed_24 : decode cX6_tellDeed 24 = .ok (.iconst 3, 1) := by decide +kernel
theorem dX6_tellDeed_25 : decode cX6_tellDeed 25 = .ok (.invokevirtual 200, 3) := by decide +kernel
theorem dX6_tellDeed_28 : decode cX6_tellDeed 28 = .ok (.iload_n 1, 1) := by decide +kernel
theorem dX6_tellDeed_29 : decode cX6_tellDeed 29 = .ok (.ifCond .eq 16, 3) := by decide +kernel
theorem dX6_tellDeed_32 : decode cX6_tellDeed 32 = .ok (.aload_n 0, 1) := by decide +kernel
theorem dX6_tellDeed_33 : decode cX6_tellDeed 33 = .ok (.aload_n 0, 1) := by decide +kernel
theorem dX6_tellDeed_34 : decode cX6_tellDeed 34 = .ok (.getfield 119, 3) := by decide +kernel
theorem dX6_tellDeed_37 : decode cX6_tellDeed 37 = .ok (.aload_n 0, 1) := by decide +kernel
theorem dX6_tellDeed_38 : decode cX6_tellDeed 38 = .ok (.getfield 122, 3) := by decide +kernel
theorem dX6_tellDeed_41 : decode cX6_tellDeed 41 = .ok (.iconst 1, 1) := by decide +kernel
theorem dX6_tellDeed_42 : decode cX6_tellDeed 42 = .ok (.invokevirtual 196, 3) := by decide +kernel
theorem dX6_tellDeed_45 : decode cX6_tellDeed 45 = .ok (.iload_n 2, 1) := by decide +kernel
theorem dX6_tellDeed_46 : decode cX6_tellDeed 46 = .ok (.ifCond .ne 4, 3) := by decide +kernel
theorem dX6_tellDeed_49 : decode cX6_tellDeed 49 = .ok (.return_, 1) := by decide +kernel
theorem dX6_tellDeed_50 : decode cX6_tellDeed 50 = .ok (.aload_n 0, 1) := by decide +kernel
theorem dX6_tellDeed_51 : decode cX6_tellDeed 51 = .ok (.getfield 21, 3) := by decide +kernel
theorem dX6_tellDeed_54 : decode cX6_tellDeed 54 = .ok (.getfield 250, 3) := by decide +kernel
theorem dX6_tellDeed_57 : decode cX6_tellDeed 57 = .ok (.aload_n 0, 1) := by decide +kernel
theorem dX6_tellDeed_58 : decode cX6_tellDeed 58 = .ok (.getfield 21, 3) := by decide +kernel
theorem dX6_tellDeed_61 : decode cX6_tellDeed 61 = .ok (.getfield 64, 3) := by decide +kernel
theorem dX6_tellDeed_64 : decode cX6_tellDeed 64 = .ok (.aload_n 0, 1) := by decide +kernel
theorem dX6_tellDeed_65 : decode cX6_tellDeed 65 = .ok (.getfield 154, 3) := by decide +kernel
theorem dX6_tellDeed_68 : decode cX6_tellDeed 68 = .ok (.invokestatic 213, 3) := by decide +kernel
theorem dX6_tellDeed_71 : decode cX6_tellDeed 71 = .ok (.aload_n 0, 1) := by decide +kernel
theorem dX6_tellDeed_72 : decode cX6_tellDeed 72 = .ok (.getfield 21, 3) := by decide +kernel
theorem dX6_tellDeed_75 : decode cX6_tellDeed 75 = .ok (.getfield 253, 3) := by decide +kernel
theorem dX6_tellDeed_78 : decode cX6_tellDeed 78 = .ok (.aload_n 0, 1) := by decide +kernel
theorem dX6_tellDeed_79 : decode cX6_tellDeed 79 = .ok (.getfield 21, 3) := by decide +kernel
theorem dX6_tellDeed_82 : decode cX6_tellDeed 82 = .ok (.getfield 64, 3) := by decide +kernel
theorem dX6_tellDeed_85 : decode cX6_tellDeed 85 = .ok (.aload_n 0, 1) := by decide +kernel
theorem dX6_tellDeed_86 : decode cX6_tellDeed 86 = .ok (.getfield 116, 3) := by decide +kernel
theorem dX6_tellDeed_89 : decode cX6_tellDeed 89 = .ok (.invokestatic 213, 3) := by decide +kernel
theorem dX6_tellDeed_92 : decode cX6_tellDeed 92 = .ok (.aload_n 0, 1) := by decide +kernel
theorem dX6_tellDeed_93 : decode cX6_tellDeed 93 = .ok (.getfield 21, 3) := by decide +kernel
theorem dX6_tellDeed_96 : decode cX6_tellDeed 96 = .ok (.getfield 255, 3) := by decide +kernel
theorem dX6_tellDeed_99 : decode cX6_tellDeed 99 = .ok (.aload_n 0, 1) := by decide +kernel
theorem dX6_tellDeed_100 : decode cX6_tellDeed 100 = .ok (.getfield 21, 3) := by decide +kernel
theorem dX6_tellDeed_103 : decode cX6_tellDeed 103 = .ok (.getfield 64, 3) := by decide +kernel
theorem dX6_tellDeed_106 : decode cX6_tellDeed 106 = .ok (.iload_n 1, 1) := by decide +kernel
theorem dX6_tellDeed_107 : decode cX6_tellDeed 107 = .ok (.ifCond .eq 14, 3) := by decide +kernel
theorem dX6_tellDeed_110 : decode cX6_tellDeed 110 = .ok (.aload_n 0, 1) := by decide +kernel
theorem dX6_tellDeed_111 : decode cX6_tellDeed 111 = .ok (.aload_n 0, 1) := by decide +kernel
theorem dX6_tellDeed_112 : decode cX6_tellDeed 112 = .ok (.getfield 119, 3) := by decide +kernel
theorem dX6_tellDeed_115 : decode cX6_tellDeed 115 = .ok (.invokevirtual 223, 3) := by decide +kernel
theorem dX6_tellDeed_118 : decode cX6_tellDeed 118 = .ok (.goto 4, 3) := by decide +kernel
theorem dX6_tellDeed_121 : decode cX6_tellDeed 121 = .ok (.iconst (-1), 1) := by decide +kernel
theorem dX6_tellDeed_122 : decode cX6_tellDeed 122 = .ok (.invokestatic 213, 3) := by decide +kernel
theorem dX6_tellDeed_125 : decode cX6_tellDeed 125 = .ok (.aload_n 0, 1) := by decide +kernel
theorem dX6_tellDeed_126 : decode cX6_tellDeed 126 = .ok (.getfield 21, 3) := by decide +kernel
theorem dX6_tellDeed_129 : decode cX6_tellDeed 129 = .ok (.dup, 1) := by decide +kernel
theorem dX6_tellDeed_130 : decode cX6_tellDeed 130 = .ok (.getfield 64, 3) := by decide +kernel
theorem dX6_tellDeed_133 : decode cX6_tellDeed 133 = .ok (.iconst 1, 1) := by decide +kernel
theorem dX6_tellDeed_134 : decode cX6_tellDeed 134 = .ok (.iadd, 1) := by decide +kernel
theorem dX6_tellDeed_135 : decode cX6_tellDeed 135 = .ok (.putfield 64, 3) := by decide +kernel
theorem dX6_tellDeed_138 : decode cX6_tellDeed 138 = .ok (.return_, 1) := by decide +kernel
set_option maxRecDepth 10000 in
theorem wX6_tellDeed_0 {g : zG} {I : Nat → Nat → Int32} {P : Nat → Nat → Option Nat} {r : Option Value} {h' : zH} {a0 : Nat} {x1 : Int32} (H : zk g a0 6 ∧ ∃ b1, P a0 1 = some b1 ∧ zk g b1 0 ∧ zk g a0 6 ∧ ∃ (w4 : Int32) (I5 : Nat → Nat → Int32), Cl mX6_needRoom [.ref a0, .int (I b1 0), .int 40] (g, I, P) (some (.int w4)) (g, I5, P) ∧ zk g a0 6 ∧ zk g a0 6 ∧ zk g a0 6 ∧ ∃ (I8 : Nat → Nat → Int32), Cl mX6_needNumber [.ref a0, .int (I5 a0 10), .int (I5 a0 12), .int 0, .int 3] (g, I5, P) none (g, I8, P) ∧ ((x1 = 0) → Zt none mX6_tellDeed 0 0 45 [(0, .ref a0), (1, .int x1), (2, .int w4)] [] (g, I8, P) r h') ∧ ((¬ x1 = 0) → zk g a0 6 ∧ zk g a0 6 ∧ zk g a0 6 ∧ ∃ (I13 : Nat → Nat → Int32), Cl mX6_needRow [.ref a0, .int (I8 a0 13), .int (I8 a0 14), .int 1] (g, I8, P) none (g, I13, P) ∧ Zt none mX6_tellDeed 0 0 45 [(0, .ref a0), (1, .int x1), (2, .int w4)] [] (g, I13, P) r h')) : Zt none mX6_tellDeed 0 0 0 [(0, .ref a0), (1, .int x1)] [] (g, I, P) r h' := by
  refine z_aload_n 0 dX6_tellDeed_0 rfl rfl (z_aload_n 0 dX6_tellDeed_1 rfl rfl ?_)
  obtain ⟨oe3, b1, e3, H2⟩ := H
  refine z_getP dX6_tellDeed_2 wf_X6_21 (by decide) (by decide) rfl oe3 (fun q => (by cases q.symm.trans e3)) (fun j q => ?_)
  cases q.symm.trans e3
  refine z_getI dX6_tellDeed_5 wf_X6_64 (by decide) (by decide) rfl H2.1 (z_bipush (w := 40) dX6_tellDeed_8 (by decide) ?_)
  obtain ⟨oc6, w4, I5, c6, H7⟩ := H2.2
  refine z_virt (As := [.int (I b1 0), .int 40]) (st := []) (r1 := (some (.int w4))) (h1 := (g, I5, P)) dX6_tellDeed_10 kX6_needRoom wm_X6_192 ⟨by decide, by decide⟩ rfl rfl (Nat.le_of_ble_eq_true rfl) (by decide) (by decide) oc6 c6 ?_
  refine z_istore_n (lv' := [(2, .int w4), (0, .ref a0), (1, .int x1)]) dX6_tellDeed_13 (by decide) rfl (z_aload_n 1 dX6_tellDeed_14 rfl rfl (z_aload_n 1 dX6_tellDeed_15 rfl rfl (z_getI dX6_tellDeed_16 wf_X6_106 (by decide) (by decide) rfl H7.1 (z_aload_n 1 dX6_tellDeed_19 rfl rfl (z_getI dX6_tellDeed_20 wf_X6_116 (by decide) (by decide) rfl H7.2.1 (z_iconst (w := 0) dX6_tellDeed_23 (by decide) (z_iconst (w := 3) dX6_tellDeed_24 (by decide) ?_)))))))
  obtain ⟨oc9, I8, c9, H10⟩ := H7.2.2
  refine z_virt (As := [.int (I5 a0 10), .int (I5 a0 12), .int 0, .int 3]) (st := []) (r1 := none) (h1 := (g, I8, P)) dX6_tellDeed_25 kX6_needNumber wm_X6_200 ⟨by decide, by decide⟩ rfl rfl (Nat.le_of_ble_eq_true rfl) (by decide) (by decide) oc9 c9 ?_
  refine z_iload_n 2 dX6_tellDeed_28 rfl ?_
  refine z_if_eq (t := 45) dX6_tellDeed_29 (by decide) (fun q => ?_) (fun q => ?_)
  · have H11 := H10.1 q
    exact z_less [1, 2, 0] rfl H11
  · have H12 := H10.2 q
    refine z_aload_n 1 dX6_tellDeed_32 rfl rfl (z_aload_n 1 dX6_tellDeed_33 rfl rfl (z_getI dX6_tellDeed_34 wf_X6_119 (by decide) (by decide) rfl H12.1 (z_aload_n 1 dX6_tellDeed_37 rfl rfl (z_getI dX6_tellDeed_38 wf_X6_122 (by decide) (by decide) rfl H12.2.1 (z_iconst (w := 1) dX6_tellDeed_41 (by decide) ?_)))))
    obtain ⟨oc14, I13, c14, H15⟩ := H12.2.2
    refine z_virt (As := [.int (I8 a0 13), .int (I8 a0 14), .int 1]) (st := []) (r1 := none) (h1 := (g, I13, P)) dX6_tellDeed_42 kX6_needRow wm_X6_196 ⟨by decide, by decide⟩ rfl rfl (Nat.le_of_ble_eq_true rfl) (by decide) (by decide) oc14 c14 ?_
    exact z_less [1, 2, 0] rfl H15
theorem eX6_tellDeed {g : zG} {I : Nat → Nat → Int32} {P : Nat → Nat → Option Nat} {r : Option Value} {h' : zH} {a0 : Nat} {x1 : Int32} (H : Zt none mX6_tellDeed 0 0 0 [(0, .ref a0), (1, .int x1)] [] (g, I, P) r h') : Cl mX6_tellDeed [.ref a0, .int x1] (g, I, P) r h' := Cl.of (by decide) (Nat.le_of_ble_eq_true rfl) H
set_option maxRecDepth 10000 in
theorem wX6_tellDeed_45 {g : zG} {I : Nat → Nat → Int32} {P : Nat → Nat → Option Nat} {r : Option Value} {h' : zH} {a0 : Nat} {x1 : Int32} {x2 : Int32} (H : ((¬ x2 = 0) → zk g a0 6 ∧ ∃ b2, P a0 1 = some b2 ∧ zk g b2 0 ∧ ∃ b5, P b2 1 = some b5 ∧ zk g a0 6 ∧ ∃ b8, P a0 1 = some b8 ∧ zk g b8 0 ∧ zk g a0 6 ∧ ∃ (I11 : Nat → Nat → Int32), Cl mX11_put [.ref b5, .int (I b8 0), .int (I a0 9)] (g, I, P) none (g, I11, P) ∧ zk g a0 6 ∧ ∃ b14, P a0 1 = some b14 ∧ zk g b14 0 ∧ ∃ b17, P b14 2 = some b17 ∧ zk g a0 6 ∧ ∃ b20, P a0 1 = some b20 ∧ zk g b20 0 ∧ zk g a0 6 ∧ ∃ (I23 : Nat → Nat → Int32), Cl mX11_put [.ref b17, .int (I11 b20 0), .int (I11 a0 12)] (g, I11, P) none (g, I23, P) ∧ zk g a0 6 ∧ ∃ b26, P a0 1 = some b26 ∧ zk g b26 0 ∧ ∃ b29, P b26 3 = some b29 ∧ zk g a0 6 ∧ ∃ b32, P a0 1 = some b32 ∧ zk g b32 0 ∧ ((x1 = 0) → ∃ (I36 : Nat → Nat → Int32), Cl mX11_put [.ref b29, .int (I23 b32 0), .int (-1)] (g, I23, P) none (g, I36, P) ∧ zk g a0 6 ∧ ∃ b39, P a0 1 = some b39 ∧ zk g b39 0 ∧ zk g b39 0 ∧ r = none ∧ h' = (g, zU I36 b39 0 ((I36 b39 0) + 1), P)) ∧ ((¬ x1 = 0) → zk g a0 6 ∧ zk g a0 6 ∧ ∃ (w43 : Int32), Cl mX6_letterAt [.ref a0, .int (I23 a0 13)] (g, I23, P) (some (.int w43)) (g, I23, P) ∧ ∃ (I46 : Nat → Nat → Int32), Cl mX11_put [.ref b29, .int (I23 b32 0), .int w43] (g, I23, P) none (g, I46, P) ∧ zk g a0 6 ∧ ∃ b49, P a0 1 = some b49 ∧ zk g b49 0 ∧ zk g b49 0 ∧ r = none ∧ h' = (g, zU I46 b49 0 ((I46 b49 0) + 1), P))) ∧ ((x2 = 0) → r = none ∧ h' = (g, I, P))) : Zt none mX6_tellDeed 0 0 45 [(0, .ref a0), (1, .int x1), (2, .int x2)] [] (g, I, P) r h' := by
  refine z_iload_n 2 dX6_tellDeed_45 rfl ?_
  refine z_if_ne (t := 50) dX6_tellDeed_46 (by decide) (fun q => ?_) (fun q => ?_)
  · have H1 := H.1 q
    refine z_aload_n 0 dX6_tellDeed_50 rfl rfl ?_
    obtain ⟨oe4, b2, e4, H3⟩ := H1
    refine z_getP dX6_tellDeed_51 wf_X6_21 (by decide) (by decide) rfl oe4 (fun q => (by cases q.symm.trans e4)) (fun j q => ?_)
    cases q.symm.trans e4
    obtain ⟨oe7, b5, e7, H6⟩ := H3
    refine z_getP dX6_tellDeed_54 wf_X6_250 (by decide) (by decide) rfl oe7 (fun q => (by cases q.symm.trans e7)) (fun j q => ?_)
    cases q.symm.trans e7
    refine z_aload_n 0 dX6_tellDeed_57 rfl rfl ?_
    obtain ⟨oe10, b8, e10, H9⟩ := H6
    refine z_getP dX6_tellDeed_58 wf_X6_21 (by decide) (by decide) rfl oe10 (fun q => (by cases q.symm.trans e10)) (fun j q => ?_)
    cases q.symm.trans e10
    refine z_getI dX6_tellDeed_61 wf_X6_64 (by decide) (by decide) rfl H9.1 (z_aload_n 0 dX6_tellDeed_64 rfl rfl (z_getI dX6_tellDeed_65 wf_X6_154 (by decide) (by decide) rfl H9.2.1 ?_))
    obtain ⟨I11, c12, H13⟩ := H9.2.2
    refine z_stat (As := [.ref b5, .int (I b8 0), .int (I a0 9)]) (st := []) (r1 := none) (h1 := (g, I11, P)) dX6_tellDeed_68 kX11_put wm_X6_213 ⟨by decide, by decide⟩ rfl rfl (Nat.le_of_ble_eq_true rfl) (by decide) (by decide) c12 ?_
    refine z_aload_n 0 dX6_tellDeed_71 rfl rfl ?_
    obtain ⟨oe16, b14, e16, H15⟩ := H13
    refine z_getP dX6_tellDeed_72 wf_X6_21 (by decide) (by decide) rfl oe16 (fun q => (by cases q.symm.trans e16)) (fun j q => ?_)
    cases q.symm.trans e16
    obtain ⟨oe19, b17, e19, H18⟩ := H15
    refine z_getP dX6_tellDeed_75 wf_X6_253 (by decide) (by decide) rfl oe19 (fun q => (by cases q.symm.trans e19)) (fun j q => ?_)
    cases q.symm.trans e19
    refine z_aload_n 0 dX6_tellDeed_78 rfl rfl ?_
    obtain ⟨oe22, b20, e22, H21⟩ := H18
    refine z_getP dX6_tellDeed_79 wf_X6_21 (by decide) (by decide) rfl oe22 (fun q => (by cases q.symm.trans e22)) (fun j q => ?_)
    cases q.symm.trans e22
    refine z_getI dX6_tellDeed_82 wf_X6_64 (by decide) (by decide) rfl H21.1 (z_aload_n 0 dX6_tellDeed_85 rfl rfl (z_getI dX6_tellDeed_86 wf_X6_116 (by decide) (by decide) rfl H21.2.1 ?_))
    obtain ⟨I23, c24, H25⟩ := H21.2.2
    refine z_stat (As := [.ref b17, .int (I11 b20 0), .int (I11 a0 12)]) (st := []) (r1 := none) (h1 := (g, I23, P)) dX6_tellDeed_89 kX11_put wm_X6_213 ⟨by decide, by decide⟩ rfl rfl (Nat.le_of_ble_eq_true rfl) (by decide) (by decide) c24 ?_
    refine z_aload_n 0 dX6_tellDeed_92 rfl rfl ?_
    obtain ⟨oe28, b26, e28, H27⟩ := H25
    refine z_getP dX6_tellDeed_93 wf_X6_21 (by decide) (by decide) rfl oe28 (fun q => (by cases q.symm.trans e28)) (fun j q => ?_)
    cases q.symm.trans e28
    obtain ⟨oe31, b29, e31, H30⟩ := H27
    refine z_getP dX6_tellDeed_96 wf_X6_255 (by decide) (by decide) rfl oe31 (fun q => (by cases q.symm.trans e31)) (fun j q => ?_)
    cases q.symm.trans e31
    refine z_aload_n 0 dX6_tellDeed_99 rfl rfl ?_
    obtain ⟨oe34, b32, e34, H33⟩ := H30
    refine z_getP dX6_tellDeed_100 wf_X6_21 (by decide) (by decide) rfl oe34 (fun q => (by cases q.symm.trans e34)) (fun j q => ?_)
    cases q.symm.trans e34
    refine z_getI dX6_tellDeed_103 wf_X6_64 (by decide) (by decide) rfl H33.1 (z_iload_n 1 dX6_tellDeed_106 rfl ?_)
    refine z_if_eq (t := 121) dX6_tellDeed_107 (by decide) (fun q => ?_) (fun q => ?_)
    · have H35 := H33.2.1 q
      refine z_iconst (w := (-1)) dX6_tellDeed_121 (by decide) ?_
      obtain ⟨I36, c37, H38⟩ := H35
      refine z_stat (As := [.ref b29, .int (I23 b32 0), .int (-1)]) (st := []) (r1 := none) (h1 := (g, I36, P)) dX6_tellDeed_122 kX11_put wm_X6_213 ⟨by decide, by decide⟩ rfl rfl (Nat.le_of_ble_eq_true rfl) (by decide) (by decide) c37 ?_
      refine z_aload_n 0 dX6_tellDeed_125 rfl rfl ?_
      obtain ⟨oe41, b39, e41, H40⟩ := H38
      refine z_getP dX6_tellDeed_126 wf_X6_21 (by decide) (by decide) rfl oe41 (fun q => (by cases q.symm.trans e41)) (fun j q => ?_)
      cases q.symm.trans e41
      refine z_dup dX6_tellDeed_129 rfl (z_getI dX6_tellDeed_130 wf_X6_64 (by decide) (by decide) rfl H40.1 (z_iconst (w := 1) dX6_tellDeed_133 (by decide) (z_iadd dX6_tellDeed_134 (z_putI (g := g) (I := I36) (Q := P) dX6_tellDeed_135 wf_X6_64 (by decide) (by decide) rfl (Or.inl rfl) (zfit_int rfl) H40.2.1 ?_))))
      obtain ⟨rfl, rfl⟩ := H40.2.2
      exact z_vret dX6_tellDeed_138 rfl (by decide) (by decide)
    · have H42 := H33.2.2 q
      refine z_aload_n 0 dX6_tellDeed_110 rfl rfl (z_aload_n 0 dX6_tellDeed_111 rfl rfl (z_getI dX6_tellDeed_112 wf_X6_119 (by decide) (by decide) rfl H42.1 ?_))
      obtain ⟨oc44, w43, c44, H45⟩ := H42.2
      refine z_virt (As := [.int (I23 a0 13)]) (st := [.int (I23 b32 0), .ref b29]) (r1 := (some (.int w43))) (h1 := (g, I23, P)) dX6_tellDeed_115 kX6_letterAt wm_X6_223 ⟨by decide, by decide⟩ rfl rfl (Nat.le_of_ble_eq_true rfl) (by decide) (by decide) oc44 c44 ?_
      refine z_goto (t := 122) dX6_tellDeed_118 (by decide) ?_
      obtain ⟨I46, c47, H48⟩ := H45
      refine z_stat (As := [.ref b29, .int (I23 b32 0), .int w43]) (st := []) (r1 := none) (h1 := (g, I46, P)) dX6_tellDeed_122 kX11_put wm_X6_213 ⟨by decide, by decide⟩ rfl rfl (Nat.le_of_ble_eq_true rfl) (by decide) (by decide) c47 ?_
      refine z_aload_n 0 dX6_tellDeed_125 rfl rfl ?_
      obtain ⟨oe51, b49, e51, H50⟩ := H48
      refine z_getP dX6_tellDeed_126 wf_X6_21 (by decide) (by decide) rfl oe51 (fun q => (by cases q.symm.trans e51)) (fun j q => ?_)
      cases q.symm.trans e51
      refine z_dup dX6_tellDeed_129 rfl (z_getI dX6_tellDeed_130 wf_X6_64 (by decide) (by decide) rfl H50.1 (z_iconst (w := 1) dX6_tellDeed_133 (by decide) (z_iadd dX6_tellDeed_134 (z_putI (g := g) (I := I46) (Q := P) dX6_tellDeed_135 wf_X6_64 (by decide) (by decide) rfl (Or.inl rfl) (zfit_int rfl) H50.2.1 ?_))))
      obtain ⟨rfl, rfl⟩ := H50.2.2
      exact z_vret dX6_tellDeed_138 rfl (by decide) (by decide)
  · have H52 := H.2 q
    obtain ⟨rfl, rfl⟩ := H52
    exact z_vret dX6_tellDeed_49 rfl (by decide) (by decide)
theorem dX6_tellLine_0 : decode cX6_tellLine 0 = .ok (.aload_n 0, 1) := by decide +kernel
theorem dX6_tellLine_1 : decode cX6_tellLine 1 = .ok (.aload_n 0, 1) := by decide +kernel
theorem dX6_tellLine_2 : decode cX6_tellLine 2 = .ok (.getfield 28, 3) := by decide +kernel
theorem dX6_tellLine_5 : decode cX6_tellLine 5 = .ok (.getfield 67, 3) := by decide +kernel
theorem dX6_tellLine_8 : decode cX6_tellLine 8 = .ok (.bipush 6, 2) := by decide +kernel
theorem dX6_tellLine_10 : decode cX6_tellLine 10 = .ok (.invokevirtual 192, 3) := by decide +kernel
theorem dX6_tellLine_13 : decode cX6_tellLine 13 = .ok (.istore_n 1, 1) := by decide +kernel
theorem dX6_tellLine_14 : decode cX6_tellLine 14 = .ok (.aload_n 0, 1) := by decide +kernel
theorem dX6_tellLine_15 : decode cX6_tellLine 15 = .ok (.aload_n 0, 1) := by decide +kernel
theorem dX6_tellLine_16 : decode cX6_tellLine 16 = .ok (.getfield 106, 3) := by decide +kernel
theorem dX6_tellLine_19 : decode cX6_tellLine 19 = .ok (.aload_n 0, 1) := by decide +kernel
theorem dX6_tellLine_20 : decode cX6_tellLine 20 = .ok (.getfield 110, 3) := by decide +kernel
theorem dX6_tellLine_23 : decode cX6_tellLine 23 = .ok (.bipush 12, 2) := by decide +kernel
theorem dX6_tellLine_25 : decode cX6_tellLine 25 = .ok (.invokevirtual 196, 3) := by decide +kernel
theorem dX6_tellLine_28 : decode cX6_tellLine 28 = .ok (.iload_n 1, 1) := by decide +kernel
theorem dX6_tellLine_29 : decode cX6_tellLine 29 = .ok (.ifCond .ne 4, 3) := by decide +kernel
theorem dX6_tellLine_32 : decode cX6_tellLine 32 = .ok (.return_, 1) := by decide +kernel
theorem dX6_tellLine_33 : decode cX6_tellLine 33 = .ok (.aload_n 0, 1) := by decide +kernel
theorem dX6_tellLine_34 : decode cX6_tellLine 34 = .ok (.getfield 28, 3) := by decide +kernel
theorem dX6_tellLine_37 : decode cX6_tellLine 37 = .ok (.getfield 256, 3) := by decide +kernel
theorem dX6_tellLine_40 : decode cX6_tellLine 40 = .ok (.aload_n 0, 1) := by decide +kernel
theorem dX6_tellLine_41 : decode cX6_tellLine 41 = .ok (.getfield 28, 3) := by decide +kernel
theorem dX6_tellLine_44 : decode cX6_tellLine 44 = .ok (.getfield 67, 3) := by decide +kernel
theorem dX6_tellLine_47 : decode cX6_tellLine 47 = .ok (.aload_n 0, 1) := by decide +kernel
theorem dX6_tellLine_48 : decode cX6_tellLine 48 = .ok (.getfield 110, 3) := by decide +kernel
theorem dX6_tellLine_51 : decode cX6_tellLine 51 = .ok (.bipush 12, 2) := by decide +kernel
theorem dX6_tellLine_53 : decode cX6_tellLine 53 = .ok (.invokestatic 207, 3) := by decide +kernel
theorem dX6_tellLine_56 : decode cX6_tellLine 56 = .ok (.invokestatic 213, 3) := by decide +kernel
theorem dX6_tellLine_59 : decode cX6_tellLine 59 = .ok (.iconst 0, 1) := by decide +kernel
theorem dX6_tellLine_60 : decode cX6_tellLine 60 = .ok (.istore_n 2, 1) := by decide +kernel
theorem dX6_tellLine_61 : decode cX6_tellLine 61 = .ok (.iload_n 2, 1) := by decide +kernel
theorem dX6_tellLine_62 : decode cX6_tellLine 62 = .ok (.aload_n 0, 1) := by decide +kernel
theorem dX6_tellLine_63 : decode cX6_tellLine 63 = .ok (.getfield 110, 3) := by decide +kernel
theorem dX6_tellLine_66 : decode cX6_tellLine 66 = .ok (.if_icmp .ge 47, 3) := by decide +kernel
theorem dX6_tellLine_69 : decode cX6_tellLine 69 = .ok (.iload_n 2, 1) := by decide +kernel
theorem dX6_tellLine_70 : decode cX6_tellLine 70 = .ok (.bipush 12, 2) := by decide +kernel
theorem dX6_tellLine_72 : decode cX6_tellLine 72 = .ok (.if_icmp .ge 41, 3) := by decide +kernel
theorem dX6_tellLine_75 : decode cX6_tellLine 75 = .ok (.aload_n 0, 1) := by decide +kernel
theorem dX6_tellLine_76 : decode cX6_tellLine 76 = .ok (.getfield 28, 3) := by decide +kernel
theorem dX6_tellLine_79 : decode cX6_tellLine 79 = .ok (.getfield 257, 3) := by decide +kernel
theorem dX6_tellLine_82 : decode cX6_tellLine 82 = .ok (.aload_n 0, 1) := by decide +kernel
theorem dX6_tellLine_83 : decode cX6_tellLine 83 = .ok (.getfield 28, 3) := by decide +kernel
theorem dX6_tellLine_86 : decode cX6_tellLine 86 = .ok (.getfield 67, 3) := by decide +kernel
theorem dX6_tellLine_89 : decode cX6_tellLine 89 = .ok (.bipush 12, 2) := by decide +kernel
theorem dX6_tellLine_91 : decode cX6_tellLine 91 = .ok (.imul, 1) := by decide +kernel
theorem dX6_tellLine_92 : decode cX6_tellLine 92 = .ok (.iload_n 2, 1) := by decide +kernel
theorem dX6_tellLine_93 : decode cX6_tellLine 93 = .ok (.iadd, 1) := by decide +kernel
theorem dX6_tellLine_94 : decode cX6_tellLine 94 = .ok (.aload_n 0, 1) := by decide +kernel
theorem dX6_tellLine_95 : decode cX6_tellLine 95 = .ok (.aload_n 0, 1) := by decide +kernel
theorem dX6_tellLine_96 : decode cX6_tellLine 96 = .ok (.getfield 106, 3) := by decide +kernel
theorem dX6_tellLine_99 : decode cX6_tellLine 99 = .ok (.iload_n 2, 1) := by decide +kernel
theorem dX6_tellLine_100 : decode cX6_tellLine 100 = .ok (.iadd, 1) := by decide +kernel
theorem dX6_tellLine_101 : decode cX6_tellLine 101 = .ok (.invokevirtual 223, 3) := by decide +kernel
theorem dX6_tellLine_104 : decode cX6_tellLine 104 = .ok (.invokestatic 213, 3) := by decide +kernel
theorem dX6_tellLine_107 : decode cX6_tellLine 107 = .ok (.iinc 2 1, 3) := by decide +kernel
theorem dX6_tellLine_110 : decode cX6_tellLine 110 = .ok (.goto (-49), 3) := by decide +kernel
theorem dX6_tellLine_113 : decode cX6_tellLine 113 = .ok (.aload_n 0, 1) := by decide +kernel
theorem dX6_tellLine_114 : decode cX6_tellLine 114 = .ok (.getfield 28, 3) := by decide +kernel
theorem dX6_tellLine_117 : decode cX6_tellLine 117 = .ok (.dup, 1) := by decide +kernel
theorem dX6_tellLine_118 : decode cX6_tellLine 118 = .ok (.getfield 67, 3) := by decide +kernel
theorem dX6_tellLine_121 : decode cX6_tellLine 121 = .ok (.iconst 1, 1) := by decide +kernel
theorem dX6_tellLine_122 : decode cX6_tellLine 122 = .ok (.iadd, 1) := by decide +kernel
theorem dX6_tellLine_123 : decode cX6_tellLine 123 = .ok (.putfield 67, 3) := by decide +kernel
theorem dX6_tellLine_126 : decode cX6_tellLine 126 = .ok (.return_, 1) := by decide +kernel
set_option maxRecDepth 10000 in
theorem wX6_tellLine_0 {g : zG} {I : Nat → Nat → Int32} {P : Nat → Nat → Option Nat} {r : Option Value} {h' : zH} {a0 : Nat} (H : zk g a0 6 ∧ ∃ b1, P a0 2 = some b1 ∧ zk g b1 4 ∧ zk g a0 6 ∧ ∃ (w4 : Int32) (I5 : Nat → Nat → Int32), Cl mX6_needRoom [.ref a0, .int (I b1 0), .int 6] (g, I, P) (some (.int w4)) (g, I5, P) ∧ zk g a0 6 ∧ zk g a0 6 ∧ zk g a0 6 ∧ ∃ (I8 : Nat → Nat → Int32), Cl mX6_needRow [.ref a0, .int (I5 a0 10), .int (I5 a0 11), .int 12] (g, I5, P) none (g, I8, P) ∧ ((¬ w4 = 0) → zk g a0 6 ∧ ∃ b12, P a0 2 = some b12 ∧ zk g b12 4 ∧ ∃ b15, P b12 1 = some b15 ∧ zk g a0 6 ∧ ∃ b18, P a0 2 = some b18 ∧ zk g b18 4 ∧ zk g a0 6 ∧ ∃ (I21 : Nat → Nat → Int32), Cl mX11_put [.ref b15, .int (I8 b18 0), .int (zmmin (I8 a0 11) 12)] (g, I8, P) none (g, I21, P) ∧ Zt none mX6_tellLine 0 0 61 [(0, .ref a0), (2, .int 0)] [] (g, I21, P) r h') ∧ ((w4 = 0) → r = none ∧ h' = (g, I8, P))) : Zt none mX6_tellLine 0 0 0 [(0, .ref a0)] [] (g, I, P) r h' := by
  refine z_aload_n 0 dX6_tellLine_0 rfl rfl (z_aload_n 0 dX6_tellLine_1 rfl rfl ?_)
  obtain ⟨oe3, b1, e3, H2⟩ := H
  refine z_getP dX6_tellLine_2 wf_X6_28 (by decide) (by decide) rfl oe3 (fun q => (by cases q.symm.trans e3)) (fun j q => ?_)
  cases q.symm.trans e3
  refine z_getI dX6_tellLine_5 wf_X6_67 (by decide) (by decide) rfl H2.1 (z_bipush (w := 6) dX6_tellLine_8 (by decide) ?_)
  obtain ⟨oc6, w4, I5, c6, H7⟩ := H2.2
  refine z_virt (As := [.int (I b1 0), .int 6]) (st := []) (r1 := (some (.int w4))) (h1 := (g, I5, P)) dX6_tellLine_10 kX6_needRoom wm_X6_192 ⟨by decide, by decide⟩ rfl rfl (Nat.le_of_ble_eq_true rfl) (by decide) (by decide) oc6 c6 ?_
  refine z_istore_n (lv' := [(1, .int w4), (0, .ref a0)]) dX6_tellLine_13 (by decide) rfl (z_aload_n 1 dX6_tellLine_14 rfl rfl (z_aload_n 1 dX6_tellLine_15 rfl rfl (z_getI dX6_tellLine_16 wf_X6_106 (by decide) (by decide) rfl H7.1 (z_aload_n 1 dX6_tellLine_19 rfl rfl (z_getI dX6_tellLine_20 wf_X6_110 (by decide) (by decide) rfl H7.2.1 (z_bipush (w := 12) dX6_tellLine_23 (by decide) ?_))))))
  obtain ⟨oc9, I8, c9, H10⟩ := H7.2.2
  refine z_virt (As := [.int (I5 a0 10), .int (I5 a0 11), .int 12]) (st := []) (r1 := none) (h1 := (g, I8, P)) dX6_tellLine_25 kX6_needRow wm_X6_196 ⟨by decide, by decide⟩ rfl rfl (Nat.le_of_ble_eq_true rfl) (by decide) (by decide) oc9 c9 ?_
  refine z_iload_n 0 dX6_tellLine_28 rfl ?_
  refine z_if_ne (t := 33) dX6_tellLine_29 (by decide) (fun q => ?_) (fun q => ?_)
  · have H11 := H10.1 q
    refine z_aload_n 1 dX6_tellLine_33 rfl rfl ?_
    obtain ⟨oe14, b12, e14, H13⟩ := H11
    refine z_getP dX6_tellLine_34 wf_X6_28 (by decide) (by decide) rfl oe14 (fun q => (by cases q.symm.trans e14)) (fun j q => ?_)
    cases q.symm.trans e14
    obtain ⟨oe17, b15, e17, H16⟩ := H13
    refine z_getP dX6_tellLine_37 wf_X6_256 (by decide) (by decide) rfl oe17 (fun q => (by cases q.symm.trans e17)) (fun j q => ?_)
    cases q.symm.trans e17
    refine z_aload_n 1 dX6_tellLine_40 rfl rfl ?_
    obtain ⟨oe20, b18, e20, H19⟩ := H16
    refine z_getP dX6_tellLine_41 wf_X6_28 (by decide) (by decide) rfl oe20 (fun q => (by cases q.symm.trans e20)) (fun j q => ?_)
    cases q.symm.trans e20
    refine z_getI dX6_tellLine_44 wf_X6_67 (by decide) (by decide) rfl H19.1 (z_aload_n 1 dX6_tellLine_47 rfl rfl (z_getI dX6_tellLine_48 wf_X6_110 (by decide) (by decide) rfl H19.2.1 (z_bipush (w := 12) dX6_tellLine_51 (by decide) (z_mmin dX6_tellLine_53 wm_X6_207 (by decide) (Nat.le_of_ble_eq_true rfl) (by decide) (by decide) w_mnS w_mI w_mnC ?_))))
    obtain ⟨I21, c22, H23⟩ := H19.2.2
    refine z_stat (As := [.ref b15, .int (I8 b18 0), .int (zmmin (I8 a0 11) 12)]) (st := []) (r1 := none) (h1 := (g, I21, P)) dX6_tellLine_56 kX11_put wm_X6_213 ⟨by decide, by decide⟩ rfl rfl (Nat.le_of_ble_eq_true rfl) (by decide) (by decide) c22 ?_
    refine z_iconst (w := 0) dX6_tellLine_59 (by decide) (z_istore_n (lv' := [(2, .int 0), (1, .int w4), (0, .ref a0)]) dX6_tellLine_60 (by decide) rfl ?_)
    exact z_less [2, 0] rfl H23
  · have H24 := H10.2 q
    obtain ⟨rfl, rfl⟩ := H24
    exact z_vret dX6_tellLine_32 rfl (by decide) (by decide)
theorem eX6_tellLine {g : zG} {I : Nat → Nat → Int32} {P : Nat → Nat → Option Nat} {r : Option Value} {h' : zH} {a0 : Nat} (H : Zt none mX6_tellLine 0 0 0 [(0, .ref a0)] [] (g, I, P) r h') : Cl mX6_tellLine [.ref a0] (g, I, P) r h' := Cl.of (by decide) (Nat.le_of_ble_eq_true rfl) H
set_option maxRecDepth 10000 in
theorem wX6_tellLine_61 {g : zG} {I : Nat → Nat → Int32} {P : Nat → Nat → Option Nat} {r : Option Value} {h' : zH} {a0 : Nat} {x2 : Int32} (H : zk g a0 6 ∧ ((I a0 11 ≤ x2) → zk g a0 6 ∧ ∃ b2, P a0 2 = some b2 ∧ zk g b2 4 ∧ zk g b2 4 ∧ r = none ∧ h' = (g, zU I b2 0 ((I b2 0) + 1), P)) ∧ ((¬ I a0 11 ≤ x2) → ((12 ≤ x2) → zk g a0 6 ∧ ∃ b7, P a0 2 = some b7 ∧ zk g b7 4 ∧ zk g b7 4 ∧ r = none ∧ h' = (g, zU I b7 0 ((I b7 0) + 1), P)) ∧ ((¬ 12 ≤ x2) → zk g a0 6 ∧ ∃ b11, P a0 2 = some b11 ∧ zk g b11 4 ∧ ∃ b14, P b11 2 = some b14 ∧ zk g a0 6 ∧ ∃ b17, P a0 2 = some b17 ∧ zk g b17 4 ∧ zk g a0 6 ∧ zk g a0 6 ∧ ∃ (w20 : Int32), Cl mX6_letterAt [.ref a0, .int ((I a0 10) + x2)] (g, I, P) (some (.int w20)) (g, I, P) ∧ ∃ (I23 : Nat → Nat → Int32), Cl mX11_put [.ref b14, .int (((I b17 0) * 12) + x2), .int w20] (g, I, P) none (g, I23, P) ∧ Zt none mX6_tellLine 0 0 61 [(0, .ref a0), (2, .int (x2 + 1))] [] (g, I23, P) r h'))) : Zt none mX6_tellLine 0 0 61 [(0, .ref a0), (2, .int x2)] [] (g, I, P) r h' := by
  refine z_iload_n 1 dX6_tellLine_61 rfl (z_aload_n 0 dX6_tellLine_62 rfl rfl (z_getI dX6_tellLine_63 wf_X6_110 (by decide) (by decide) rfl H.1 ?_))
  refine z_icmp_ge (t := 113) dX6_tellLine_66 (by decide) (fun q => ?_) (fun q => ?_)
  · have H1 := H.2.1 q
    refine z_aload_n 0 dX6_tellLine_113 rfl rfl ?_
    obtain ⟨oe4, b2, e4, H3⟩ := H1
    refine z_getP dX6_tellLine_114 wf_X6_28 (by decide) (by decide) rfl oe4 (fun q => (by cases q.symm.trans e4)) (fun j q => ?_)
    cases q.symm.trans e4
    refine z_dup dX6_tellLine_117 rfl (z_getI dX6_tellLine_118 wf_X6_67 (by decide) (by decide) rfl H3.1 (z_iconst (w := 1) dX6_tellLine_121 (by decide) (z_iadd dX6_tellLine_122 (z_putI (g := g) (I := I) (Q := P) dX6_tellLine_123 wf_X6_67 (by decide) (by decide) rfl (Or.inl rfl) (zfit_int rfl) H3.2.1 ?_))))
    obtain ⟨rfl, rfl⟩ := H3.2.2
    exact z_vret dX6_tellLine_126 rfl (by decide) (by decide)
  · have H5 := H.2.2 q
    refine z_iload_n 1 dX6_tellLine_69 rfl (z_bipush (w := 12) dX6_tellLine_70 (by decide) ?_)
    refine z_icmp_ge (t := 113) dX6_tellLine_72 (by decide) (fun q => ?_) (fun q => ?_)
    · have H6 := H5.1 q
      refine z_aload_n 0 dX6_tellLine_113 rfl rfl ?_
      obtain ⟨oe9, b7, e9, H8⟩ := H6
      refine z_getP dX6_tellLine_114 wf_X6_28 (by decide) (by decide) rfl oe9 (fun q => (by cases q.symm.trans e9)) (fun j q => ?_)
      cases q.symm.trans e9
      refine z_dup dX6_tellLine_117 rfl (z_getI dX6_tellLine_118 wf_X6_67 (by decide) (by decide) rfl H8.1 (z_iconst (w := 1) dX6_tellLine_121 (by decide) (z_iadd dX6_tellLine_122 (z_putI (g := g) (I := I) (Q := P) dX6_tellLine_123 wf_X6_67 (by decide) (by decide) rfl (Or.inl rfl) (zfit_int rfl) H8.2.1 ?_))))
      obtain ⟨rfl, rfl⟩ := H8.2.2
      exact z_vret dX6_tellLine_126 rfl (by decide) (by decide)
    · have H10 := H5.2 q
      refine z_aload_n 0 dX6_tellLine_75 rfl rfl ?_
      obtain ⟨oe13, b11, e13, H12⟩ := H10
      refine z_getP dX6_tellLine_76 wf_X6_28 (by decide) (by decide) rfl oe13 (fun q => (by cases q.symm.trans e13)) (fun j q => ?_)
      cases q.symm.trans e13
      obtain ⟨oe16, b14, e16, H15⟩ := H12
      refine z_getP dX6_tellLine_79 wf_X6_257 (by decide) (by decide) rfl oe16 (fun q => (by cases q.symm.trans e16)) (fun j q => ?_)
      cases q.symm.trans e16
      refine z_aload_n 0 dX6_tellLine_82 rfl rfl ?_
      obtain ⟨oe19, b17, e19, H18⟩ := H15
      refine z_getP dX6_tellLine_83 wf_X6_28 (by decide) (by decide) rfl oe19 (fun q => (by cases q.symm.trans e19)) (fun j q => ?_)
      cases q.symm.trans e19
      refine z_getI dX6_tellLine_86 wf_X6_67 (by decide) (by decide) rfl H18.1 (z_bipush (w := 12) dX6_tellLine_89 (by decide) (z_imul dX6_tellLine_91 (z_iload_n 1 dX6_tellLine_92 rfl (z_iadd dX6_tellLine_93 (z_aload_n 0 dX6_tellLine_94 rfl rfl (z_aload_n 0 dX6_tellLine_95 rfl rfl (z_getI dX6_tellLine_96 wf_X6_106 (by decide) (by decide) rfl H18.2.1 (z_iload_n 1 dX6_tellLine_99 rfl (z_iadd dX6_tellLine_100 ?_)))))))))
      obtain ⟨oc21, w20, c21, H22⟩ := H18.2.2
      refine z_virt (As := [.int ((I a0 10) + x2)]) (st := [.int (((I b17 0) * 12) + x2), .ref b14]) (r1 := (some (.int w20))) (h1 := (g, I, P)) dX6_tellLine_101 kX6_letterAt wm_X6_223 ⟨by decide, by decide⟩ rfl rfl (Nat.le_of_ble_eq_true rfl) (by decide) (by decide) oc21 c21 ?_
      obtain ⟨I23, c24, H25⟩ := H22
      refine z_stat (As := [.ref b14, .int (((I b17 0) * 12) + x2), .int w20]) (st := []) (r1 := none) (h1 := (g, I23, P)) dX6_tellLine_104 kX11_put wm_X6_213 ⟨by decide, by decide⟩ rfl rfl (Nat.le_of_ble_eq_true rfl) (by decide) (by decide) c24 ?_
      refine z_iinc (y := x2 + 1) (lv' := [(2, .int (x2 + 1)), (0, .ref a0)]) 1 dX6_tellLine_107 rfl rfl (by decide) rfl (z_goto (t := 61) dX6_tellLine_110 (by decide) ?_)
      exact z_less [1, 0] rfl H25
theorem dX6_tellFact_0 : decode cX6_tellFact 0 = .ok (.aload_n 0, 1) := by decide +kernel
theorem dX6_tellFact_1 : decode cX6_tellFact 1 = .ok (.aload_n 0, 1) := by decide +kernel
theorem dX6_tellFact_2 : decode cX6_tellFact 2 = .ok (.getfield 35, 3) := by decide +kernel
theorem dX6_tellFact_5 : decode cX6_tellFact 5 = .ok (.getfield 68, 3) := by decide +kernel
theorem dX6_tellFact_8 : decode cX6_tellFact 8 = .ok (.bipush 8, 2) := by decide +kernel
theorem dX6_tellFact_10 : decode cX6_tellFact 10 = .ok (.invokevirtual 192, 3) := by decide +kernel
theorem dX6_tellFact_13 : decode cX6_tellFact 13 = .ok (.istore_n 1, 1) := by decide +kernel
theorem dX6_tellFact_14 : decode cX6_tellFact 14 = .ok (.aload_n 0, 1) := by decide +kernel
theorem dX6_tellFact_15 : decode cX6_tellFact 15 = .ok (.aload_n 0, 1) := by decide +kernel
theorem dX6_tellFact_16 : decode cX6_tellFact 16 = .ok (.getfield 106, 3) := by decide +kernel
theorem dX6_tellFact_19 : decode cX6_tellFact 19 = .ok (.aload_n 0, 1) := by decide +kernel
theorem dX6_tellFact_20 : decode cX6_tellFact 20 = .ok (.getfield 116, 3) := by decide +kernel
theorem dX6_tellFact_23 : decode cX6_tellFact 23 = .ok (.iconst 0, 1) := by decide +kernel
theorem dX6_tellFact_24 : decode cX6_tellFact 24 = .ok (.bipush 11, 2) := by decide +kernel
theorem dX6_tellFact_26 : decode cX6_tellFact 26 = .ok (.invokevirtual 200, 3) := by decide +kernel
theorem dX6_tellFact_29 : decode cX6_tellFact 29 = .ok (.aload_n 0, 1) := by decide +kernel
theorem dX6_tellFact_30 : decode cX6_tellFact 30 = .ok (.aload_n 0, 1) := by decide +kernel
theorem dX6_tellFact_31 : decode cX6_tellFact 31 = .ok (.getfield 119, 3) := by decide +kernel
theorem dX6_tellFact_34 : decode cX6_tellFact 34 = .ok (.aload_n 0, 1) := by decide +kernel
theorem dX6_tellFact_35 : decode cX6_tellFact 35 = .ok (.getfield 125, 3) := by decide +kernel
theorem dX6_tellFact_38 : decode cX6_tellFact 38 = .ok (.iconst 0, 1) := by decide +kernel
theorem dX6_tellFact_39 : decode cX6_tellFact 39 = .ok (.bipush 9, 2) := by decide +kernel
theorem dX6_tellFact_41 : decode cX6_tellFact 41 = .ok (.invokevirtual 200, 3) := by decide +kernel
theorem dX6_tellFact_44 : decode cX6_tellFact 44 = .ok (.iload_n 1, 1) := by decide +kernel
theorem dX6_tellFact_45 : decode cX6_tellFact 45 = .ok (.ifCond .ne 4, 3) := by decide +kernel
theorem dX6_tellFact_48 : decode cX6_tellFact 48 = .ok (.return_, 1) := by decide +kernel
theorem dX6_tellFact_49 : decode cX6_tellFact 49 = .ok (.aload_n 0, 1) := by decide +kernel
theorem dX6_tellFact_50 : decode cX6_tellFact 50 = .ok (.getfield 35, 3) := by decide +kernel
theorem dX6_tellFact_53 : decode cX6_tellFact 53 = .ok (.getfield 258, 3) := by decide +kernel
theorem dX6_tellFact_56 : decode cX6_tellFact 56 = .ok (.aload_n 0, 1) := by decide +kernel
theorem dX6_tellFact_57 : decode cX6_tellFact 57 = .ok (.getfield 35, 3) := by decide +kernel
theorem dX6_tellFact_60 : decode cX6_tellFact 60 = .ok (.getfield 68, 3) := by decide +kernel
theorem dX6_tellFact_63 : decode cX6_tellFact 63 = .ok (.aload_n 0, 1) := by decide +kernel
theorem dX6_tellFact_64 : decode cX6_tellFact 64 = .ok (.getfield 116, 3) := by decide +kernel
theorem dX6_tellFact_67 : decode cX6_tellFact 67 = .ok (.invokestatic 213, 3) := by decide +kernel
theorem dX6_tellFact_70 : decode cX6_tellFact 70 = .ok (.aload_n 0, 1) := by decide +kernel
theorem dX6_tellFact_71 : decode cX6_tellFact 71 = .ok (.getfield 35, 3) := by decide +kernel
theorem dX6_tellFact_74 : decode cX6_tellFact 74 = .ok (.getfield 261, 3) := by decide +kernel
theorem dX6_tellFact_77 : decode cX6_tellFact 77 = .ok (.aload_n 0, 1) := by decide +kernel
theorem dX6_tellFact_78 : decode cX6_tellFact 78 = .ok (.getfield 35, 3) := by decide +kernel
theorem dX6_tellFact_81 : decode cX6_tellFact 81 = .ok (.getfield 68, 3) := by decide +kernel
theorem dX6_tellFact_84 : decode cX6_tellFact 84 = .ok (.aload_n 0, 1) := by decide +kernel
theorem dX6_tellFact_85 : decode cX6_tellFact 85 = .ok (.getfield 125, 3) := by decide +kernel
theorem dX6_tellFact_88 : decode cX6_tellFact 88 = .ok (.invokestatic 213, 3) := by decide +kernel
theorem dX6_tellFact_91 : decode cX6_tellFact 91 = .ok (.aload_n 0, 1) := by decide +kernel
theorem dX6_tellFact_92 : decode cX6_tellFact 92 = .ok (.getfield 35, 3) := by decide +kernel
theorem dX6_tellFact_95 : decode cX6_tellFact 95 = .ok (.dup, 1) := by decide +kernel
theorem dX6_tellFact_96 : decode cX6_tellFact 96 = .ok (.getfield 68, 3) := by decide +kernel
theorem dX6_tellFact_99 : decode cX6_tellFact 99 = .ok (.iconst 1, 1) := by decide +kernel
theorem dX6_tellFact_100 : decode cX6_tellFact 100 = .ok (.iadd, 1) := by decide +kernel
theorem dX6_tellFact_101 : decode cX6_tellFact 101 = .ok (.putfield 68, 3) := by decide +kernel
theorem dX6_tellFact_104 : decode cX6_tellFact 104 = .ok (.return_, 1) := by decide +kernel
set_option maxRecDepth 10000 in
theorem wX6_tellFact_0 {g : zG} {I : Nat → Nat → Int32} {P : Nat → Nat → Option Nat} {r : Option Value} {h' : zH} {a0 : Nat} (H : zk g a0 6 ∧ ∃ b1, P a0 3 = some b1 ∧ zk g b1 5 ∧ zk g a0 6 ∧ ∃ (w4 : Int32) (I5 : Nat → Nat → Int32), Cl mX6_needRoom [.ref a0, .int (I b1 0), .int 8] (g, I, P) (some (.int w4)) (g, I5, P) ∧ zk g a0 6 ∧ zk g a0 6 ∧ zk g a0 6 ∧ ∃ (I8 : Nat → Nat → Int32), Cl mX6_needNumber [.ref a0, .int (I5 a0 10), .int (I5 a0 12), .int 0, .int 11] (g, I5, P) none (g, I8, P) ∧ zk g a0 6 ∧ zk g a0 6 ∧ zk g a0 6 ∧ ∃ (I11 : Nat → Nat → Int32), Cl mX6_needNumber [.ref a0, .int (I8 a0 13), .int (I8 a0 15), .int 0, .int 9] (g, I8, P) none (g, I11, P) ∧ ((¬ w4 = 0) → zk g a0 6 ∧ ∃ b15, P a0 3 = some b15 ∧ zk g b15 5 ∧ ∃ b18, P b15 1 = some b18 ∧ zk g a0 6 ∧ ∃ b21, P a0 3 = some b21 ∧ zk g b21 5 ∧ zk g a0 6 ∧ ∃ (I24 : Nat → Nat → Int32), Cl mX11_put [.ref b18, .int (I11 b21 0), .int (I11 a0 12)] (g, I11, P) none (g, I24, P) ∧ zk g a0 6 ∧ ∃ b27, P a0 3 = some b27 ∧ zk g b27 5 ∧ ∃ b30, P b27 2 = some b30 ∧ zk g a0 6 ∧ ∃ b33, P a0 3 = some b33 ∧ zk g b33 5 ∧ zk g a0 6 ∧ ∃ (I36 : Nat → Nat → Int32), Cl mX11_put [.ref b30, .int (I24 b33 0), .int (I24 a0 15)] (g, I24, P) none (g, I36, P) ∧ zk g a0 6 ∧ ∃ b39, P a0 3 = some b39 ∧ zk g b39 5 ∧ zk g b39 5 ∧ r = none ∧ h' = (g, zU I36 b39 0 ((I36 b39 0) + 1), P)) ∧ ((w4 = 0) → r = none ∧ h' = (g, I11, P))) : Zt none mX6_tellFact 0 0 0 [(0, .ref a0)] [] (g, I, P) r h' := by
  refine z_aload_n 0 dX6_tellFact_0 rfl rfl (z_aload_n 0 dX6_tellFact_1 rfl rfl ?_)
  obtain ⟨oe3, b1, e3, H2⟩ := H
  refine z_getP dX6_tellFact_2 wf_X6_35 (by decide) (by decide) rfl oe3 (fun q => (by cases q.symm.trans e3)) (fun j q => ?_)
  cases q.symm.trans e3
  refine z_getI dX6_tellFact_5 wf_X6_68 (by decide) (by decide) rfl H2.1 (z_bipush (w := 8) dX6_tellFact_8 (by decide) ?_)
  obtain ⟨oc6, w4, I5, c6, H7⟩ := H2.2
  refine z_virt (As := [.int (I b1 0), .int 8]) (st := []) (r1 := (some (.int w4))) (h1 := (g, I5, P)) dX6_tellFact_10 kX6_needRoom wm_X6_192 ⟨by decide, by decide⟩ rfl rfl (Nat.le_of_ble_eq_true rfl) (by decide) (by decide) oc6 c6 ?_
  refine z_istore_n (lv' := [(1, .int w4), (0, .ref a0)]) dX6_tellFact_13 (by decide) rfl (z_aload_n 1 dX6_tellFact_14 rfl rfl (z_aload_n 1 dX6_tellFact_15 rfl rfl (z_getI dX6_tellFact_16 wf_X6_106 (by decide) (by decide) rfl H7.1 (z_aload_n 1 dX6_tellFact_19 rfl rfl (z_getI dX6_tellFact_20 wf_X6_116 (by decide) (by decide) rfl H7.2.1 (z_iconst (w := 0) dX6_tellFact_23 (by decide) (z_bipush (w := 11) dX6_tellFact_24 (by decide) ?_)))))))
  obtain ⟨oc9, I8, c9, H10⟩ := H7.2.2
  refine z_virt (As := [.int (I5 a0 10), .int (I5 a0 12), .int 0, .int 11]) (st := []) (r1 := none) (h1 := (g, I8, P)) dX6_tellFact_26 kX6_needNumber wm_X6_200 ⟨by decide, by decide⟩ rfl rfl (Nat.le_of_ble_eq_true rfl) (by decide) (by decide) oc9 c9 ?_
  refine z_aload_n 1 dX6_tellFact_29 rfl rfl (z_aload_n 1 dX6_tellFact_30 rfl rfl (z_getI dX6_tellFact_31 wf_X6_119 (by decide) (by decide) rfl H10.1 (z_aload_n 1 dX6_tellFact_34 rfl rfl (z_getI dX6_tellFact_35 wf_X6_125 (by decide) (by decide) rfl H10.2.1 (z_iconst (w := 0) dX6_tellFact_38 (by decide) (z_bipush (w := 9) dX6_tellFact_39 (by decide) ?_))))))
  obtain ⟨oc12, I11, c12, H13⟩ := H10.2.2
  refine z_virt (As := [.int (I8 a0 13), .int (I8 a0 15), .int 0, .int 9]) (st := []) (r1 := none) (h1 := (g, I11, P)) dX6_tellFact_41 kX6_needNumber wm_X6_200 ⟨by decide, by decide⟩ rfl rfl (Nat.le_of_ble_eq_true rfl) (by decide) (by decide) oc12 c12 ?_
  refine z_iload_n 0 dX6_tellFact_44 rfl ?_
  refine z_if_ne (t := 49) dX6_tellFact_45 (by decide) (fun q => ?_) (fun q => ?_)
  · have H14 := H13.1 q
    refine z_aload_n 1 dX6_tellFact_49 rfl rfl ?_
    obtain ⟨oe17, b15, e17, H16⟩ := H14
    refine z_getP dX6_tellFact_50 wf_X6_35 (by decide) (by decide) rfl oe17 (fun q => (by cases q.symm.trans e17)) (fun j q => ?_)
    cases q.symm.trans e17
    obtain ⟨oe20, b18, e20, H19⟩ := H16
    refine z_getP dX6_tellFact_53 wf_X6_258 (by decide) (by decide) rfl oe20 (fun q => (by cases q.symm.trans e20)) (fun j q => ?_)
    cases q.symm.trans e20
    refine z_aload_n 1 dX6_tellFact_56 rfl rfl ?_
    obtain ⟨oe23, b21, e23, H22⟩ := H19
    refine z_getP dX6_tellFact_57 wf_X6_35 (by decide) (by decide) rfl oe23 (fun q => (by cases q.symm.trans e23)) (fun j q => ?_)
    cases q.symm.trans e23
    refine z_getI dX6_tellFact_60 wf_X6_68 (by decide) (by decide) rfl H22.1 (z_aload_n 1 dX6_tellFact_63 rfl rfl (z_getI dX6_tellFact_64 wf_X6_116 (by decide) (by decide) rfl H22.2.1 ?_))
    obtain ⟨I24, c25, H26⟩ := H22.2.2
    refine z_stat (As := [.ref b18, .int (I11 b21 0), .int (I11 a0 12)]) (st := []) (r1 := none) (h1 := (g, I24, P)) dX6_tellFact_67 kX11_put wm_X6_213 ⟨by decide, by decide⟩ rfl rfl (Nat.le_of_ble_eq_true rfl) (by decide) (by decide) c25 ?_
    refine z_aload_n 1 dX6_tellFact_70 rfl rfl ?_
    obtain ⟨oe29, b27, e29, H28⟩ := H26
    refine z_getP dX6_tellFact_71 wf_X6_35 (by decide) (by decide) rfl oe29 (fun q => (by cases q.symm.trans e29)) (fun j q => ?_)
    cases q.symm.trans e29
    obtain ⟨oe32, b30, e32, H31⟩ := H28
    refine z_getP dX6_tellFact_74 wf_X6_261 (by decide) (by decide) rfl oe32 (fun q => (by cases q.symm.trans e32)) (fun j q => ?_)
    cases q.symm.trans e32
    refine z_aload_n 1 dX6_tellFact_77 rfl rfl ?_
    obtain ⟨oe35, b33, e35, H34⟩ := H31
    refine z_getP dX6_tellFact_78 wf_X6_35 (by decide) (by decide) rfl oe35 (fun q => (by cases q.symm.trans e35)) (fun j q => ?_)
    cases q.symm.trans e35
    refine z_getI dX6_tellFact_81 wf_X6_68 (by decide) (by decide) rfl H34.1 (z_aload_n 1 dX6_tellFact_84 rfl rfl (z_getI dX6_tellFact_85 wf_X6_125 (by decide) (by decide) rfl H34.2.1 ?_))
    obtain ⟨I36, c37, H38⟩ := H34.2.2
    refine z_stat (As := [.ref b30, .int (I24 b33 0), .int (I24 a0 15)]) (st := []) (r1 := none) (h1 := (g, I36, P)) dX6_tellFact_88 kX11_put wm_X6_213 ⟨by decide, by decide⟩ rfl rfl (Nat.le_of_ble_eq_true rfl) (by decide) (by decide) c37 ?_
    refine z_aload_n 1 dX6_tellFact_91 rfl rfl ?_
    obtain ⟨oe41, b39, e41, H40⟩ := H38
    refine z_getP dX6_tellFact_92 wf_X6_35 (by decide) (by decide) rfl oe41 (fun q => (by cases q.symm.trans e41)) (fun j q => ?_)
    cases q.symm.trans e41
    refine z_dup dX6_tellFact_95 rfl (z_getI dX6_tellFact_96 wf_X6_68 (by decide) (by decide) rfl H40.1 (z_iconst (w := 1) dX6_tellFact_99 (by decide) (z_iadd dX6_tellFact_100 (z_putI (g := g) (I := I36) (Q := P) dX6_tellFact_101 wf_X6_68 (by decide) (by decide) rfl (Or.inl rfl) (zfit_int rfl) H40.2.1 ?_))))
    obtain ⟨rfl, rfl⟩ := H40.2.2
    exact z_vret dX6_tellFact_104 rfl (by decide) (by decide)
  · have H42 := H13.2 q
    obtain ⟨rfl, rfl⟩ := H42
    exact z_vret dX6_tellFact_48 rfl (by decide) (by decide)
theorem eX6_tellFact {g : zG} {I : Nat → Nat → Int32} {P : Nat → Nat → Option Nat} {r : Option Value} {h' : zH} {a0 : Nat} (H : Zt none mX6_tellFact 0 0 0 [(0, .ref a0)] [] (g, I, P) r h') : Cl mX6_tellFact [.ref a0] (g, I, P) r h' := Cl.of (by decide) (Nat.le_of_ble_eq_true rfl) H
theorem dX6_needRoom_0 : decode cX6_needRoom 0 = .ok (.iload_n 1, 1) := by decide +kernel
theorem dX6_needRoom_1 : decode cX6_needRoom 1 = .ok (.iload_n 2, 1) := by decide +kernel
theorem dX6_needRoom_2 : decode cX6_needRoom 2 = .ok (.if_icmp .lt 12, 3) := by decide +kernel
theorem dX6_needRoom_5 : decode cX6_needRoom 5 = .ok (.aload_n 0, 1) := by decide +kernel
theorem dX6_needRoom_6 : decode cX6_needRoom 6 = .ok (.iconst 3, 1) := by decide +kernel
theorem dX6_needRoom_7 : decode cX6_needRoom 7 = .ok (.aload_n 0, 1) := by decide +kernel
theorem dX6_needRoom_8 : decode cX6_needRoom 8 = .ok (.getfield 90, 3) := by decide +kernel
theorem dX6_needRoom_11 : decode cX6_needRoom 11 = .ok (.invokevirtual 264, 3) := by decide +kernel
theorem dX6_needRoom_14 : decode cX6_needRoom 14 = .ok (.iload_n 1, 1) := by decide +kernel
theorem dX6_needRoom_15 : decode cX6_needRoom 15 = .ok (.iload_n 2, 1) := by decide +kernel
theorem dX6_needRoom_16 : decode cX6_needRoom 16 = .ok (.if_icmp .ge 7, 3) := by decide +kernel
theorem dX6_needRoom_19 : decode cX6_needRoom 19 = .ok (.iconst 1, 1) := by decide +kernel
theorem dX6_needRoom_20 : decode cX6_needRoom 20 = .ok (.goto 4, 3) := by decide +kernel
theorem dX6_needRoom_23 : decode cX6_needRoom 23 = .ok (.iconst 0, 1) := by decide +kernel
theorem dX6_needRoom_24 : decode cX6_needRoom 24 = .ok (.ireturn, 1) := by decide +kernel
set_option maxRecDepth 10000 in
theorem wX6_needRoom_0 {g : zG} {I : Nat → Nat → Int32} {P : Nat → Nat → Option Nat} {r : Option Value} {h' : zH} {a0 : Nat} {x1 : Int32} {x2 : Int32} (H : ((x1 < x2) → ((x2 ≤ x1) → r = some (.int 0) ∧ h' = (g, I, P)) ∧ ((¬ x2 ≤ x1) → r = some (.int 1) ∧ h' = (g, I, P))) ∧ ((¬ x1 < x2) → zk g a0 6 ∧ zk g a0 6 ∧ ∃ (I5 : Nat → Nat → Int32), Cl mX6_note [.ref a0, .int 3, .int (I a0 8)] (g, I, P) none (g, I5, P) ∧ ((x2 ≤ x1) → r = some (.int 0) ∧ h' = (g, I5, P)) ∧ ((¬ x2 ≤ x1) → r = some (.int 1) ∧ h' = (g, I5, P)))) : Zt none mX6_needRoom 0 0 0 [(0, .ref a0), (1, .int x1), (2, .int x2)] [] (g, I, P) r h' := by
  refine z_iload_n 1 dX6_needRoom_0 rfl (z_iload_n 2 dX6_needRoom_1 rfl ?_)
  refine z_icmp_lt (t := 14) dX6_needRoom_2 (by decide) (fun q => ?_) (fun q => ?_)
  · have H1 := H.1 q
    refine z_iload_n 1 dX6_needRoom_14 rfl (z_iload_n 2 dX6_needRoom_15 rfl ?_)
    refine z_icmp_ge (t := 23) dX6_needRoom_16 (by decide) (fun q => ?_) (fun q => ?_)
    · have H2 := H1.1 q
      refine z_iconst (w := 0) dX6_needRoom_23 (by decide) ?_
      obtain ⟨rfl, rfl⟩ := H2
      exact z_zret dX6_needRoom_24 rfl (Or.inl rfl) (by decide) (by decide)
    · have H3 := H1.2 q
      refine z_iconst (w := 1) dX6_needRoom_19 (by decide) (z_goto (t := 24) dX6_needRoom_20 (by decide) ?_)
      obtain ⟨rfl, rfl⟩ := H3
      exact z_zret dX6_needRoom_24 rfl (Or.inr rfl) (by decide) (by decide)
  · have H4 := H.2 q
    refine z_aload_n 0 dX6_needRoom_5 rfl rfl (z_iconst (w := 3) dX6_needRoom_6 (by decide) (z_aload_n 0 dX6_needRoom_7 rfl rfl (z_getI dX6_needRoom_8 wf_X6_90 (by decide) (by decide) rfl H4.1 ?_)))
    obtain ⟨oc6, I5, c6, H7⟩ := H4.2
    refine z_virt (As := [.int 3, .int (I a0 8)]) (st := []) (r1 := none) (h1 := (g, I5, P)) dX6_needRoom_11 kX6_note wm_X6_264 ⟨by decide, by decide⟩ rfl rfl (Nat.le_of_ble_eq_true rfl) (by decide) (by decide) oc6 c6 ?_
    refine z_iload_n 1 dX6_needRoom_14 rfl (z_iload_n 2 dX6_needRoom_15 rfl ?_)
    refine z_icmp_ge (t := 23) dX6_needRoom_16 (by decide) (fun q => ?_) (fun q => ?_)
    · have H8 := H7.1 q
      refine z_iconst (w := 0) dX6_needRoom_23 (by decide) ?_
      obtain ⟨rfl, rfl⟩ := H8
      exact z_zret dX6_needRoom_24 rfl (Or.inl rfl) (by decide) (by decide)
    · have H9 := H7.2 q
      refine z_iconst (w := 1) dX6_needRoom_19 (by decide) (z_goto (t := 24) dX6_needRoom_20 (by decide) ?_)
      obtain ⟨rfl, rfl⟩ := H9
      exact z_zret dX6_needRoom_24 rfl (Or.inr rfl) (by decide) (by decide)
theorem eX6_needRoom {g : zG} {I : Nat → Nat → Int32} {P : Nat → Nat → Option Nat} {r : Option Value} {h' : zH} {a0 : Nat} {x1 : Int32} {x2 : Int32} (H : Zt none mX6_needRoom 0 0 0 [(0, .ref a0), (1, .int x1), (2, .int x2)] [] (g, I, P) r h') : Cl mX6_needRoom [.ref a0, .int x1, .int x2] (g, I, P) r h' := Cl.of (by decide) (Nat.le_of_ble_eq_true rfl) H
theorem dX6_needNumber_0 : decode cX6_needNumber 0 = .ok (.iload_n 2, 1) := by decide +kernel
theorem dX6_needNumber_1 : decode cX6_needNumber 1 = .ok (.iload_n 3, 1) := by decide +kernel
theorem dX6_needNumber_2 : decode cX6_needNumber 2 = .ok (.if_icmp .lt 9, 3) := by decide +kernel
theorem dX6_needNumber_5 : decode cX6_needNumber 5 = .ok (.iload_n 2, 1) := by decide +kernel
theorem dX6_needNumber_6 : decode cX6_needNumber 6 = .ok (.iload 4, 2) := by decide +kernel
theorem dX6_needNumber_8 : decode cX6_needNumber 8 = .ok (.if_icmp .le 9, 3) := by decide +kernel
theorem dX6_needNumber_11 : decode cX6_needNumber 11 = .ok (.aload_n 0, 1) := by decide +kernel
theorem dX6_needNumber_12 : decode cX6_needNumber 12 = .ok (.iconst 2, 1) := by decide +kernel
theorem dX6_needNumber_13 : decode cX6_needNumber 13 = .ok (.iload_n 1, 1) := by decide +kernel
theorem dX6_needNumber_14 : decode cX6_needNumber 14 = .ok (.invokevirtual 264, 3) := by decide +kernel
theorem dX6_needNumber_17 : decode cX6_needNumber 17 = .ok (.return_, 1) := by decide +kernel
set_option maxRecDepth 10000 in
theorem wX6_needNumber_0 {g : zG} {I : Nat → Nat → Int32} {P : Nat → Nat → Option Nat} {r : Option Value} {h' : zH} {a0 : Nat} {x1 : Int32} {x2 : Int32} {x3 : Int32} {x4 : Int32} (H : ((x2 < x3) → zk g a0 6 ∧ ∃ (I2 : Nat → Nat → Int32), Cl mX6_note [.ref a0, .int 2, .int x1] (g, I, P) none (g, I2, P) ∧ r = none ∧ h' = (g, I2, P)) ∧ ((¬ x2 < x3) → ((x2 ≤ x4) → r = none ∧ h' = (g, I, P)) ∧ ((¬ x2 ≤ x4) → zk g a0 6 ∧ ∃ (I8 : Nat → Nat → Int32), Cl mX6_note [.ref a0, .int 2, .int x1] (g, I, P) none (g, I8, P) ∧ r = none ∧ h' = (g, I8, P)))) : Zt none mX6_needNumber 0 0 0 [(0, .ref a0), (1, .int x1), (2, .int x2), (3, .int x3), (4, .int x4)] [] (g, I, P) r h' := by
  refine z_iload_n 2 dX6_needNumber_0 rfl (z_iload_n 3 dX6_needNumber_1 rfl ?_)
  refine z_icmp_lt (t := 11) dX6_needNumber_2 (by decide) (fun q => ?_) (fun q => ?_)
  · have H1 := H.1 q
    refine z_aload_n 0 dX6_needNumber_11 rfl rfl (z_iconst (w := 2) dX6_needNumber_12 (by decide) (z_iload_n 1 dX6_needNumber_13 rfl ?_))
    obtain ⟨oc3, I2, c3, H4⟩ := H1
    refine z_virt (As := [.int 2, .int x1]) (st := []) (r1 := none) (h1 := (g, I2, P)) dX6_needNumber_14 kX6_note wm_X6_264 ⟨by decide, by decide⟩ rfl rfl (Nat.le_of_ble_eq_true rfl) (by decide) (by decide) oc3 c3 ?_
    obtain ⟨rfl, rfl⟩ := H4
    exact z_vret dX6_needNumber_17 rfl (by decide) (by decide)
  · have H5 := H.2 q
    refine z_iload_n 2 dX6_needNumber_5 rfl (z_iload 4 dX6_needNumber_6 rfl ?_)
    refine z_icmp_le (t := 17) dX6_needNumber_8 (by decide) (fun q => ?_) (fun q => ?_)
    · have H6 := H5.1 q
      obtain ⟨rfl, rfl⟩ := H6
      exact z_vret dX6_needNumber_17 rfl (by decide) (by decide)
    · have H7 := H5.2 q
      refine z_aload_n 0 dX6_needNumber_11 rfl rfl (z_iconst (w := 2) dX6_needNumber_12 (by decide) (z_iload_n 1 dX6_needNumber_13 rfl ?_))
      obtain ⟨oc9, I8, c9, H10⟩ := H7
      refine z_virt (As := [.int 2, .int x1]) (st := []) (r1 := none) (h1 := (g, I8, P)) dX6_needNumber_14 kX6_note wm_X6_264 ⟨by decide, by decide⟩ rfl rfl (Nat.le_of_ble_eq_true rfl) (by decide) (by decide) oc9 c9 ?_
      obtain ⟨rfl, rfl⟩ := H10
      exact z_vret dX6_needNumber_17 rfl (by decide) (by decide)
theorem eX6_needNumber {g : zG} {I : Nat → Nat → Int32} {P : Nat → Nat → Option Nat} {r : Option Value} {h' : zH} {a0 : Nat} {x1 : Int32} {x2 : Int32} {x3 : Int32} {x4 : Int32} (H : Zt none mX6_needNumber 0 0 0 [(0, .ref a0), (1, .int x1), (2, .int x2), (3, .int x3), (4, .int x4)] [] (g, I, P) r h') : Cl mX6_needNumber [.ref a0, .int x1, .int x2, .int x3, .int x4] (g, I, P) r h' := Cl.of (by decide) (Nat.le_of_ble_eq_true rfl) H
theorem dX6_needRow_0 : decode cX6_needRow 0 = .ok (.iload_n 2, 1) := by decide +kernel
theorem dX6_needRow_1 : decode cX6_needRow 1 = .ok (.iload_n 3, 1) := by decide +kernel
theorem dX6_needRow_2 : decode cX6_needRow 2 = .ok (.if_icmp .gt 7, 3) := by decide +kernel
theorem dX6_needRow_5 : decode cX6_needRow 5 = .ok (.iconst 1, 1) := by decide +kernel
theorem dX6_needRow_6 : decode cX6_needRow 6 = .ok (.goto 4, 3) := by decide +kernel
theorem dX6_needRow_9 : decode cX6_needRow 9 = .ok (.iconst 0, 1) := by decide +kernel
theorem dX6_needRow_10 : decode cX6_needRow 10 = .ok (.istore 4, 2) := by decide +kernel
theorem dX6_needRow_12 : decode cX6_needRow 12 = .ok (.iconst 0, 1) := by decide +kernel
theorem dX6_needRow_13 : decode cX6_needRow 13 = .ok (.istore 5, 2) := by decide +kernel
theorem dX6_needRow_15 : decode cX6_needRow 15 = .ok (.iload 5, 2) := by decide +kernel
theorem dX6_needRow_17 : decode cX6_needRow 17 = .ok (.iload_n 2, 1) := by decide +kernel
theorem dX6_needRow_18 : decode cX6_needRow 18 = .ok (.if_icmp .ge 37, 3) := by decide +kernel
theorem dX6_needRow_21 : decode cX6_needRow 21 = .ok (.iload 4, 2) := by decide +kernel
theorem dX6_needRow_23 : decode cX6_needRow 23 = .ok (.ifCond .eq 32, 3) := by decide +kernel
theorem dX6_needRow_26 : decode cX6_needRow 26 = .ok (.aload_n 0, 1) := by decide +kernel
theorem dX6_needRow_27 : decode cX6_needRow 27 = .ok (.getfield 46, 3) := by decide +kernel
theorem dX6_needRow_30 : decode cX6_needRow 30 = .ok (.iload_n 1, 1) := by decide +kernel
theorem dX6_needRow_31 : decode cX6_needRow 31 = .ok (.iload 5, 2) := by decide +kernel
theorem dX6_needRow_33 : decode cX6_needRow 33 = .ok (.iadd, 1) := by decide +kernel
theorem dX6_needRow_34 : decode cX6_needRow 34 = .ok (.invokestatic 232, 3) := by decide +kernel
theorem dX6_needRow_37 : decode cX6_needRow 37 = .ok (.bipush 103, 2) := by decide +kernel
theorem dX6_needRow_39 : decode cX6_needRow 39 = .ok (.if_icmp .ge 7, 3) := by decide +kernel
theorem dX6_needRow_42 : decode cX6_needRow 42 = .ok (.iconst 1, 1) := by decide +kernel
theorem dX6_needRow_43 : decode cX6_needRow 43 = .ok (.goto 4, 3) := by decide +kernel
theorem dX6_needRow_46 : decode cX6_needRow 46 = .ok (.iconst 0, 1) := by decide +kernel
theorem dX6_needRow_47 : decode cX6_needRow 47 = .ok (.istore 4, 2) := by decide +kernel
theorem dX6_needRow_49 : decode cX6_needRow 49 = .ok (.iinc 5 1, 3) := by decide +kernel
theorem dX6_needRow_52 : decode cX6_needRow 52 = .ok (.goto (-37), 3) := by decide +kernel
theorem dX6_needRow_55 : decode cX6_needRow 55 = .ok (.iload 4, 2) := by decide +kernel
theorem dX6_needRow_57 : decode cX6_needRow 57 = .ok (.ifCond .ne 9, 3) := by decide +kernel
theorem dX6_needRow_60 : decode cX6_needRow 60 = .ok (.aload_n 0, 1) := by decide +kernel
theorem dX6_needRow_61 : decode cX6_needRow 61 = .ok (.iconst 2, 1) := by decide +kernel
theorem dX6_needRow_62 : decode cX6_needRow 62 = .ok (.iload_n 1, 1) := by decide +kernel
theorem dX6_needRow_63 : decode cX6_needRow 63 = .ok (.invokevirtual 264, 3) := by decide +kernel
theorem dX6_needRow_66 : decode cX6_needRow 66 = .ok (.return_, 1) := by decide +kernel
set_option maxRecDepth 10000 in
theorem wX6_needRow_0 {g : zG} {I : Nat → Nat → Int32} {P : Nat → Nat → Option Nat} {r : Option Value} {h' : zH} {a0 : Nat} {x1 : Int32} {x2 : Int32} {x3 : Int32} (H : ((x3 < x2) → Zt none mX6_needRow 0 0 15 [(0, .ref a0), (1, .int x1), (2, .int x2), (4, .int 0), (5, .int 0)] [] (g, I, P) r h') ∧ ((¬ x3 < x2) → Zt none mX6_needRow 0 0 15 [(0, .ref a0), (1, .int x1), (2, .int x2), (4, .int 1), (5, .int 0)] [] (g, I, P) r h')) : Zt none mX6_needRow 0 0 0 [(0, .ref a0), (1, .int x1), (2, .int x2), (3, .int x3)] [] (g, I, P) r h' := by
  refine z_iload_n 2 dX6_needRow_0 rfl (z_iload_n 3 dX6_needRow_1 rfl ?_)
  refine z_icmp_gt (t := 9) dX6_needRow_2 (by decide) (fun q => ?_) (fun q => ?_)
  · have H1 := H.1 q
    refine z_iconst (w := 0) dX6_needRow_9 (by decide) (z_istore (lv' := [(4, .int 0), (0, .ref a0), (1, .int x1), (2, .int x2), (3, .int x3)]) dX6_needRow_10 (by decide) rfl (z_iconst (w := 0) dX6_needRow_12 (by decide) (z_istore (lv' := [(5, .int 0), (4, .int 0), (0, .ref a0), (1, .int x1), (2, .int x2), (3, .int x3)]) dX6_needRow_13 (by decide) rfl ?_)))
    exact z_less [2, 3, 4, 1, 0] rfl H1
  · have H2 := H.2 q
    refine z_iconst (w := 1) dX6_needRow_5 (by decide) (z_goto (t := 10) dX6_needRow_6 (by decide) (z_istore (lv' := [(4, .int 1), (0, .ref a0), (1, .int x1), (2, .int x2), (3, .int x3)]) dX6_needRow_10 (by decide) rfl (z_iconst (w := 0) dX6_needRow_12 (by decide) (z_istore (lv' := [(5, .int 0), (4, .int 1), (0, .ref a0), (1, .int x1), (2, .int x2), (3, .int x3)]) dX6_needRow_13 (by decide) rfl ?_))))
    exact z_less [2, 3, 4, 1, 0] rfl H2
theorem eX6_needRow {g : zG} {I : Nat → Nat → Int32} {P : Nat → Nat → Option Nat} {r : Option Value} {h' : zH} {a0 : Nat} {x1 : Int32} {x2 : Int32} {x3 : Int32} (H : Zt none mX6_needRow 0 0 0 [(0, .ref a0), (1, .int x1), (2, .int x2), (3, .int x3)] [] (g, I, P) r h') : Cl mX6_needRow [.ref a0, .int x1, .int x2, .int x3] (g, I, P) r h' := Cl.of (by decide) (Nat.le_of_ble_eq_true rfl) H
set_option maxRecDepth 10000 in
theorem wX6_needRow_15 {g : zG} {I : Nat → Nat → Int32} {P : Nat → Nat → Option Nat} {r : Option Value} {h' : zH} {a0 : Nat} {x1 : Int32} {x2 : Int32} {x4 : Int32} {x5 : Int32} (H : ((x2 ≤ x5) → ((¬ x4 = 0) → r = none ∧ h' = (g, I, P)) ∧ ((x4 = 0) → zk g a0 6 ∧ ∃ (I4 : Nat → Nat → Int32), Cl mX6_note [.ref a0, .int 2, .int x1] (g, I, P) none (g, I4, P) ∧ r = none ∧ h' = (g, I4, P))) ∧ ((¬ x2 ≤ x5) → ((x4 = 0) → ((¬ x4 = 0) → r = none ∧ h' = (g, I, P)) ∧ ((x4 = 0) → zk g a0 6 ∧ ∃ (I11 : Nat → Nat → Int32), Cl mX6_note [.ref a0, .int 2, .int x1] (g, I, P) none (g, I11, P) ∧ r = none ∧ h' = (g, I11, P))) ∧ ((¬ x4 = 0) → zk g a0 6 ∧ ∃ b15, P a0 7 = some b15 ∧ ∃ (w18 : Int32), Cl mX11_got [.ref b15, .int (x1 + x5)] (g, I, P) (some (.int w18)) (g, I, P) ∧ ((103 ≤ w18) → Zt none mX6_needRow 0 0 15 [(0, .ref a0), (1, .int x1), (2, .int x2), (4, .int 0), (5, .int (x5 + 1))] [] (g, I, P) r h') ∧ ((¬ 103 ≤ w18) → Zt none mX6_needRow 0 0 15 [(0, .ref a0), (1, .int x1), (2, .int x2), (4, .int 1), (5, .int (x5 + 1))] [] (g, I, P) r h')))) : Zt none mX6_needRow 0 0 15 [(0, .ref a0), (1, .int x1), (2, .int x2), (4, .int x4), (5, .int x5)] [] (g, I, P) r h' := by
  refine z_iload 4 dX6_needRow_15 rfl (z_iload_n 2 dX6_needRow_17 rfl ?_)
  refine z_icmp_ge (t := 55) dX6_needRow_18 (by decide) (fun q => ?_) (fun q => ?_)
  · have H1 := H.1 q
    refine z_iload 3 dX6_needRow_55 rfl ?_
    refine z_if_ne (t := 66) dX6_needRow_57 (by decide) (fun q => ?_) (fun q => ?_)
    · have H2 := H1.1 q
      obtain ⟨rfl, rfl⟩ := H2
      exact z_vret dX6_needRow_66 rfl (by decide) (by decide)
    · have H3 := H1.2 q
      refine z_aload_n 0 dX6_needRow_60 rfl rfl (z_iconst (w := 2) dX6_needRow_61 (by decide) (z_iload_n 1 dX6_needRow_62 rfl ?_))
      obtain ⟨oc5, I4, c5, H6⟩ := H3
      refine z_virt (As := [.int 2, .int x1]) (st := []) (r1 := none) (h1 := (g, I4, P)) dX6_needRow_63 kX6_note wm_X6_264 ⟨by decide, by decide⟩ rfl rfl (Nat.le_of_ble_eq_true rfl) (by decide) (by decide) oc5 c5 ?_
      obtain ⟨rfl, rfl⟩ := H6
      exact z_vret dX6_needRow_66 rfl (by decide) (by decide)
  · have H7 := H.2 q
    refine z_iload 3 dX6_needRow_21 rfl ?_
    refine z_if_eq (t := 55) dX6_needRow_23 (by decide) (fun q => ?_) (fun q => ?_)
    · have H8 := H7.1 q
      refine z_iload 3 dX6_needRow_55 rfl ?_
      refine z_if_ne (t := 66) dX6_needRow_57 (by decide) (fun q => ?_) (fun q => ?_)
      · have H9 := H8.1 q
        obtain ⟨rfl, rfl⟩ := H9
        exact z_vret dX6_needRow_66 rfl (by decide) (by decide)
      · have H10 := H8.2 q
        refine z_aload_n 0 dX6_needRow_60 rfl rfl (z_iconst (w := 2) dX6_needRow_61 (by decide) (z_iload_n 1 dX6_needRow_62 rfl ?_))
        obtain ⟨oc12, I11, c12, H13⟩ := H10
        refine z_virt (As := [.int 2, .int x1]) (st := []) (r1 := none) (h1 := (g, I11, P)) dX6_needRow_63 kX6_note wm_X6_264 ⟨by decide, by decide⟩ rfl rfl (Nat.le_of_ble_eq_true rfl) (by decide) (by decide) oc12 c12 ?_
        obtain ⟨rfl, rfl⟩ := H13
        exact z_vret dX6_needRow_66 rfl (by decide) (by decide)
    · have H14 := H7.2 q
      refine z_aload_n 0 dX6_needRow_26 rfl rfl ?_
      obtain ⟨oe17, b15, e17, H16⟩ := H14
      refine z_getP dX6_needRow_27 wf_X6_46 (by decide) (by decide) rfl oe17 (fun q => (by cases q.symm.trans e17)) (fun j q => ?_)
      cases q.symm.trans e17
      refine z_iload_n 1 dX6_needRow_30 rfl (z_iload 4 dX6_needRow_31 rfl (z_iadd dX6_needRow_33 ?_))
      obtain ⟨w18, c19, H20⟩ := H16
      refine z_stat (As := [.ref b15, .int (x1 + x5)]) (st := []) (r1 := (some (.int w18))) (h1 := (g, I, P)) dX6_needRow_34 kX11_got wm_X6_232 ⟨by decide, by decide⟩ rfl rfl (Nat.le_of_ble_eq_true rfl) (by decide) (by decide) c19 ?_
      refine z_bipush (w := 103) dX6_needRow_37 (by decide) ?_
      refine z_icmp_ge (t := 46) dX6_needRow_39 (by decide) (fun q => ?_) (fun q => ?_)
      · have H21 := H20.1 q
        refine z_iconst (w := 0) dX6_needRow_46 (by decide) (z_istore (lv' := [(4, .int 0), (0, .ref a0), (1, .int x1), (2, .int x2), (5, .int x5)]) dX6_needRow_47 (by decide) rfl (z_iinc (y := x5 + 1) (lv' := [(5, .int (x5 + 1)), (4, .int 0), (0, .ref a0), (1, .int x1), (2, .int x2)]) 4 dX6_needRow_49 rfl rfl (by decide) rfl (z_goto (t := 15) dX6_needRow_52 (by decide) ?_)))
        exact z_less [2, 3, 4, 1, 0] rfl H21
      · have H22 := H20.2 q
        refine z_iconst (w := 1) dX6_needRow_42 (by decide) (z_goto (t := 47) dX6_needRow_43 (by decide) (z_istore (lv' := [(4, .int 1), (0, .ref a0), (1, .int x1), (2, .int x2), (5, .int x5)]) dX6_needRow_47 (by decide) rfl (z_iinc (y := x5 + 1) (lv' := [(5, .int (x5 + 1)), (4, .int 1), (0, .ref a0), (1, .int x1), (2, .int x2)]) 4 dX6_needRow_49 rfl rfl (by decide) rfl (z_goto (t := 15) dX6_needRow_52 (by decide) ?_))))
        exact z_less [2, 3, 4, 1, 0] rfl H22
theorem dX6_letterAt_0 : decode cX6_letterAt 0 = .ok (.aload_n 0, 1) := by decide +kernel
theorem dX6_letterAt_1 : decode cX6_letterAt 1 = .ok (.getfield 46, 3) := by decide +kernel
theorem dX6_letterAt_4 : decode cX6_letterAt 4 = .ok (.iload_n 1, 1) := by decide +kernel
theorem dX6_letterAt_5 : decode cX6_letterAt 5 = .ok (.invokestatic 232, 3) := by decide +kernel
theorem dX6_letterAt_8 : decode cX6_letterAt 8 = .ok (.bipush 97, 2) := by decide +kernel
theorem dX6_letterAt_10 : decode cX6_letterAt 10 = .ok (.isub, 1) := by decide +kernel
theorem dX6_letterAt_11 : decode cX6_letterAt 11 = .ok (.ireturn, 1) := by decide +kernel
set_option maxRecDepth 10000 in
theorem wX6_letterAt_0 {g : zG} {I : Nat → Nat → Int32} {P : Nat → Nat → Option Nat} {r : Option Value} {h' : zH} {a0 : Nat} {x1 : Int32} (H : zk g a0 6 ∧ ∃ b1, P a0 7 = some b1 ∧ ∃ (w4 : Int32), Cl mX11_got [.ref b1, .int x1] (g, I, P) (some (.int w4)) (g, I, P) ∧ r = some (.int (w4 - 97)) ∧ h' = (g, I, P)) : Zt none mX6_letterAt 0 0 0 [(0, .ref a0), (1, .int x1)] [] (g, I, P) r h' := by
  refine z_aload_n 0 dX6_letterAt_0 rfl rfl ?_
  obtain ⟨oe3, b1, e3, H2⟩ := H
  refine z_getP dX6_letterAt_1 wf_X6_46 (by decide) (by decide) rfl oe3 (fun q => (by cases q.symm.trans e3)) (fun j q => ?_)
  cases q.symm.trans e3
  refine z_iload_n 1 dX6_letterAt_4 rfl ?_
  obtain ⟨w4, c5, H6⟩ := H2
  refine z_stat (As := [.ref b1, .int x1]) (st := []) (r1 := (some (.int w4))) (h1 := (g, I, P)) dX6_letterAt_5 kX11_got wm_X6_232 ⟨by decide, by decide⟩ rfl rfl (Nat.le_of_ble_eq_true rfl) (by decide) (by decide) c5 ?_
  refine z_bipush (w := 97) dX6_letterAt_8 (by decide) (z_isub dX6_letterAt_10 ?_)
  obtain ⟨rfl, rfl⟩ := H6
  exact z_iret dX6_letterAt_11 rfl (by decide) (by decide)
theorem eX6_letterAt {g : zG} {I : Nat → Nat → Int32} {P : Nat → Nat → Option Nat} {r : Option Value} {h' : zH} {a0 : Nat} {x1 : Int32} (H : Zt none mX6_letterAt 0 0 0 [(0, .ref a0), (1, .int x1)] [] (g, I, P) r h') : Cl mX6_letterAt [.ref a0, .int x1] (g, I, P) r h' := Cl.of (by decide) (Nat.le_of_ble_eq_true rfl) H
theorem dX6_note_0 : decode cX6_note 0 = .ok (.aload_n 0, 1) := by decide +kernel
theorem dX6_note_1 : decode cX6_note 1 = .ok (.getfield 54, 3) := by decide +kernel
theorem dX6_note_4 : decode cX6_note 4 = .ok (.ifCond .ne 13, 3) := by decide +kernel
theorem dX6_note_7 : decode cX6_note 7 = .ok (.aload_n 0, 1) := by decide +kernel
theorem dX6_note_8 : decode cX6_note 8 = .ok (.iload_n 1, 1) := by decide +kernel
theorem dX6_note_9 : decode cX6_note 9 = .ok (.putfield 54, 3) := by decide +kernel
theorem dX6_note_12 : decode cX6_note 12 = .ok (.aload_n 0, 1) := by decide +kernel
theorem dX6_note_13 : decode cX6_note 13 = .ok (.iload_n 2, 1) := by decide +kernel
theorem dX6_note_14 : decode cX6_note 14 = .ok (.putfield 58, 3) := by decide +kernel
theorem dX6_note_17 : decode cX6_note 17 = .ok (.return_, 1) := by decide +kernel
set_option maxRecDepth 10000 in
theorem wX6_note_0 {g : zG} {I : Nat → Nat → Int32} {P : Nat → Nat → Option Nat} {r : Option Value} {h' : zH} {a0 : Nat} {x1 : Int32} {x2 : Int32} (H : zk g a0 6 ∧ ((¬ I a0 4 = 0) → r = none ∧ h' = (g, I, P)) ∧ ((I a0 4 = 0) → zk g a0 6 ∧ zk g a0 6 ∧ r = none ∧ h' = (g, zU (zU I a0 4 x1) a0 5 x2, P))) : Zt none mX6_note 0 0 0 [(0, .ref a0), (1, .int x1), (2, .int x2)] [] (g, I, P) r h' := by
  refine z_aload_n 0 dX6_note_0 rfl rfl (z_getI dX6_note_1 wf_X6_54 (by decide) (by decide) rfl H.1 ?_)
  refine z_if_ne (t := 17) dX6_note_4 (by decide) (fun q => ?_) (fun q => ?_)
  · have H1 := H.2.1 q
    obtain ⟨rfl, rfl⟩ := H1
    exact z_vret dX6_note_17 rfl (by decide) (by decide)
  · have H2 := H.2.2 q
    refine z_aload_n 0 dX6_note_7 rfl rfl (z_iload_n 1 dX6_note_8 rfl (z_putI (g := g) (I := I) (Q := P) dX6_note_9 wf_X6_54 (by decide) (by decide) rfl (Or.inl rfl) (zfit_int rfl) H2.1 (z_aload_n 0 dX6_note_12 rfl rfl (z_iload_n 2 dX6_note_13 rfl (z_putI (g := g) (I := zU I a0 4 x1) (Q := P) dX6_note_14 wf_X6_58 (by decide) (by decide) rfl (Or.inl rfl) (zfit_int rfl) H2.2.1 ?_)))))
    obtain ⟨rfl, rfl⟩ := H2.2.2
    exact z_vret dX6_note_17 rfl (by decide) (by decide)
theorem eX6_note {g : zG} {I : Nat → Nat → Int32} {P : Nat → Nat → Option Nat} {r : Option Value} {h' : zH} {a0 : Nat} {x1 : Int32} {x2 : Int32} (H : Zt none mX6_note 0 0 0 [(0, .ref a0), (1, .int x1), (2, .int x2)] [] (g, I, P) r h') : Cl mX6_note [.ref a0, .int x1, .int x2] (g, I, P) r h' := Cl.of (by decide) (Nat.le_of_ble_eq_true rfl) H
theorem dX6_lookAtHill_0 : decode cX6_lookAtHill 0 = .ok (.aload_n 0, 1) := by decide +kernel
theorem dX6_lookAtHill_1 : decode cX6_lookAtHill 1 = .ok (.getfield 12, 3) := by decide +kernel
theorem dX6_lookAtHill_4 : decode cX6_lookAtHill 4 = .ok (.getfield 239, 3) := by decide +kernel
theorem dX6_lookAtHill_7 : decode cX6_lookAtHill 7 = .ok (.aload_n 0, 1) := by decide +kernel
theorem dX6_lookAtHill_8 : decode cX6_lookAtHill 8 = .ok (.getfield 12, 3) := by decide +kernel
theorem dX6_lookAtHill_11 : decode cX6_lookAtHill 11 = .ok (.getfield 189, 3) := by decide +kernel
theorem dX6_lookAtHill_14 : decode cX6_lookAtHill 14 = .ok (.if_icmp .le 9, 3) := by decide +kernel
theorem dX6_lookAtHill_17 : decode cX6_lookAtHill 17 = .ok (.aload_n 0, 1) := by decide +kernel
theorem dX6_lookAtHill_18 : decode cX6_lookAtHill 18 = .ok (.iconst 4, 1) := by decide +kernel
theorem dX6_lookAtHill_19 : decode cX6_lookAtHill 19 = .ok (.iload_n 1, 1) := by decide +kernel
theorem dX6_lookAtHill_20 : decode cX6_lookAtHill 20 = .ok (.invokevirtual 264, 3) := by decide +kernel
theorem dX6_lookAtHill_23 : decode cX6_lookAtHill 23 = .ok (.aload_n 0, 1) := by decide +kernel
theorem dX6_lookAtHill_24 : decode cX6_lookAtHill 24 = .ok (.getfield 12, 3) := by decide +kernel
theorem dX6_lookAtHill_27 : decode cX6_lookAtHill 27 = .ok (.invokevirtual 268, 3) := by decide +kernel
theorem dX6_lookAtHill_30 : decode cX6_lookAtHill 30 = .ok (.ifCond .eq 9, 3) := by decide +kernel
theorem dX6_lookAtHill_33 : decode cX6_lookAtHill 33 = .ok (.aload_n 0, 1) := by decide +kernel
theorem dX6_lookAtHill_34 : decode cX6_lookAtHill 34 = .ok (.iconst 5, 1) := by decide +kernel
theorem dX6_lookAtHill_35 : decode cX6_lookAtHill 35 = .ok (.iload_n 1, 1) := by decide +kernel
theorem dX6_lookAtHill_36 : decode cX6_lookAtHill 36 = .ok (.invokevirtual 264, 3) := by decide +kernel
theorem dX6_lookAtHill_39 : decode cX6_lookAtHill 39 = .ok (.return_, 1) := by decide +kernel
set_option maxRecDepth 10000 in
theorem wX6_lookAtHill_0 {g : zG} {I : Nat → Nat → Int32} {P : Nat → Nat → Option Nat} {r : Option Value} {h' : zH} {a0 : Nat} {x1 : Int32} (H : zk g a0 6 ∧ ∃ b1, P a0 0 = some b1 ∧ zk g b1 3 ∧ zk g a0 6 ∧ ∃ b4, P a0 0 = some b4 ∧ zk g b4 3 ∧ ((I b1 3 ≤ I b4 1) → zk g a0 6 ∧ ∃ b8, P a0 0 = some b8 ∧ zk g b8 3 ∧ ∃ (w11 : Int32), Cl mX3_hasTwoAlike [.ref b8] (g, I, P) (some (.int w11)) (g, I, P) ∧ ((w11 = 0) → r = none ∧ h' = (g, I, P)) ∧ ((¬ w11 = 0) → zk g a0 6 ∧ ∃ (I16 : Nat → Nat → Int32), Cl mX6_note [.ref a0, .int 5, .int x1] (g, I, P) none (g, I16, P) ∧ r = none ∧ h' = (g, I16, P))) ∧ ((¬ I b1 3 ≤ I b4 1) → zk g a0 6 ∧ ∃ (I20 : Nat → Nat → Int32), Cl mX6_note [.ref a0, .int 4, .int x1] (g, I, P) none (g, I20, P) ∧ zk g a0 6 ∧ ∃ b23, P a0 0 = some b23 ∧ zk g b23 3 ∧ ∃ (w26 : Int32), Cl mX3_hasTwoAlike [.ref b23] (g, I20, P) (some (.int w26)) (g, I20, P) ∧ ((w26 = 0) → r = none ∧ h' = (g, I20, P)) ∧ ((¬ w26 = 0) → zk g a0 6 ∧ ∃ (I31 : Nat → Nat → Int32), Cl mX6_note [.ref a0, .int 5, .int x1] (g, I20, P) none (g, I31, P) ∧ r = none ∧ h' = (g, I31, P)))) : Zt none mX6_lookAtHill 0 0 0 [(0, .ref a0), (1, .int x1)] [] (g, I, P) r h' := by
  refine z_aload_n 0 dX6_lookAtHill_0 rfl rfl ?_
  obtain ⟨oe3, b1, e3, H2⟩ := H
  refine z_getP dX6_lookAtHill_1 wf_X6_12 (by decide) (by decide) rfl oe3 (fun q => (by cases q.symm.trans e3)) (fun j q => ?_)
  cases q.symm.trans e3
  refine z_getI dX6_lookAtHill_4 wf_X6_239 (by decide) (by decide) rfl H2.1 (z_aload_n 0 dX6_lookAtHill_7 rfl rfl ?_)
  obtain ⟨oe6, b4, e6, H5⟩ := H2.2
  refine z_getP dX6_lookAtHill_8 wf_X6_12 (by decide) (by decide) rfl oe6 (fun q => (by cases q.symm.trans e6)) (fun j q => ?_)
  cases q.symm.trans e6
  refine z_getI dX6_lookAtHill_11 wf_X6_189 (by decide) (by decide) rfl H5.1 ?_
  refine z_icmp_le (t := 23) dX6_lookAtHill_14 (by decide) (fun q => ?_) (fun q => ?_)
  · have H7 := H5.2.1 q
    refine z_aload_n 0 dX6_lookAtHill_23 rfl rfl ?_
    obtain ⟨oe10, b8, e10, H9⟩ := H7
    refine z_getP dX6_lookAtHill_24 wf_X6_12 (by decide) (by decide) rfl oe10 (fun q => (by cases q.symm.trans e10)) (fun j q => ?_)
    cases q.symm.trans e10
    obtain ⟨oc12, w11, c12, H13⟩ := H9
    refine z_virt (As := []) (st := []) (r1 := (some (.int w11))) (h1 := (g, I, P)) dX6_lookAtHill_27 kX3_hasTwoAlike wm_X6_268 ⟨by decide, by decide⟩ rfl rfl (Nat.le_of_ble_eq_true rfl) (by decide) (by decide) oc12 c12 ?_
    refine z_if_eq (t := 39) dX6_lookAtHill_30 (by decide) (fun q => ?_) (fun q => ?_)
    · have H14 := H13.1 q
      obtain ⟨rfl, rfl⟩ := H14
      exact z_vret dX6_lookAtHill_39 rfl (by decide) (by decide)
    · have H15 := H13.2 q
      refine z_aload_n 0 dX6_lookAtHill_33 rfl rfl (z_iconst (w := 5) dX6_lookAtHill_34 (by decide) (z_iload_n 1 dX6_lookAtHill_35 rfl ?_))
      obtain ⟨oc17, I16, c17, H18⟩ := H15
      refine z_virt (As := [.int 5, .int x1]) (st := []) (r1 := none) (h1 := (g, I16, P)) dX6_lookAtHill_36 kX6_note wm_X6_264 ⟨by decide, by decide⟩ rfl rfl (Nat.le_of_ble_eq_true rfl) (by decide) (by decide) oc17 c17 ?_
      obtain ⟨rfl, rfl⟩ := H18
      exact z_vret dX6_lookAtHill_39 rfl (by decide) (by decide)
  · have H19 := H5.2.2 q
    refine z_aload_n 0 dX6_lookAtHill_17 rfl rfl (z_iconst (w := 4) dX6_lookAtHill_18 (by decide) (z_iload_n 1 dX6_lookAtHill_19 rfl ?_))
    obtain ⟨oc21, I20, c21, H22⟩ := H19
    refine z_virt (As := [.int 4, .int x1]) (st := []) (r1 := none) (h1 := (g, I20, P)) dX6_lookAtHill_20 kX6_note wm_X6_264 ⟨by decide, by decide⟩ rfl rfl (Nat.le_of_ble_eq_true rfl) (by decide) (by decide) oc21 c21 ?_
    refine z_aload_n 0 dX6_lookAtHill_23 rfl rfl ?_
    obtain ⟨oe25, b23, e25, H24⟩ := H22
    refine z_getP dX6_lookAtHill_24 wf_X6_12 (by decide) (by decide) rfl oe25 (fun q => (by cases q.symm.trans e25)) (fun j q => ?_)
    cases q.symm.trans e25
    obtain ⟨oc27, w26, c27, H28⟩ := H24
    refine z_virt (As := []) (st := []) (r1 := (some (.int w26))) (h1 := (g, I20, P)) dX6_lookAtHill_27 kX3_hasTwoAlike wm_X6_268 ⟨by decide, by decide⟩ rfl rfl (Nat.le_of_ble_eq_true rfl) (by decide) (by decide) oc27 c27 ?_
    refine z_if_eq (t := 39) dX6_lookAtHill_30 (by decide) (fun q => ?_) (fun q => ?_)
    · have H29 := H28.1 q
      obtain ⟨rfl, rfl⟩ := H29
      exact z_vret dX6_lookAtHill_39 rfl (by decide) (by decide)
    · have H30 := H28.2 q
      refine z_aload_n 0 dX6_lookAtHill_33 rfl rfl (z_iconst (w := 5) dX6_lookAtHill_34 (by decide) (z_iload_n 1 dX6_lookAtHill_35 rfl ?_))
      obtain ⟨oc32, I31, c32, H33⟩ := H30
      refine z_virt (As := [.int 5, .int x1]) (st := []) (r1 := none) (h1 := (g, I31, P)) dX6_lookAtHill_36 kX6_note wm_X6_264 ⟨by decide, by decide⟩ rfl rfl (Nat.le_of_ble_eq_true rfl) (by decide) (by decide) oc32 c32 ?_
      obtain ⟨rfl, rfl⟩ := H33
      exact z_vret dX6_lookAtHill_39 rfl (by decide) (by decide)
theorem eX6_lookAtHill {g : zG} {I : Nat → Nat → Int32} {P : Nat → Nat → Option Nat} {r : Option Value} {h' : zH} {a0 : Nat} {x1 : Int32} (H : Zt none mX6_lookAtHill 0 0 0 [(0, .ref a0), (1, .int x1)] [] (g, I, P) r h') : Cl mX6_lookAtHill [.ref a0, .int x1] (g, I, P) r h' := Cl.of (by decide) (Nat.le_of_ble_eq_true rfl) H
theorem dX10_rowsOf_0 : decode cX10_rowsOf 0 = .ok (.iload_n 2, 1) := by decide +kernel
theorem dX10_rowsOf_1 : decode cX10_rowsOf 1 = .ok (.ifCond .ne 5, 3) := by decide +kernel
theorem dX10_rowsOf_4 : decode cX10_rowsOf 4 = .ok (.iconst 1, 1) := by decide +kernel
theorem dX10_rowsOf_5 : decode cX10_rowsOf 5 = .ok (.ireturn, 1) := by decide +kernel
theorem dX10_rowsOf_6 : decode cX10_rowsOf 6 = .ok (.aload_n 0, 1) := by decide +kernel
theorem dX10_rowsOf_7 : decode cX10_rowsOf 7 = .ok (.getfield 9, 3) := by decide +kernel
theorem dX10_rowsOf_10 : decode cX10_rowsOf 10 = .ok (.iconst 1, 1) := by decide +kernel
theorem dX10_rowsOf_11 : decode cX10_rowsOf 11 = .ok (.invokestatic 24, 3) := by decide +kernel
theorem dX10_rowsOf_14 : decode cX10_rowsOf 14 = .ok (.iconst 2, 1) := by decide +kernel
theorem dX10_rowsOf_15 : decode cX10_rowsOf 15 = .ok (.istore_n 3, 1) := by decide +kernel
theorem dX10_rowsOf_16 : decode cX10_rowsOf 16 = .ok (.iload_n 3, 1) := by decide +kernel
theorem dX10_rowsOf_17 : decode cX10_rowsOf 17 = .ok (.iload_n 2, 1) := by decide +kernel
theorem dX10_rowsOf_18 : decode cX10_rowsOf 18 = .ok (.if_icmp .gt 57, 3) := by decide +kernel
theorem dX10_rowsOf_21 : decode cX10_rowsOf 21 = .ok (.iconst 0, 1) := by decide +kernel
theorem dX10_rowsOf_22 : decode cX10_rowsOf 22 = .ok (.istore 4, 2) := by decide +kernel
theorem dX10_rowsOf_24 : decode cX10_rowsOf 24 = .ok (.iload 4, 2) := by decide +kernel
theorem dX10_rowsOf_26 : decode cX10_rowsOf 26 = .ok (.aload_n 1, 1) := by decide +kernel
theorem dX10_rowsOf_27 : decode cX10_rowsOf 27 = .ok (.getfield 30, 3) := by decide +kernel
theorem dX10_rowsOf_30 : decode cX10_rowsOf 30 = .ok (.if_icmp .ge 28, 3) := by decide +kernel
theorem dX10_rowsOf_33 : decode cX10_rowsOf 33 = .ok (.aload_n 0, 1) := by decide +kernel
theorem dX10_rowsOf_34 : decode cX10_rowsOf 34 = .ok (.getfield 15, 3) := by decide +kernel
theorem dX10_rowsOf_37 : decode cX10_rowsOf 37 = .ok (.iload 4, 2) := by decide +kernel
theorem dX10_rowsOf_39 : decode cX10_rowsOf 39 = .ok (.aload_n 0, 1) := by decide +kernel
theorem dX10_rowsOf_40 : decode cX10_rowsOf 40 = .ok (.aload_n 1, 1) := by decide +kernel
theorem dX10_rowsOf_41 : decode cX10_rowsOf 41 = .ok (.iload 4, 2) := by decide +kernel
theorem dX10_rowsOf_43 : decode cX10_rowsOf 43 = .ok (.invokevirtual 36, 3) := by decide +kernel
theorem dX10_rowsOf_46 : decode cX10_rowsOf 46 = .ok (.invokevirtual 40, 3) := by decide +kernel
theorem dX10_rowsOf_49 : decode cX10_rowsOf 49 = .ok (.invokestatic 43, 3) := by decide +kernel
theorem dX10_rowsOf_52 : decode cX10_rowsOf 52 = .ok (.iinc 4 1, 3) := by decide +kernel
theorem dX10_rowsOf_55 : decode cX10_rowsOf 55 = .ok (.goto (-31), 3) := by decide +kernel
theorem dX10_rowsOf_58 : decode cX10_rowsOf 58 = .ok (.aload_n 0, 1) := by decide +kernel
theorem dX10_rowsOf_59 : decode cX10_rowsOf 59 = .ok (.getfield 15, 3) := by decide +kernel
theorem dX10_rowsOf_62 : decode cX10_rowsOf 62 = .ok (.aload_n 0, 1) := by decide +kernel
theorem dX10_rowsOf_63 : decode cX10_rowsOf 63 = .ok (.getfield 9, 3) := by decide +kernel
theorem dX10_rowsOf_66 : decode cX10_rowsOf 66 = .ok (.invokestatic 47, 3) := by decide +kernel
theorem dX10_rowsOf_69 : decode cX10_rowsOf 69 = .ok (.iinc 3 1, 3) := by decide +kernel
theorem dX10_rowsOf_72 : decode cX10_rowsOf 72 = .ok (.goto (-56), 3) := by decide +kernel
theorem dX10_rowsOf_75 : decode cX10_rowsOf 75 = .ok (.aload_n 0, 1) := by decide +kernel
theorem dX10_rowsOf_76 : decode cX10_rowsOf 76 = .ok (.aload_n 1, 1) := by decide +kernel
theorem dX10_rowsOf_77 : decode cX10_rowsOf 77 = .ok (.invokevirtual 51, 3) := by decide +kernel
theorem dX10_rowsOf_80 : decode cX10_rowsOf 80 = .ok (.invokevirtual 40, 3) := by decide +kernel
theorem dX10_rowsOf_83 : decode cX10_rowsOf 83 = .ok (.ireturn, 1) := by decide +kernel
set_option maxRecDepth 10000 in
theorem wX10_rowsOf_0 {g : zG} {I : Nat → Nat → Int32} {P : Nat → Nat → Option Nat} {r : Option Value} {h' : zH} {a0 : Nat} {a1 : Nat} {x2 : Int32} (H : ((¬ x2 = 0) → zk g a0 10 ∧ ∃ b2, P a0 0 = some b2 ∧ ∃ (I5 : Nat → Nat → Int32), Cl mJ7_fill_53178 [.ref b2, .int 1] (g, I, P) none (g, I5, P) ∧ Zt none mX10_rowsOf 0 0 16 [(0, .ref a0), (1, .ref a1), (2, .int x2), (3, .int 2)] [] (g, I5, P) r h') ∧ ((x2 = 0) → r = some (.int 1) ∧ h' = (g, I, P))) : Zt none mX10_rowsOf 0 0 0 [(0, .ref a0), (1, .ref a1), (2, .int x2)] [] (g, I, P) r h' := by
  refine z_iload_n 2 dX10_rowsOf_0 rfl ?_
  refine z_if_ne (t := 6) dX10_rowsOf_1 (by decide) (fun q => ?_) (fun q => ?_)
  · have H1 := H.1 q
    refine z_aload_n 0 dX10_rowsOf_6 rfl rfl ?_
    obtain ⟨oe4, b2, e4, H3⟩ := H1
    refine z_getP dX10_rowsOf_7 wf_X10_9 (by decide) (by decide) rfl oe4 (fun q => (by cases q.symm.trans e4)) (fun j q => ?_)
    cases q.symm.trans e4
    refine z_iconst (w := 1) dX10_rowsOf_10 (by decide) ?_
    obtain ⟨I5, c6, H7⟩ := H3
    refine z_stat (As := [.ref b2, .int 1]) (st := []) (r1 := none) (h1 := (g, I5, P)) dX10_rowsOf_11 kJ7_fill_53178 wm_X10_24 ⟨by decide, by decide⟩ rfl rfl (Nat.le_of_ble_eq_true rfl) (by decide) (by decide) c6 ?_
    refine z_iconst (w := 2) dX10_rowsOf_14 (by decide) (z_istore_n (lv' := [(3, .int 2), (0, .ref a0), (1, .ref a1), (2, .int x2)]) dX10_rowsOf_15 (by decide) rfl ?_)
    exact z_less [1, 2, 3, 0] rfl H7
  · have H8 := H.2 q
    refine z_iconst (w := 1) dX10_rowsOf_4 (by decide) ?_
    obtain ⟨rfl, rfl⟩ := H8
    exact z_iret dX10_rowsOf_5 rfl (by decide) (by decide)
theorem eX10_rowsOf {g : zG} {I : Nat → Nat → Int32} {P : Nat → Nat → Option Nat} {r : Option Value} {h' : zH} {a0 : Nat} {a1 : Nat} {x2 : Int32} (H : Zt none mX10_rowsOf 0 0 0 [(0, .ref a0), (1, .ref a1), (2, .int x2)] [] (g, I, P) r h') : Cl mX10_rowsOf [.ref a0, .ref a1, .int x2] (g, I, P) r h' := Cl.of (by decide) (Nat.le_of_ble_eq_true rfl) H
set_option maxRecDepth 10000 in
theorem wX10_rowsOf_16 {g : zG} {I : Nat → Nat → Int32} {P : Nat → Nat → Option Nat} {r : Option Value} {h' : zH} {a0 : Nat} {a1 : Nat} {x2 : Int32} {x3 : Int32} (H : ((x2 < x3) → zk g a1 3 ∧ ∃ (w2 : Int32), Cl mX3_all [.ref a1] (g, I, P) (some (.int w2)) (g, I, P) ∧ zk g a0 10 ∧ ∃ (w5 : Int32), Cl mX10_sumOf [.ref a0, .int w2] (g, I, P) (some (.int w5)) (g, I, P) ∧ r = some (.int w5) ∧ h' = (g, I, P)) ∧ ((¬ x2 < x3) → Zt none mX10_rowsOf 0 0 24 [(0, .ref a0), (1, .ref a1), (2, .int x2), (3, .int x3), (4, .int 0)] [] (g, I, P) r h')) : Zt none mX10_rowsOf 0 0 16 [(0, .ref a0), (1, .ref a1), (2, .int x2), (3, .int x3)] [] (g, I, P) r h' := by
  refine z_iload_n 3 dX10_rowsOf_16 rfl (z_iload_n 2 dX10_rowsOf_17 rfl ?_)
  refine z_icmp_gt (t := 75) dX10_rowsOf_18 (by decide) (fun q => ?_) (fun q => ?_)
  · have H1 := H.1 q
    refine z_aload_n 0 dX10_rowsOf_75 rfl rfl (z_aload_n 1 dX10_rowsOf_76 rfl rfl ?_)
    obtain ⟨oc3, w2, c3, H4⟩ := H1
    refine z_virt (As := []) (st := [.ref a0]) (r1 := (some (.int w2))) (h1 := (g, I, P)) dX10_rowsOf_77 kX3_all wm_X10_51 ⟨by decide, by decide⟩ rfl rfl (Nat.le_of_ble_eq_true rfl) (by decide) (by decide) oc3 c3 ?_
    obtain ⟨oc6, w5, c6, H7⟩ := H4
    refine z_virt (As := [.int w2]) (st := []) (r1 := (some (.int w5))) (h1 := (g, I, P)) dX10_rowsOf_80 kX10_sumOf wm_X10_40 ⟨by decide, by decide⟩ rfl rfl (Nat.le_of_ble_eq_true rfl) (by decide) (by decide) oc6 c6 ?_
    obtain ⟨rfl, rfl⟩ := H7
    exact z_iret dX10_rowsOf_83 rfl (by decide) (by decide)
  · have H8 := H.2 q
    refine z_iconst (w := 0) dX10_rowsOf_21 (by decide) (z_istore (lv' := [(4, .int 0), (0, .ref a0), (1, .ref a1), (2, .int x2), (3, .int x3)]) dX10_rowsOf_22 (by decide) rfl ?_)
    exact z_less [1, 2, 3, 4, 0] rfl H8
set_option maxRecDepth 10000 in
theorem wX10_rowsOf_24 {g : zG} {I : Nat → Nat → Int32} {P : Nat → Nat → Option Nat} {r : Option Value} {h' : zH} {a0 : Nat} {a1 : Nat} {x2 : Int32} {x3 : Int32} {x4 : Int32} (H : zk g a1 3 ∧ ((I a1 1 ≤ x4) → zk g a0 10 ∧ ∃ b2, P a0 1 = some b2 ∧ zk g a0 10 ∧ ∃ b5, P a0 0 = some b5 ∧ ∃ (I8 : Nat → Nat → Int32), Cl mX11_copyRow [.ref b2, .ref b5] (g, I, P) none (g, I8, P) ∧ Zt none mX10_rowsOf 0 0 16 [(0, .ref a0), (1, .ref a1), (2, .int x2), (3, .int (x3 + 1))] [] (g, I8, P) r h') ∧ ((¬ I a1 1 ≤ x4) → zk g a0 10 ∧ ∃ b12, P a0 1 = some b12 ∧ zk g a1 3 ∧ ∃ (w15 : Int32), Cl mX3_behind [.ref a1, .int x4] (g, I, P) (some (.int w15)) (g, I, P) ∧ zk g a0 10 ∧ ∃ (w18 : Int32), Cl mX10_sumOf [.ref a0, .int w15] (g, I, P) (some (.int w18)) (g, I, P) ∧ ∃ (I21 : Nat → Nat → Int32), Cl mX11_put [.ref b12, .int x4, .int w18] (g, I, P) none (g, I21, P) ∧ Zt none mX10_rowsOf 0 0 24 [(0, .ref a0), (1, .ref a1), (2, .int x2), (3, .int x3), (4, .int (x4 + 1))] [] (g, I21, P) r h')) : Zt none mX10_rowsOf 0 0 24 [(0, .ref a0), (1, .ref a1), (2, .int x2), (3, .int x3), (4, .int x4)] [] (g, I, P) r h' := by
  refine z_iload 4 dX10_rowsOf_24 rfl (z_aload_n 1 dX10_rowsOf_26 rfl rfl (z_getI dX10_rowsOf_27 wf_X10_30 (by decide) (by decide) rfl H.1 ?_))
  refine z_icmp_ge (t := 58) dX10_rowsOf_30 (by decide) (fun q => ?_) (fun q => ?_)
  · have H1 := H.2.1 q
    refine z_aload_n 0 dX10_rowsOf_58 rfl rfl ?_
    obtain ⟨oe4, b2, e4, H3⟩ := H1
    refine z_getP dX10_rowsOf_59 wf_X10_15 (by decide) (by decide) rfl oe4 (fun q => (by cases q.symm.trans e4)) (fun j q => ?_)
    cases q.symm.trans e4
    refine z_aload_n 0 dX10_rowsOf_62 rfl rfl ?_
    obtain ⟨oe7, b5, e7, H6⟩ := H3
    refine z_getP dX10_rowsOf_63 wf_X10_9 (by decide) (by decide) rfl oe7 (fun q => (by cases q.symm.trans e7)) (fun j q => ?_)
    cases q.symm.trans e7
    obtain ⟨I8, c9, H10⟩ := H6
    refine z_stat (As := [.ref b2, .ref b5]) (st := []) (r1 := none) (h1 := (g, I8, P)) dX10_rowsOf_66 kX11_copyRow wm_X10_47 ⟨by decide, by decide⟩ rfl rfl (Nat.le_of_ble_eq_true rfl) (by decide) (by decide) c9 ?_
    refine z_iinc (y := x3 + 1) (lv' := [(3, .int (x3 + 1)), (0, .ref a0), (1, .ref a1), (2, .int x2), (4, .int x4)]) 3 dX10_rowsOf_69 rfl rfl (by decide) rfl (z_goto (t := 16) dX10_rowsOf_72 (by decide) ?_)
    exact z_less [1, 2, 3, 0] rfl H10
  · have H11 := H.2.2 q
    refine z_aload_n 0 dX10_rowsOf_33 rfl rfl ?_
    obtain ⟨oe14, b12, e14, H13⟩ := H11
    refine z_getP dX10_rowsOf_34 wf_X10_15 (by decide) (by decide) rfl oe14 (fun q => (by cases q.symm.trans e14)) (fun j q => ?_)
    cases q.symm.trans e14
    refine z_iload 4 dX10_rowsOf_37 rfl (z_aload_n 0 dX10_rowsOf_39 rfl rfl (z_aload_n 1 dX10_rowsOf_40 rfl rfl (z_iload 4 dX10_rowsOf_41 rfl ?_)))
    obtain ⟨oc16, w15, c16, H17⟩ := H13
    refine z_virt (As := [.int x4]) (st := [.ref a0, .int x4, .ref b12]) (r1 := (some (.int w15))) (h1 := (g, I, P)) dX10_rowsOf_43 kX3_behind wm_X10_36 ⟨by decide, by decide⟩ rfl rfl (Nat.le_of_ble_eq_true rfl) (by decide) (by decide) oc16 c16 ?_
    obtain ⟨oc19, w18, c19, H20⟩ := H17
    refine z_virt (As := [.int w15]) (st := [.int x4, .ref b12]) (r1 := (some (.int w18))) (h1 := (g, I, P)) dX10_rowsOf_46 kX10_sumOf wm_X10_40 ⟨by decide, by decide⟩ rfl rfl (Nat.le_of_ble_eq_true rfl) (by decide) (by decide) oc19 c19 ?_
    obtain ⟨I21, c22, H23⟩ := H20
    refine z_stat (As := [.ref b12, .int x4, .int w18]) (st := []) (r1 := none) (h1 := (g, I21, P)) dX10_rowsOf_49 kX11_put wm_X10_43 ⟨by decide, by decide⟩ rfl rfl (Nat.le_of_ble_eq_true rfl) (by decide) (by decide) c22 ?_
    refine z_iinc (y := x4 + 1) (lv' := [(4, .int (x4 + 1)), (0, .ref a0), (1, .ref a1), (2, .int x2), (3, .int x3)]) 4 dX10_rowsOf_52 rfl rfl (by decide) rfl (z_goto (t := 24) dX10_rowsOf_55 (by decide) ?_)
    exact z_less [1, 2, 3, 4, 0] rfl H23
theorem dX10_sumOf_0 : decode cX10_sumOf 0 = .ok (.iconst 0, 1) := by decide +kernel
theorem dX10_sumOf_1 : decode cX10_sumOf 1 = .ok (.istore_n 2, 1) := by decide +kernel
theorem dX10_sumOf_2 : decode cX10_sumOf 2 = .ok (.iconst 0, 1) := by decide +kernel
theorem dX10_sumOf_3 : decode cX10_sumOf 3 = .ok (.istore_n 3, 1) := by decide +kernel
theorem dX10_sumOf_4 : decode cX10_sumOf 4 = .ok (.iload_n 3, 1) := by decide +kernel
theorem dX10_sumOf_5 : decode cX10_sumOf 5 = .ok (.bipush 10, 2) := by decide +kernel
theorem dX10_sumOf_7 : decode cX10_sumOf 7 = .ok (.if_icmp .ge 28, 3) := by decide +kernel
theorem dX10_sumOf_10 : decode cX10_sumOf 10 = .ok (.iload_n 1, 1) := by decide +kernel
theorem dX10_sumOf_11 : decode cX10_sumOf 11 = .ok (.iload_n 3, 1) := by decide +kernel
theorem dX10_sumOf_12 : decode cX10_sumOf 12 = .ok (.invokestatic 55, 3) := by decide +kernel
theorem dX10_sumOf_15 : decode cX10_sumOf 15 = .ok (.ifCond .eq 14, 3) := by decide +kernel
theorem dX10_sumOf_18 : decode cX10_sumOf 18 = .ok (.iload_n 2, 1) := by decide +kernel
theorem dX10_sumOf_19 : decode cX10_sumOf 19 = .ok (.aload_n 0, 1) := by decide +kernel
theorem dX10_sumOf_20 : decode cX10_sumOf 20 = .ok (.getfield 9, 3) := by decide +kernel
theorem dX10_sumOf_23 : decode cX10_sumOf 23 = .ok (.iload_n 3, 1) := by decide +kernel
theorem dX10_sumOf_24 : decode cX10_sumOf 24 = .ok (.invokestatic 59, 3) := by decide +kernel
theorem dX10_sumOf_27 : decode cX10_sumOf 27 = .ok (.iadd, 1) := by decide +kernel
theorem dX10_sumOf_28 : decode cX10_sumOf 28 = .ok (.istore_n 2, 1) := by decide +kernel
theorem dX10_sumOf_29 : decode cX10_sumOf 29 = .ok (.iinc 3 1, 3) := by decide +kernel
theorem dX10_sumOf_32 : decode cX10_sumOf 32 = .ok (.goto (-28), 3) := by decide +kernel
theorem dX10_sumOf_35 : decode cX10_sumOf 35 = .ok (.iload_n 2, 1) := by decide +kernel
theorem dX10_sumOf_36 : decode cX10_sumOf 36 = .ok (.ireturn, 1) := by decide +kernel
set_option maxRecDepth 10000 in
theorem wX10_sumOf_0 {g : zG} {I : Nat → Nat → Int32} {P : Nat → Nat → Option Nat} {r : Option Value} {h' : zH} {a0 : Nat} {x1 : Int32} (H : Zt none mX10_sumOf 0 0 4 [(0, .ref a0), (1, .int x1), (2, .int 0), (3, .int 0)] [] (g, I, P) r h') : Zt none mX10_sumOf 0 0 0 [(0, .ref a0), (1, .int x1)] [] (g, I, P) r h' := by
  refine z_iconst (w := 0) dX10_sumOf_0 (by decide) (z_istore_n (lv' := [(2, .int 0), (0, .ref a0), (1, .int x1)]) dX10_sumOf_1 (by decide) rfl (z_iconst (w := 0) dX10_sumOf_2 (by decide) (z_istore_n (lv' := [(3, .int 0), (2, .int 0), (0, .ref a0), (1, .int x1)]) dX10_sumOf_3 (by decide) rfl ?_)))
  exact z_less [2, 3, 1, 0] rfl H
theorem eX10_sumOf {g : zG} {I : Nat → Nat → Int32} {P : Nat → Nat → Option Nat} {r : Option Value} {h' : zH} {a0 : Nat} {x1 : Int32} (H : Zt none mX10_sumOf 0 0 0 [(0, .ref a0), (1, .int x1)] [] (g, I, P) r h') : Cl mX10_sumOf [.ref a0, .int x1] (g, I, P) r h' := Cl.of (by decide) (Nat.le_of_ble_eq_true rfl) H
set_option maxRecDepth 10000 in
theorem wX10_sumOf_4 {g : zG} {I : Nat → Nat → Int32} {P : Nat → Nat → Option Nat} {r : Option Value} {h' : zH} {a0 : Nat} {x1 : Int32} {x2 : Int32} {x3 : Int32} (H : ((10 ≤ x3) → r = some (.int x2) ∧ h' = (g, I, P)) ∧ ((¬ 10 ≤ x3) → ∃ (w3 : Int32), Cl mX11_has [.int x1, .int x3] (g, I, P) (some (.int w3)) (g, I, P) ∧ ((w3 = 0) → Zt none mX10_sumOf 0 0 4 [(0, .ref a0), (1, .int x1), (2, .int x2), (3, .int (x3 + 1))] [] (g, I, P) r h') ∧ ((¬ w3 = 0) → zk g a0 10 ∧ ∃ b8, P a0 0 = some b8 ∧ ∃ (w11 : Int32), Cl mX11_got [.ref b8, .int x3] (g, I, P) (some (.int w11)) (g, I, P) ∧ Zt none mX10_sumOf 0 0 4 [(0, .ref a0), (1, .int x1), (2, .int (x2 + w11)), (3, .int (x3 + 1))] [] (g, I, P) r h'))) : Zt none mX10_sumOf 0 0 4 [(0, .ref a0), (1, .int x1), (2, .int x2), (3, .int x3)] [] (g, I, P) r h' := by
  refine z_iload_n 3 dX10_sumOf_4 rfl (z_bipush (w := 10) dX10_sumOf_5 (by decide) ?_)
  refine z_icmp_ge (t := 35) dX10_sumOf_7 (by decide) (fun q => ?_) (fun q => ?_)
  · have H1 := H.1 q
    refine z_iload_n 2 dX10_sumOf_35 rfl ?_
    obtain ⟨rfl, rfl⟩ := H1
    exact z_iret dX10_sumOf_36 rfl (by decide) (by decide)
  · have H2 := H.2 q
    refine z_iload_n 1 dX10_sumOf_10 rfl (z_iload_n 3 dX10_sumOf_11 rfl ?_)
    obtain ⟨w3, c4, H5⟩ := H2
    refine z_stat (As := [.int x1, .int x3]) (st := []) (r1 := (some (.int w3))) (h1 := (g, I, P)) dX10_sumOf_12 kX11_has wm_X10_55 ⟨by decide, by decide⟩ rfl rfl (Nat.le_of_ble_eq_true rfl) (by decide) (by decide) c4 ?_
    refine z_if_eq (t := 29) dX10_sumOf_15 (by decide) (fun q => ?_) (fun q => ?_)
    · have H6 := H5.1 q
      refine z_iinc (y := x3 + 1) (lv' := [(3, .int (x3 + 1)), (0, .ref a0), (1, .int x1), (2, .int x2)]) 3 dX10_sumOf_29 rfl rfl (by decide) rfl (z_goto (t := 4) dX10_sumOf_32 (by decide) ?_)
      exact z_less [1, 2, 3, 0] rfl H6
    · have H7 := H5.2 q
      refine z_iload_n 2 dX10_sumOf_18 rfl (z_aload_n 0 dX10_sumOf_19 rfl rfl ?_)
      obtain ⟨oe10, b8, e10, H9⟩ := H7
      refine z_getP dX10_sumOf_20 wf_X10_9 (by decide) (by decide) rfl oe10 (fun q => (by cases q.symm.trans e10)) (fun j q => ?_)
      cases q.symm.trans e10
      refine z_iload_n 3 dX10_sumOf_23 rfl ?_
      obtain ⟨w11, c12, H13⟩ := H9
      refine z_stat (As := [.ref b8, .int x3]) (st := [.int x2]) (r1 := (some (.int w11))) (h1 := (g, I, P)) dX10_sumOf_24 kX11_got wm_X10_59 ⟨by decide, by decide⟩ rfl rfl (Nat.le_of_ble_eq_true rfl) (by decide) (by decide) c12 ?_
      refine z_iadd dX10_sumOf_27 (z_istore_n (lv' := [(2, .int (x2 + w11)), (0, .ref a0), (1, .int x1), (3, .int x3)]) dX10_sumOf_28 (by decide) rfl (z_iinc (y := x3 + 1) (lv' := [(3, .int (x3 + 1)), (2, .int (x2 + w11)), (0, .ref a0), (1, .int x1)]) 3 dX10_sumOf_29 rfl rfl (by decide) rfl (z_goto (t := 4) dX10_sumOf_32 (by decide) ?_)))
      exact z_less [2, 3, 1, 0] rfl H13
theorem dX10_shortestReadTwice_0 : decode cX10_shortestReadTwice 0 = .ok (.aload_n 0, 1) := by decide +kernel
theorem dX10_shortestReadTwice_1 : decode cX10_shortestReadTwice 1 = .ok (.getfield 21, 3) := by decide +kernel
theorem dX10_shortestReadTwice_4 : decode cX10_shortestReadTwice 4 = .ok (.sipush 1000, 3) := by decide +kernel
theorem dX10_shortestReadTwice_7 : decode cX10_shortestReadTwice 7 = .ok (.invokestatic 24, 3) := by decide +kernel
theorem dX10_shortestReadTwice_10 : decode cX10_shortestReadTwice 10 = .ok (.iconst 0, 1) := by decide +kernel
theorem dX10_shortestReadTwice_11 : decode cX10_shortestReadTwice 11 = .ok (.istore_n 2, 1) := by decide +kernel
theorem dX10_shortestReadTwice_12 : decode cX10_shortestReadTwice 12 = .ok (.iload_n 2, 1) := by decide +kernel
theorem dX10_shortestReadTwice_13 : decode cX10_shortestReadTwice 13 = .ok (.aload_n 1, 1) := by decide +kernel
theorem dX10_shortestReadTwice_14 : decode cX10_shortestReadTwice 14 = .ok (.getfield 30, 3) := by decide +kernel
theorem dX10_shortestReadTwice_17 : decode cX10_shortestReadTwice 17 = .ok (.if_icmp .ge 56, 3) := by decide +kernel
theorem dX10_shortestReadTwice_20 : decode cX10_shortestReadTwice 20 = .ok (.iconst 0, 1) := by decide +kernel
theorem dX10_shortestReadTwice_21 : decode cX10_shortestReadTwice 21 = .ok (.istore_n 3, 1) := by decide +kernel
theorem dX10_shortestReadTwice_22 : decode cX10_shortestReadTwice 22 = .ok (.iload_n 3, 1) := by decide +kernel
theorem dX10_shortestReadTwice_23 : decode cX10_shortestReadTwice 23 = .ok (.aload_n 1, 1) := by decide +kernel
theorem dX10_shortestReadTwice_24 : decode cX10_shortestReadTwice 24 = .ok (.getfield 30, 3) := by decide +kernel
theorem dX10_shortestReadTwice_27 : decode cX10_shortestReadTwice 27 = .ok (.if_icmp .ge 40, 3) := by decide +kernel
theorem dX10_shortestReadTwice_30 : decode cX10_shortestReadTwice 30 = .ok (.aload_n 1, 1) := by decide +kernel
theorem dX10_shortestReadTwice_31 : decode cX10_shortestReadTwice 31 = .ok (.iload_n 3, 1) := by decide +kernel
theorem dX10_shortestReadTwice_32 : decode cX10_shortestReadTwice 32 = .ok (.iload_n 2, 1) := by decide +kernel
theorem dX10_shortestReadTwice_33 : decode cX10_shortestReadTwice 33 = .ok (.invokevirtual 63, 3) := by decide +kernel
theorem dX10_shortestReadTwice_36 : decode cX10_shortestReadTwice 36 = .ok (.ifCond .eq 25, 3) := by decide +kernel
theorem dX10_shortestReadTwice_39 : decode cX10_shortestReadTwice 39 = .ok (.aload_n 0, 1) := by decide +kernel
theorem dX10_shortestReadTwice_40 : decode cX10_shortestReadTwice 40 = .ok (.aload_n 1, 1) := by decide +kernel
theorem dX10_shortestReadTwice_41 : decode cX10_shortestReadTwice 41 = .ok (.iload_n 2, 1) := by decide +kernel
theorem dX10_shortestReadTwice_42 : decode cX10_shortestReadTwice 42 = .ok (.invokevirtual 66, 3) := by decide +kernel
theorem dX10_shortestReadTwice_45 : decode cX10_shortestReadTwice 45 = .ok (.aload_n 1, 1) := by decide +kernel
theorem dX10_shortestReadTwice_46 : decode cX10_shortestReadTwice 46 = .ok (.iload_n 3, 1) := by decide +kernel
theorem dX10_shortestReadTwice_47 : decode cX10_shortestReadTwice 47 = .ok (.invokevirtual 66, 3) := by decide +kernel
theorem dX10_shortestReadTwice_50 : decode cX10_shortestReadTwice 50 = .ok (.isub, 1) := by decide +kernel
theorem dX10_shortestReadTwice_51 : decode cX10_shortestReadTwice 51 = .ok (.iload_n 2, 1) := by decide +kernel
theorem dX10_shortestReadTwice_52 : decode cX10_shortestReadTwice 52 = .ok (.iload_n 3, 1) := by decide +kernel
theorem dX10_shortestReadTwice_53 : decode cX10_shortestReadTwice 53 = .ok (.aload_n 1, 1) := by decide +kernel
theorem dX10_shortestReadTwice_54 : decode cX10_shortestReadTwice 54 = .ok (.iload_n 2, 1) := by decide +kernel
theorem dX10_shortestReadTwice_55 : decode cX10_shortestReadTwice 55 = .ok (.invokevirtual 66, 3) := by decide +kernel
theorem dX10_shortestReadTwice_58 : decode cX10_shortestReadTwice 58 = .ok (.invokevirtual 69, 3) := by decide +kernel
theorem dX10_shortestReadTwice_61 : decode cX10_shortestReadTwice 61 = .ok (.iinc 3 1, 3) := by decide +kernel
theorem dX10_shortestReadTwice_64 : decode cX10_shortestReadTwice 64 = .ok (.goto (-42), 3) := by decide +kernel
theorem dX10_shortestReadTwice_67 : decode cX10_shortestReadTwice 67 = .ok (.iinc 2 1, 3) := by decide +kernel
theorem dX10_shortestReadTwice_70 : decode cX10_shortestReadTwice 70 = .ok (.goto (-58), 3) := by decide +kernel
theorem dX10_shortestReadTwice_73 : decode cX10_shortestReadTwice 73 = .ok (.iconst 1, 1) := by decide +kernel
theorem dX10_shortestReadTwice_74 : decode cX10_shortestReadTwice 74 = .ok (.istore_n 2, 1) := by decide +kernel
theorem dX10_shortestReadTwice_75 : decode cX10_shortestReadTwice 75 = .ok (.iload_n 2, 1) := by decide +kernel
theorem dX10_shortestReadTwice_76 : decode cX10_shortestReadTwice 76 = .ok (.bipush 24, 2) := by decide +kernel
theorem dX10_shortestReadTwice_78 : decode cX10_shortestReadTwice 78 = .ok (.if_icmp .gt 20, 3) := by decide +kernel
theorem dX10_shortestReadTwice_81 : decode cX10_shortestReadTwice 81 = .ok (.aload_n 0, 1) := by decide +kernel
theorem dX10_shortestReadTwice_82 : decode cX10_shortestReadTwice 82 = .ok (.aload_n 1, 1) := by decide +kernel
theorem dX10_shortestReadTwice_83 : decode cX10_shortestReadTwice 83 = .ok (.iload_n 2, 1) := by decide +kernel
theorem dX10_shortestReadTwice_84 : decode cX10_shortestReadTwice 84 = .ok (.invokevirtual 73, 3) := by decide +kernel
theorem dX10_shortestReadTwice_87 : decode cX10_shortestReadTwice 87 = .ok (.ifCond .eq 5, 3) := by decide +kernel
theorem dX10_shortestReadTwice_90 : decode cX10_shortestReadTwice 90 = .ok (.iload_n 2, 1) := by decide +kernel
theorem dX10_shortestReadTwice_91 : decode cX10_shortestReadTwice 91 = .ok (.ireturn, 1) := by decide +kernel
theorem dX10_shortestReadTwice_92 : decode cX10_shortestReadTwice 92 = .ok (.iinc 2 1, 3) := by decide +kernel
theorem dX10_shortestReadTwice_95 : decode cX10_shortestReadTwice 95 = .ok (.goto (-20), 3) := by decide +kernel
theorem dX10_shortestReadTwice_98 : decode cX10_shortestReadTwice 98 = .ok (.iconst (-1), 1) := by decide +kernel
theorem dX10_shortestReadTwice_99 : decode cX10_shortestReadTwice 99 = .ok (.ireturn, 1) := by decide +kernel
set_option maxRecDepth 10000 in
theorem wX10_shortestReadTwice_0 {g : zG} {I : Nat → Nat → Int32} {P : Nat → Nat → Option Nat} {r : Option Value} {h' : zH} {a0 : Nat} {a1 : Nat} (H : zk g a0 10 ∧ ∃ b1, P a0 3 = some b1 ∧ ∃ (I4 : Nat → Nat → Int32), Cl mJ7_fill_53178 [.ref b1, .int 1000] (g, I, P) none (g, I4, P) ∧ Zt none mX10_shortestReadTwice 0 0 12 [(0, .ref a0), (1, .ref a1), (2, .int 0)] [] (g, I4, P) r h') : Zt none mX10_shortestReadTwice 0 0 0 [(0, .ref a0), (1, .ref a1)] [] (g, I, P) r h' := by
  refine z_aload_n 0 dX10_shortestReadTwice_0 rfl rfl ?_
  obtain ⟨oe3, b1, e3, H2⟩ := H
  refine z_getP dX10_shortestReadTwice_1 wf_X10_21 (by decide) (by decide) rfl oe3 (fun q => (by cases q.symm.trans e3)) (fun j q => ?_)
  cases q.symm.trans e3
  refine z_sipush (w := 1000) dX10_shortestReadTwice_4 (by decide) ?_
  obtain ⟨I4, c5, H6⟩ := H2
  refine z_stat (As := [.ref b1, .int 1000]) (st := []) (r1 := none) (h1 := (g, I4, P)) dX10_shortestReadTwice_7 kJ7_fill_53178 wm_X10_24 ⟨by decide, by decide⟩ rfl rfl (Nat.le_of_ble_eq_true rfl) (by decide) (by decide) c5 ?_
  refine z_iconst (w := 0) dX10_shortestReadTwice_10 (by decide) (z_istore_n (lv' := [(2, .int 0), (0, .ref a0), (1, .ref a1)]) dX10_shortestReadTwice_11 (by decide) rfl ?_)
  exact z_less [1, 2, 0] rfl H6
theorem eX10_shortestReadTwice {g : zG} {I : Nat → Nat → Int32} {P : Nat → Nat → Option Nat} {r : Option Value} {h' : zH} {a0 : Nat} {a1 : Nat} (H : Zt none mX10_shortestReadTwice 0 0 0 [(0, .ref a0), (1, .ref a1)] [] (g, I, P) r h') : Cl mX10_shortestReadTwice [.ref a0, .ref a1] (g, I, P) r h' := Cl.of (by decide) (Nat.le_of_ble_eq_true rfl) H
set_option maxRecDepth 10000 in
theorem wX10_shortestReadTwice_12 {g : zG} {I : Nat → Nat → Int32} {P : Nat → Nat → Option Nat} {r : Option Value} {h' : zH} {a0 : Nat} {a1 : Nat} {x2 : Int32} (H : zk g a1 3 ∧ ((I a1 1 ≤ x2) → Zt none mX10_shortestReadTwice 0 0 75 [(0, .ref a0), (1, .ref a1), (2, .int 1)] [] (g, I, P) r h') ∧ ((¬ I a1 1 ≤ x2) → Zt none mX10_shortestReadTwice 0 0 22 [(0, .ref a0), (1, .ref a1), (2, .int x2), (3, .int 0)] [] (g, I, P) r h')) : Zt none mX10_shortestReadTwice 0 0 12 [(0, .ref a0), (1, .ref a1), (2, .int x2)] [] (g, I, P) r h' := by
  refine z_iload_n 2 dX10_shortestReadTwice_12 rfl (z_aload_n 1 dX10_shortestReadTwice_13 rfl rfl (z_getI dX10_shortestReadTwice_14 wf_X10_30 (by decide) (by decide) rfl H.1 ?_))
  refine z_icmp_ge (t := 73) dX10_shortestReadTwice_17 (by decide) (fun q => ?_) (fun q => ?_)
  · have H1 := H.2.1 q
    refine z_iconst (w := 1) dX10_shortestReadTwice_73 (by decide) (z_istore_n (lv' := [(2, .int 1), (0, .ref a0), (1, .ref a1)]) dX10_shortestReadTwice_74 (by decide) rfl ?_)
    exact z_less [1, 2, 0] rfl H1
  · have H2 := H.2.2 q
    refine z_iconst (w := 0) dX10_shortestReadTwice_20 (by decide) (z_istore_n (lv' := [(3, .int 0), (0, .ref a0), (1, .ref a1), (2, .int x2)]) dX10_shortestReadTwice_21 (by decide) rfl ?_)
    exact z_less [1, 2, 3, 0] rfl H2
set_option maxRecDepth 10000 in
theorem wX10_shortestReadTwice_22 {g : zG} {I : Nat → Nat → Int32} {P : Nat → Nat → Option Nat} {r : Option Value} {h' : zH} {a0 : Nat} {a1 : Nat} {x2 : Int32} {x3 : Int32} (H : zk g a1 3 ∧ ((I a1 1 ≤ x3) → Zt none mX10_shortestReadTwice 0 0 12 [(0, .ref a0), (1, .ref a1), (2, .int (x2 + 1))] [] (g, I, P) r h') ∧ ((¬ I a1 1 ≤ x3) → zk g a1 3 ∧ ∃ (w3 : Int32), Cl mX3_isWithin [.ref a1, .int x3, .int x2] (g, I, P) (some (.int w3)) (g, I, P) ∧ ((w3 = 0) → Zt none mX10_shortestReadTwice 0 0 22 [(0, .ref a0), (1, .ref a1), (2, .int x2), (3, .int (x3 + 1))] [] (g, I, P) r h') ∧ ((¬ w3 = 0) → zk g a1 3 ∧ ∃ (w8 : Int32), Cl mX3_sizeOf [.ref a1, .int x2] (g, I, P) (some (.int w8)) (g, I, P) ∧ zk g a1 3 ∧ ∃ (w11 : Int32), Cl mX3_sizeOf [.ref a1, .int x3] (g, I, P) (some (.int w11)) (g, I, P) ∧ zk g a1 3 ∧ ∃ (w14 : Int32), Cl mX3_sizeOf [.ref a1, .int x2] (g, I, P) (some (.int w14)) (g, I, P) ∧ zk g a0 10 ∧ ∃ (I17 : Nat → Nat → Int32), Cl mX10_shorten [.ref a0, .int (w8 - w11), .int x2, .int x3, .int w14] (g, I, P) none (g, I17, P) ∧ Zt none mX10_shortestReadTwice 0 0 22 [(0, .ref a0), (1, .ref a1), (2, .int x2), (3, .int (x3 + 1))] [] (g, I17, P) r h'))) : Zt none mX10_shortestReadTwice 0 0 22 [(0, .ref a0), (1, .ref a1), (2, .int x2), (3, .int x3)] [] (g, I, P) r h' := by
  refine z_iload_n 3 dX10_shortestReadTwice_22 rfl (z_aload_n 1 dX10_shortestReadTwice_23 rfl rfl (z_getI dX10_shortestReadTwice_24 wf_X10_30 (by decide) (by decide) rfl H.1 ?_))
  refine z_icmp_ge (t := 67) dX10_shortestReadTwice_27 (by decide) (fun q => ?_) (fun q => ?_)
  · have H1 := H.2.1 q
    refine z_iinc (y := x2 + 1) (lv' := [(2, .int (x2 + 1)), (0, .ref a0), (1, .ref a1), (3, .int x3)]) 2 dX10_shortestReadTwice_67 rfl rfl (by decide) rfl (z_goto (t := 12) dX10_shortestReadTwice_70 (by decide) ?_)
    exact z_less [1, 2, 0] rfl H1
  · have H2 := H.2.2 q
    refine z_aload_n 1 dX10_shortestReadTwice_30 rfl rfl (z_iload_n 3 dX10_shortestReadTwice_31 rfl (z_iload_n 2 dX10_shortestReadTwice_32 rfl ?_))
    obtain ⟨oc4, w3, c4, H5⟩ := H2
    refine z_virt (As := [.int x3, .int x2]) (st := []) (r1 := (some (.int w3))) (h1 := (g, I, P)) dX10_shortestReadTwice_33 kX3_isWithin wm_X10_63 ⟨by decide, by decide⟩ rfl rfl (Nat.le_of_ble_eq_true rfl) (by decide) (by decide) oc4 c4 ?_
    refine z_if_eq (t := 61) dX10_shortestReadTwice_36 (by decide) (fun q => ?_) (fun q => ?_)
    · have H6 := H5.1 q
      refine z_iinc (y := x3 + 1) (lv' := [(3, .int (x3 + 1)), (0, .ref a0), (1, .ref a1), (2, .int x2)]) 3 dX10_shortestReadTwice_61 rfl rfl (by decide) rfl (z_goto (t := 22) dX10_shortestReadTwice_64 (by decide) ?_)
      exact z_less [1, 2, 3, 0] rfl H6
    · have H7 := H5.2 q
      refine z_aload_n 0 dX10_shortestReadTwice_39 rfl rfl (z_aload_n 1 dX10_shortestReadTwice_40 rfl rfl (z_iload_n 2 dX10_shortestReadTwice_41 rfl ?_))
      obtain ⟨oc9, w8, c9, H10⟩ := H7
      refine z_virt (As := [.int x2]) (st := [.ref a0]) (r1 := (some (.int w8))) (h1 := (g, I, P)) dX10_shortestReadTwice_42 kX3_sizeOf wm_X10_66 ⟨by decide, by decide⟩ rfl rfl (Nat.le_of_ble_eq_true rfl) (by decide) (by decide) oc9 c9 ?_
      refine z_aload_n 1 dX10_shortestReadTwice_45 rfl rfl (z_iload_n 3 dX10_shortestReadTwice_46 rfl ?_)
      obtain ⟨oc12, w11, c12, H13⟩ := H10
      refine z_virt (As := [.int x3]) (st := [.int w8, .ref a0]) (r1 := (some (.int w11))) (h1 := (g, I, P)) dX10_shortestReadTwice_47 kX3_sizeOf wm_X10_66 ⟨by decide, by decide⟩ rfl rfl (Nat.le_of_ble_eq_true rfl) (by decide) (by decide) oc12 c12 ?_
      refine z_isub dX10_shortestReadTwice_50 (z_iload_n 2 dX10_shortestReadTwice_51 rfl (z_iload_n 3 dX10_shortestReadTwice_52 rfl (z_aload_n 1 dX10_shortestReadTwice_53 rfl rfl (z_iload_n 2 dX10_shortestReadTwice_54 rfl ?_))))
      obtain ⟨oc15, w14, c15, H16⟩ := H13
      refine z_virt (As := [.int x2]) (st := [.int x3, .int x2, .int (w8 - w11), .ref a0]) (r1 := (some (.int w14))) (h1 := (g, I, P)) dX10_shortestReadTwice_55 kX3_sizeOf wm_X10_66 ⟨by decide, by decide⟩ rfl rfl (Nat.le_of_ble_eq_true rfl) (by decide) (by decide) oc15 c15 ?_
      obtain ⟨oc18, I17, c18, H19⟩ := H16
      refine z_virt (As := [.int (w8 - w11), .int x2, .int x3, .int w14]) (st := []) (r1 := none) (h1 := (g, I17, P)) dX10_shortestReadTwice_58 kX10_shorten wm_X10_69 ⟨by decide, by decide⟩ rfl rfl (Nat.le_of_ble_eq_true rfl) (by decide) (by decide) oc18 c18 ?_
      refine z_iinc (y := x3 + 1) (lv' := [(3, .int (x3 + 1)), (0, .ref a0), (1, .ref a1), (2, .int x2)]) 3 dX10_shortestReadTwice_61 rfl rfl (by decide) rfl (z_goto (t := 22) dX10_shortestReadTwice_64 (by decide) ?_)
      exact z_less [1, 2, 3, 0] rfl H19
set_option maxRecDepth 10000 in
theorem wX10_shortestReadTwice_75 {g : zG} {I : Nat → Nat → Int32} {P : Nat → Nat → Option Nat} {r : Option Value} {h' : zH} {a0 : Nat} {a1 : Nat} {x2 : Int32} (H : ((24 < x2) → r = some (.int (-1)) ∧ h' = (g, I, P)) ∧ ((¬ 24 < x2) → zk g a0 10 ∧ ∃ (w3 : Int32) (I4 : Nat → Nat → Int32), Cl mX10_endsAt [.ref a0, .ref a1, .int x2] (g, I, P) (some (.int w3)) (g, I4, P) ∧ ((w3 = 0) → Zt none mX10_shortestReadTwice 0 0 75 [(0, .ref a0), (1, .ref a1), (2, .int (x2 + 1))] [] (g, I4, P) r h') ∧ ((¬ w3 = 0) → r = some (.int x2) ∧ h' = (g, I4, P)))) : Zt none mX10_shortestReadTwice 0 0 75 [(0, .ref a0), (1, .ref a1), (2, .int x2)] [] (g, I, P) r h' := by
  refine z_iload_n 2 dX10_shortestReadTwice_75 rfl (z_bipush (w := 24) dX10_shortestReadTwice_76 (by decide) ?_)
  refine z_icmp_gt (t := 98) dX10_shortestReadTwice_78 (by decide) (fun q => ?_) (fun q => ?_)
  · have H1 := H.1 q
    refine z_iconst (w := (-1)) dX10_shortestReadTwice_98 (by decide) ?_
    obtain ⟨rfl, rfl⟩ := H1
    exact z_iret dX10_shortestReadTwice_99 rfl (by decide) (by decide)
  · have H2 := H.2 q
    refine z_aload_n 0 dX10_shortestReadTwice_81 rfl rfl (z_aload_n 1 dX10_shortestReadTwice_82 rfl rfl (z_iload_n 2 dX10_shortestReadTwice_83 rfl ?_))
    obtain ⟨oc5, w3, I4, c5, H6⟩ := H2
    refine z_virt (As := [.ref a1, .int x2]) (st := []) (r1 := (some (.int w3))) (h1 := (g, I4, P)) dX10_shortestReadTwice_84 kX10_endsAt wm_X10_73 ⟨by decide, by decide⟩ rfl rfl (Nat.le_of_ble_eq_true rfl) (by decide) (by decide) oc5 c5 ?_
    refine z_if_eq (t := 92) dX10_shortestReadTwice_87 (by decide) (fun q => ?_) (fun q => ?_)
    · have H7 := H6.1 q
      refine z_iinc (y := x2 + 1) (lv' := [(2, .int (x2 + 1)), (0, .ref a0), (1, .ref a1)]) 2 dX10_shortestReadTwice_92 rfl rfl (by decide) rfl (z_goto (t := 75) dX10_shortestReadTwice_95 (by decide) ?_)
      exact z_less [1, 2, 0] rfl H7
    · have H8 := H6.2 q
      refine z_iload_n 2 dX10_shortestReadTwice_90 rfl ?_
      obtain ⟨rfl, rfl⟩ := H8
      exact z_iret dX10_shortestReadTwice_91 rfl (by decide) (by decide)
theorem dX10_endsAt_0 : decode cX10_endsAt 0 = .ok (.iconst 5, 1) := by decide +kernel
theorem dX10_endsAt_1 : decode cX10_endsAt 1 = .ok (.istore_n 3, 1) := by decide +kernel
theorem dX10_endsAt_2 : decode cX10_endsAt 2 = .ok (.iload_n 3, 1) := by decide +kernel
theorem dX10_endsAt_3 : decode cX10_endsAt 3 = .ok (.iconst 1, 1) := by decide +kernel
theorem dX10_endsAt_4 : decode cX10_endsAt 4 = .ok (.if_icmp .lt 80, 3) := by decide +kernel
theorem dX10_endsAt_7 : decode cX10_endsAt 7 = .ok (.iconst 0, 1) := by decide +kernel
theorem dX10_endsAt_8 : decode cX10_endsAt 8 = .ok (.istore 4, 2) := by decide +kernel
theorem dX10_endsAt_10 : decode cX10_endsAt 10 = .ok (.iload 4, 2) := by decide +kernel
theorem dX10_endsAt_12 : decode cX10_endsAt 12 = .ok (.aload_n 1, 1) := by decide +kernel
theorem dX10_endsAt_13 : decode cX10_endsAt 13 = .ok (.getfield 30, 3) := by decide +kernel
theorem dX10_endsAt_16 : decode cX10_endsAt 16 = .ok (.if_icmp .ge 62, 3) := by decide +kernel
theorem dX10_endsAt_19 : decode cX10_endsAt 19 = .ok (.iconst 0, 1) := by decide +kernel
theorem dX10_endsAt_20 : decode cX10_endsAt 20 = .ok (.istore 5, 2) := by decide +kernel
theorem dX10_endsAt_22 : decode cX10_endsAt 22 = .ok (.iload 5, 2) := by decide +kernel
theorem dX10_endsAt_24 : decode cX10_endsAt 24 = .ok (.aload_n 1, 1) := by decide +kernel
theorem dX10_endsAt_25 : decode cX10_endsAt 25 = .ok (.getfield 30, 3) := by decide +kernel
theorem dX10_endsAt_28 : decode cX10_endsAt 28 = .ok (.if_icmp .ge 44, 3) := by decide +kernel
theorem dX10_endsAt_31 : decode cX10_endsAt 31 = .ok (.aload_n 0, 1) := by decide +kernel
theorem dX10_endsAt_32 : decode cX10_endsAt 32 = .ok (.getfield 21, 3) := by decide +kernel
theorem dX10_endsAt_35 : decode cX10_endsAt 35 = .ok (.iload_n 3, 1) := by decide +kernel
theorem dX10_endsAt_36 : decode cX10_endsAt 36 = .ok (.iload 4, 2) := by decide +kernel
theorem dX10_endsAt_38 : decode cX10_endsAt 38 = .ok (.iload 5, 2) := by decide +kernel
theorem dX10_endsAt_40 : decode cX10_endsAt 40 = .ok (.invokestatic 77, 3) := by decide +kernel
theorem dX10_endsAt_43 : decode cX10_endsAt 43 = .ok (.invokestatic 59, 3) := by decide +kernel
theorem dX10_endsAt_46 : decode cX10_endsAt 46 = .ok (.iload_n 2, 1) := by decide +kernel
theorem dX10_endsAt_47 : decode cX10_endsAt 47 = .ok (.if_icmp .ne 19, 3) := by decide +kernel
theorem dX10_endsAt_50 : decode cX10_endsAt 50 = .ok (.aload_n 0, 1) := by decide +kernel
theorem dX10_endsAt_51 : decode cX10_endsAt 51 = .ok (.aload_n 1, 1) := by decide +kernel
theorem dX10_endsAt_52 : decode cX10_endsAt 52 = .ok (.iload_n 3, 1) := by decide +kernel
theorem dX10_endsAt_53 : decode cX10_endsAt 53 = .ok (.iload 4, 2) := by decide +kernel
theorem dX10_endsAt_55 : decode cX10_endsAt 55 = .ok (.iload 5, 2) := by decide +kernel
theorem dX10_endsAt_57 : decode cX10_endsAt 57 = .ok (.iload_n 2, 1) := by decide +kernel
theorem dX10_endsAt_58 : decode cX10_endsAt 58 = .ok (.invokevirtual 81, 3) := by decide +kernel
theorem dX10_endsAt_61 : decode cX10_endsAt 61 = .ok (.ifCond .eq 5, 3) := by decide +kernel
theorem dX10_endsAt_64 : decode cX10_endsAt 64 = .ok (.iconst 1, 1) := by decide +kernel
theorem dX10_endsAt_65 : decode cX10_endsAt 65 = .ok (.ireturn, 1) := by decide +kernel
theorem dX10_endsAt_66 : decode cX10_endsAt 66 = .ok (.iinc 5 1, 3) := by decide +kernel
theorem dX10_endsAt_69 : decode cX10_endsAt 69 = .ok (.goto (-47), 3) := by decide +kernel
theorem dX10_endsAt_72 : decode cX10_endsAt 72 = .ok (.iinc 4 1, 3) := by decide +kernel
theorem dX10_endsAt_75 : decode cX10_endsAt 75 = .ok (.goto (-65), 3) := by decide +kernel
theorem dX10_endsAt_78 : decode cX10_endsAt 78 = .ok (.iinc 3 (-1), 3) := by decide +kernel
theorem dX10_endsAt_81 : decode cX10_endsAt 81 = .ok (.goto (-79), 3) := by decide +kernel
theorem dX10_endsAt_84 : decode cX10_endsAt 84 = .ok (.iconst 0, 1) := by decide +kernel
theorem dX10_endsAt_85 : decode cX10_endsAt 85 = .ok (.ireturn, 1) := by decide +kernel
set_option maxRecDepth 10000 in
theorem wX10_endsAt_0 {g : zG} {I : Nat → Nat → Int32} {P : Nat → Nat → Option Nat} {r : Option Value} {h' : zH} {a0 : Nat} {a1 : Nat} {x2 : Int32} (H : Zt none mX10_endsAt 0 0 2 [(0, .ref a0), (1, .ref a1), (2, .int x2), (3, .int 5)] [] (g, I, P) r h') : Zt none mX10_endsAt 0 0 0 [(0, .ref a0), (1, .ref a1), (2, .int x2)] [] (g, I, P) r h' := by
  refine z_iconst (w := 5) dX10_endsAt_0 (by decide) (z_istore_n (lv' := [(3, .int 5), (0, .ref a0), (1, .ref a1), (2, .int x2)]) dX10_endsAt_1 (by decide) rfl ?_)
  exact z_less [1, 2, 3, 0] rfl H
theorem eX10_endsAt {g : zG} {I : Nat → Nat → Int32} {P : Nat → Nat → Option Nat} {r : Option Value} {h' : zH} {a0 : Nat} {a1 : Nat} {x2 : Int32} (H : Zt none mX10_endsAt 0 0 0 [(0, .ref a0), (1, .ref a1), (2, .int x2)] [] (g, I, P) r h') : Cl mX10_endsAt [.ref a0, .ref a1, .int x2] (g, I, P) r h' := Cl.of (by decide) (Nat.le_of_ble_eq_true rfl) H
set_option maxRecDepth 10000 in
theorem wX10_endsAt_2 {g : zG} {I : Nat → Nat → Int32} {P : Nat → Nat → Option Nat} {r : Option Value} {h' : zH} {a0 : Nat} {a1 : Nat} {x2 : Int32} {x3 : Int32} (H : ((x3 < 1) → r = some (.int 0) ∧ h' = (g, I, P)) ∧ ((¬ x3 < 1) → Zt none mX10_endsAt 0 0 10 [(0, .ref a0), (1, .ref a1), (2, .int x2), (3, .int x3), (4, .int 0)] [] (g, I, P) r h')) : Zt none mX10_endsAt 0 0 2 [(0, .ref a0), (1, .ref a1), (2, .int x2), (3, .int x3)] [] (g, I, P) r h' := by
  refine z_iload_n 3 dX10_endsAt_2 rfl (z_iconst (w := 1) dX10_endsAt_3 (by decide) ?_)
  refine z_icmp_lt (t := 84) dX10_endsAt_4 (by decide) (fun q => ?_) (fun q => ?_)
  · have H1 := H.1 q
    refine z_iconst (w := 0) dX10_endsAt_84 (by decide) ?_
    obtain ⟨rfl, rfl⟩ := H1
    exact z_zret dX10_endsAt_85 rfl (Or.inl rfl) (by decide) (by decide)
  · have H2 := H.2 q
    refine z_iconst (w := 0) dX10_endsAt_7 (by decide) (z_istore (lv' := [(4, .int 0), (0, .ref a0), (1, .ref a1), (2, .int x2), (3, .int x3)]) dX10_endsAt_8 (by decide) rfl ?_)
    exact z_less [1, 2, 3, 4, 0] rfl H2
set_option maxRecDepth 10000 in
theorem wX10_endsAt_10 {g : zG} {I : Nat → Nat → Int32} {P : Nat → Nat → Option Nat} {r : Option Value} {h' : zH} {a0 : Nat} {a1 : Nat} {x2 : Int32} {x3 : Int32} {x4 : Int32} (H : zk g a1 3 ∧ ((I a1 1 ≤ x4) → Zt none mX10_endsAt 0 0 2 [(0, .ref a0), (1, .ref a1), (2, .int x2), (3, .int (x3 + (-1)))] [] (g, I, P) r h') ∧ ((¬ I a1 1 ≤ x4) → Zt none mX10_endsAt 0 0 22 [(0, .ref a0), (1, .ref a1), (2, .int x2), (3, .int x3), (4, .int x4), (5, .int 0)] [] (g, I, P) r h')) : Zt none mX10_endsAt 0 0 10 [(0, .ref a0), (1, .ref a1), (2, .int x2), (3, .int x3), (4, .int x4)] [] (g, I, P) r h' := by
  refine z_iload 4 dX10_endsAt_10 rfl (z_aload_n 1 dX10_endsAt_12 rfl rfl (z_getI dX10_endsAt_13 wf_X10_30 (by decide) (by decide) rfl H.1 ?_))
  refine z_icmp_ge (t := 78) dX10_endsAt_16 (by decide) (fun q => ?_) (fun q => ?_)
  · have H1 := H.2.1 q
    refine z_iinc (y := x3 + (-1)) (lv' := [(3, .int (x3 + (-1))), (0, .ref a0), (1, .ref a1), (2, .int x2), (4, .int x4)]) 3 dX10_endsAt_78 rfl rfl (by decide) rfl (z_goto (t := 2) dX10_endsAt_81 (by decide) ?_)
    exact z_less [1, 2, 3, 0] rfl H1
  · have H2 := H.2.2 q
    refine z_iconst (w := 0) dX10_endsAt_19 (by decide) (z_istore (lv' := [(5, .int 0), (0, .ref a0), (1, .ref a1), (2, .int x2), (3, .int x3), (4, .int x4)]) dX10_endsAt_20 (by decide) rfl ?_)
    exact z_less [1, 2, 3, 4, 5, 0] rfl H2
set_option maxRecDepth 10000 in
theorem wX10_endsAt_22 {g : zG} {I : Nat → Nat → Int32} {P : Nat → Nat → Option Nat} {r : Option Value} {h' : zH} {a0 : Nat} {a1 : Nat} {x2 : Int32} {x3 : Int32} {x4 : Int32} {x5 : Int32} (H : zk g a1 3 ∧ ((I a1 1 ≤ x5) → Zt none mX10_endsAt 0 0 10 [(0, .ref a0), (1, .ref a1), (2, .int x2), (3, .int x3), (4, .int (x4 + 1))] [] (g, I, P) r h') ∧ ((¬ I a1 1 ≤ x5) → zk g a0 10 ∧ ∃ b3, P a0 3 = some b3 ∧ ∃ (w6 : Int32), Cl mX10_pair [.int x3, .int x4, .int x5] (g, I, P) (some (.int w6)) (g, I, P) ∧ ∃ (w9 : Int32), Cl mX11_got [.ref b3, .int w6] (g, I, P) (some (.int w9)) (g, I, P) ∧ ((¬ w9 = x2) → Zt none mX10_endsAt 0 0 22 [(0, .ref a0), (1, .ref a1), (2, .int x2), (3, .int x3), (4, .int x4), (5, .int (x5 + 1))] [] (g, I, P) r h') ∧ ((w9 = x2) → zk g a0 10 ∧ ∃ (w14 : Int32) (I15 : Nat → Nat → Int32), Cl mX10_goOn [.ref a0, .ref a1, .int x3, .int x4, .int x5, .int x2] (g, I, P) (some (.int w14)) (g, I15, P) ∧ ((w14 = 0) → Zt none mX10_endsAt 0 0 22 [(0, .ref a0), (1, .ref a1), (2, .int x2), (3, .int x3), (4, .int x4), (5, .int (x5 + 1))] [] (g, I15, P) r h') ∧ ((¬ w14 = 0) → r = some (.int 1) ∧ h' = (g, I15, P))))) : Zt none mX10_endsAt 0 0 22 [(0, .ref a0), (1, .ref a1), (2, .int x2), (3, .int x3), (4, .int x4), (5, .int x5)] [] (g, I, P) r h' := by
  refine z_iload 5 dX10_endsAt_22 rfl (z_aload_n 1 dX10_endsAt_24 rfl rfl (z_getI dX10_endsAt_25 wf_X10_30 (by decide) (by decide) rfl H.1 ?_))
  refine z_icmp_ge (t := 72) dX10_endsAt_28 (by decide) (fun q => ?_) (fun q => ?_)
  · have H1 := H.2.1 q
    refine z_iinc (y := x4 + 1) (lv' := [(4, .int (x4 + 1)), (0, .ref a0), (1, .ref a1), (2, .int x2), (3, .int x3), (5, .int x5)]) 4 dX10_endsAt_72 rfl rfl (by decide) rfl (z_goto (t := 10) dX10_endsAt_75 (by decide) ?_)
    exact z_less [1, 2, 3, 4, 0] rfl H1
  · have H2 := H.2.2 q
    refine z_aload_n 0 dX10_endsAt_31 rfl rfl ?_
    obtain ⟨oe5, b3, e5, H4⟩ := H2
    refine z_getP dX10_endsAt_32 wf_X10_21 (by decide) (by decide) rfl oe5 (fun q => (by cases q.symm.trans e5)) (fun j q => ?_)
    cases q.symm.trans e5
    refine z_iload_n 3 dX10_endsAt_35 rfl (z_iload 4 dX10_endsAt_36 rfl (z_iload 5 dX10_endsAt_38 rfl ?_))
    obtain ⟨w6, c7, H8⟩ := H4
    refine z_stat (As := [.int x3, .int x4, .int x5]) (st := [.ref b3]) (r1 := (some (.int w6))) (h1 := (g, I, P)) dX10_endsAt_40 kX10_pair wm_X10_77 ⟨by decide, by decide⟩ rfl rfl (Nat.le_of_ble_eq_true rfl) (by decide) (by decide) c7 ?_
    obtain ⟨w9, c10, H11⟩ := H8
    refine z_stat (As := [.ref b3, .int w6]) (st := []) (r1 := (some (.int w9))) (h1 := (g, I, P)) dX10_endsAt_43 kX11_got wm_X10_59 ⟨by decide, by decide⟩ rfl rfl (Nat.le_of_ble_eq_true rfl) (by decide) (by decide) c10 ?_
    refine z_iload_n 2 dX10_endsAt_46 rfl ?_
    refine z_icmp_ne (t := 66) dX10_endsAt_47 (by decide) (fun q => ?_) (fun q => ?_)
    · have H12 := H11.1 q
      refine z_iinc (y := x5 + 1) (lv' := [(5, .int (x5 + 1)), (0, .ref a0), (1, .ref a1), (2, .int x2), (3, .int x3), (4, .int x4)]) 5 dX10_endsAt_66 rfl rfl (by decide) rfl (z_goto (t := 22) dX10_endsAt_69 (by decide) ?_)
      exact z_less [1, 2, 3, 4, 5, 0] rfl H12
    · have H13 := H11.2 q
      refine z_aload_n 0 dX10_endsAt_50 rfl rfl (z_aload_n 1 dX10_endsAt_51 rfl rfl (z_iload_n 3 dX10_endsAt_52 rfl (z_iload 4 dX10_endsAt_53 rfl (z_iload 5 dX10_endsAt_55 rfl (z_iload_n 2 dX10_endsAt_57 rfl ?_)))))
      obtain ⟨oc16, w14, I15, c16, H17⟩ := H13
      refine z_virt (As := [.ref a1, .int x3, .int x4, .int x5, .int x2]) (st := []) (r1 := (some (.int w14))) (h1 := (g, I15, P)) dX10_endsAt_58 kX10_goOn wm_X10_81 ⟨by decide, by decide⟩ rfl rfl (Nat.le_of_ble_eq_true rfl) (by decide) (by decide) oc16 c16 ?_
      refine z_if_eq (t := 66) dX10_endsAt_61 (by decide) (fun q => ?_) (fun q => ?_)
      · have H18 := H17.1 q
        refine z_iinc (y := x5 + 1) (lv' := [(5, .int (x5 + 1)), (0, .ref a0), (1, .ref a1), (2, .int x2), (3, .int x3), (4, .int x4)]) 5 dX10_endsAt_66 rfl rfl (by decide) rfl (z_goto (t := 22) dX10_endsAt_69 (by decide) ?_)
        exact z_less [1, 2, 3, 4, 5, 0] rfl H18
      · have H19 := H17.2 q
        refine z_iconst (w := 1) dX10_endsAt_64 (by decide) ?_
        obtain ⟨rfl, rfl⟩ := H19
        exact z_zret dX10_endsAt_65 rfl (Or.inr rfl) (by decide) (by decide)
theorem dX10_goOn_0 : decode cX10_goOn 0 = .ok (.iload_n 3, 1) := by decide +kernel
theorem dX10_goOn_1 : decode cX10_goOn 1 = .ok (.bipush 6, 2) := by decide +kernel
theorem dX10_goOn_3 : decode cX10_goOn 3 = .ok (.imul, 1) := by decide +kernel
theorem dX10_goOn_4 : decode cX10_goOn 4 = .ok (.aload_n 1, 1) := by decide +kernel
theorem dX10_goOn_5 : decode cX10_goOn 5 = .ok (.iload_n 3, 1) := by decide +kernel
theorem dX10_goOn_6 : decode cX10_goOn 6 = .ok (.invokevirtual 66, 3) := by decide +kernel
theorem dX10_goOn_9 : decode cX10_goOn 9 = .ok (.iadd, 1) := by decide +kernel
theorem dX10_goOn_10 : decode cX10_goOn 10 = .ok (.iload_n 2, 1) := by decide +kernel
theorem dX10_goOn_11 : decode cX10_goOn 11 = .ok (.isub, 1) := by decide +kernel
theorem dX10_goOn_12 : decode cX10_goOn 12 = .ok (.istore 6, 2) := by decide +kernel
theorem dX10_goOn_14 : decode cX10_goOn 14 = .ok (.iconst 0, 1) := by decide +kernel
theorem dX10_goOn_15 : decode cX10_goOn 15 = .ok (.istore 7, 2) := by decide +kernel
theorem dX10_goOn_17 : decode cX10_goOn 17 = .ok (.iload 7, 2) := by decide +kernel
theorem dX10_goOn_19 : decode cX10_goOn 19 = .ok (.aload_n 1, 1) := by decide +kernel
theorem dX10_goOn_20 : decode cX10_goOn 20 = .ok (.getfield 30, 3) := by decide +kernel
theorem dX10_goOn_23 : decode cX10_goOn 23 = .ok (.if_icmp .ge 104, 3) := by decide +kernel
theorem dX10_goOn_26 : decode cX10_goOn 26 = .ok (.aload_n 1, 1) := by decide +kernel
theorem dX10_goOn_27 : decode cX10_goOn 27 = .ok (.iload 7, 2) := by decide +kernel
theorem dX10_goOn_29 : decode cX10_goOn 29 = .ok (.invokevirtual 66, 3) := by decide +kernel
theorem dX10_goOn_32 : decode cX10_goOn 32 = .ok (.istore 8, 2) := by decide +kernel
theorem dX10_goOn_34 : decode cX10_goOn 34 = .ok (.aload_n 1, 1) := by decide +kernel
theorem dX10_goOn_35 : decode cX10_goOn 35 = .ok (.iload 4, 2) := by decide +kernel
theorem dX10_goOn_37 : decode cX10_goOn 37 = .ok (.invokevirtual 36, 3) := by decide +kernel
theorem dX10_goOn_40 : decode cX10_goOn 40 = .ok (.iload 7, 2) := by decide +kernel
theorem dX10_goOn_42 : decode cX10_goOn 42 = .ok (.invokestatic 55, 3) := by decide +kernel
theorem dX10_goOn_45 : decode cX10_goOn 45 = .ok (.istore 9, 2) := by decide +kernel
theorem dX10_goOn_47 : decode cX10_goOn 47 = .ok (.iload 9, 2) := by decide +kernel
theorem dX10_goOn_49 : decode cX10_goOn 49 = .ok (.ifCond .eq 72, 3) := by decide +kernel
theorem dX10_goOn_52 : decode cX10_goOn 52 = .ok (.aload_n 1, 1) := by decide +kernel
theorem dX10_goOn_53 : decode cX10_goOn 53 = .ok (.iload 7, 2) := by decide +kernel
theorem dX10_goOn_55 : decode cX10_goOn 55 = .ok (.aload_n 1, 1) := by decide +kernel
theorem dX10_goOn_56 : decode cX10_goOn 56 = .ok (.getfield 85, 3) := by decide +kernel
theorem dX10_goOn_59 : decode cX10_goOn 59 = .ok (.iload 6, 2) := by decide +kernel
theorem dX10_goOn_61 : decode cX10_goOn 61 = .ok (.iload 8, 2) := by decide +kernel
theorem dX10_goOn_63 : decode cX10_goOn 63 = .ok (.iload_n 2, 1) := by decide +kernel
theorem dX10_goOn_64 : decode cX10_goOn 64 = .ok (.invokestatic 88, 3) := by decide +kernel
theorem dX10_goOn_67 : decode cX10_goOn 67 = .ok (.invokevirtual 94, 3) := by decide +kernel
theorem dX10_goOn_70 : decode cX10_goOn 70 = .ok (.ifCond .ne 51, 3) := by decide +kernel
theorem dX10_goOn_73 : decode cX10_goOn 73 = .ok (.iload 8, 2) := by decide +kernel
theorem dX10_goOn_75 : decode cX10_goOn 75 = .ok (.iload_n 2, 1) := by decide +kernel
theorem dX10_goOn_76 : decode cX10_goOn 76 = .ok (.if_icmp .ne 5, 3) := by decide +kernel
theorem dX10_goOn_79 : decode cX10_goOn 79 = .ok (.iconst 1, 1) := by decide +kernel
theorem dX10_goOn_80 : decode cX10_goOn 80 = .ok (.ireturn, 1) := by decide +kernel
theorem dX10_goOn_81 : decode cX10_goOn 81 = .ok (.iload 8, 2) := by decide +kernel
theorem dX10_goOn_83 : decode cX10_goOn 83 = .ok (.iload_n 2, 1) := by decide +kernel
theorem dX10_goOn_84 : decode cX10_goOn 84 = .ok (.if_icmp .ge 19, 3) := by decide +kernel
theorem dX10_goOn_87 : decode cX10_goOn 87 = .ok (.aload_n 0, 1) := by decide +kernel
theorem dX10_goOn_88 : decode cX10_goOn 88 = .ok (.iload_n 2, 1) := by decide +kernel
theorem dX10_goOn_89 : decode cX10_goOn 89 = .ok (.iload 8, 2) := by decide +kernel
theorem dX10_goOn_91 : decode cX10_goOn 91 = .ok (.isub, 1) := by decide +kernel
theorem dX10_goOn_92 : decode cX10_goOn 92 = .ok (.iload_n 3, 1) := by decide +kernel
theorem dX10_goOn_93 : decode cX10_goOn 93 = .ok (.iload 7, 2) := by decide +kernel
theorem dX10_goOn_95 : decode cX10_goOn 95 = .ok (.iload 5, 2) := by decide +kernel
theorem dX10_goOn_97 : decode cX10_goOn 97 = .ok (.invokevirtual 69, 3) := by decide +kernel
theorem dX10_goOn_100 : decode cX10_goOn 100 = .ok (.goto 21, 3) := by decide +kernel
theorem dX10_goOn_103 : decode cX10_goOn 103 = .ok (.aload_n 0, 1) := by decide +kernel
theorem dX10_goOn_104 : decode cX10_goOn 104 = .ok (.iload 8, 2) := by decide +kernel
theorem dX10_goOn_106 : decode cX10_goOn 106 = .ok (.iload_n 2, 1) := by decide +kernel
theorem dX10_goOn_107 : decode cX10_goOn 107 = .ok (.isub, 1) := by decide +kernel
theorem dX10_goOn_108 : decode cX10_goOn 108 = .ok (.iload 7, 2) := by decide +kernel
theorem dX10_goOn_110 : decode cX10_goOn 110 = .ok (.iload_n 3, 1) := by decide +kernel
theorem dX10_goOn_111 : decode cX10_goOn 111 = .ok (.iload 5, 2) := by decide +kernel
theorem dX10_goOn_113 : decode cX10_goOn 113 = .ok (.iload 8, 2) := by decide +kernel
theorem dX10_goOn_115 : decode cX10_goOn 115 = .ok (.iadd, 1) := by decide +kernel
theorem dX10_goOn_116 : decode cX10_goOn 116 = .ok (.iload_n 2, 1) := by decide +kernel
theorem dX10_goOn_117 : decode cX10_goOn 117 = .ok (.isub, 1) := by decide +kernel
theorem dX10_goOn_118 : decode cX10_goOn 118 = .ok (.invokevirtual 69, 3) := by decide +kernel
theorem dX10_goOn_121 : decode cX10_goOn 121 = .ok (.iinc 7 1, 3) := by decide +kernel
theorem dX10_goOn_124 : decode cX10_goOn 124 = .ok (.goto (-107), 3) := by decide +kernel
theorem dX10_goOn_127 : decode cX10_goOn 127 = .ok (.iconst 0, 1) := by decide +kernel
theorem dX10_goOn_128 : decode cX10_goOn 128 = .ok (.ireturn, 1) := by decide +kernel
set_option maxRecDepth 10000 in
theorem wX10_goOn_0 {g : zG} {I : Nat → Nat → Int32} {P : Nat → Nat → Option Nat} {r : Option Value} {h' : zH} {a0 : Nat} {a1 : Nat} {x2 : Int32} {x3 : Int32} {x4 : Int32} {x5 : Int32} (H : zk g a1 3 ∧ ∃ (w1 : Int32), Cl mX3_sizeOf [.ref a1, .int x3] (g, I, P) (some (.int w1)) (g, I, P) ∧ Zt none mX10_goOn 0 0 17 [(0, .ref a0), (1, .ref a1), (2, .int x2), (3, .int x3), (4, .int x4), (5, .int x5), (6, .int (((x3 * 6) + w1) - x2)), (7, .int 0)] [] (g, I, P) r h') : Zt none mX10_goOn 0 0 0 [(0, .ref a0), (1, .ref a1), (2, .int x2), (3, .int x3), (4, .int x4), (5, .int x5)] [] (g, I, P) r h' := by
  refine z_iload_n 3 dX10_goOn_0 rfl (z_bipush (w := 6) dX10_goOn_1 (by decide) (z_imul dX10_goOn_3 (z_aload_n 1 dX10_goOn_4 rfl rfl (z_iload_n 3 dX10_goOn_5 rfl ?_))))
  obtain ⟨oc2, w1, c2, H3⟩ := H
  refine z_virt (As := [.int x3]) (st := [.int (x3 * 6)]) (r1 := (some (.int w1))) (h1 := (g, I, P)) dX10_goOn_6 kX3_sizeOf wm_X10_66 ⟨by decide, by decide⟩ rfl rfl (Nat.le_of_ble_eq_true rfl) (by decide) (by decide) oc2 c2 ?_
  refine z_iadd dX10_goOn_9 (z_iload_n 2 dX10_goOn_10 rfl (z_isub dX10_goOn_11 (z_istore (lv' := [(6, .int (((x3 * 6) + w1) - x2)), (0, .ref a0), (1, .ref a1), (2, .int x2), (3, .int x3), (4, .int x4), (5, .int x5)]) dX10_goOn_12 (by decide) rfl (z_iconst (w := 0) dX10_goOn_14 (by decide) (z_istore (lv' := [(7, .int 0), (6, .int (((x3 * 6) + w1) - x2)), (0, .ref a0), (1, .ref a1), (2, .int x2), (3, .int x3), (4, .int x4), (5, .int x5)]) dX10_goOn_15 (by decide) rfl ?_)))))
  exact z_less [2, 3, 4, 5, 6, 7, 1, 0] rfl H3
theorem eX10_goOn {g : zG} {I : Nat → Nat → Int32} {P : Nat → Nat → Option Nat} {r : Option Value} {h' : zH} {a0 : Nat} {a1 : Nat} {x2 : Int32} {x3 : Int32} {x4 : Int32} {x5 : Int32} (H : Zt none mX10_goOn 0 0 0 [(0, .ref a0), (1, .ref a1), (2, .int x2), (3, .int x3), (4, .int x4), (5, .int x5)] [] (g, I, P) r h') : Cl mX10_goOn [.ref a0, .ref a1, .int x2, .int x3, .int x4, .int x5] (g, I, P) r h' := Cl.of (by decide) (Nat.le_of_ble_eq_true rfl) H
set_option maxRecDepth 10000 in
theorem wX10_goOn_17 {g : zG} {I : Nat → Nat → Int32} {P : Nat → Nat → Option Nat} {r : Option Value} {h' : zH} {a0 : Nat} {a1 : Nat} {x2 : Int32} {x3 : Int32} {x4 : Int32} {x5 : Int32} {x6 : Int32} {x7 : Int32} (H : zk g a1 3 ∧ ((I a1 1 ≤ x7) → r = some (.int 0) ∧ h' = (g, I, P)) ∧ ((¬ I a1 1 ≤ x7) → zk g a1 3 ∧ ∃ (w3 : Int32), Cl mX3_sizeOf [.ref a1, .int x7] (g, I, P) (some (.int w3)) (g, I, P) ∧ zk g a1 3 ∧ ∃ (w6 : Int32), Cl mX3_behind [.ref a1, .int x4] (g, I, P) (some (.int w6)) (g, I, P) ∧ ∃ (w9 : Int32), Cl mX11_has [.int w6, .int x7] (g, I, P) (some (.int w9)) (g, I, P) ∧ ((w9 = 0) → Zt none mX10_goOn 0 0 17 [(0, .ref a0), (1, .ref a1), (2, .int x2), (3, .int x3), (4, .int x4), (5, .int x5), (6, .int x6), (7, .int (x7 + 1))] [] (g, I, P) r h') ∧ ((¬ w9 = 0) → zk g a1 3 ∧ ∃ b14, P a1 7 = some b14 ∧ zk g a1 3 ∧ ∃ (w17 : Int32), Cl mX3_changesAt [.ref a1, .int x7, .ref b14, .int x6, .int (zmmin w3 x2)] (g, I, P) (some (.int w17)) (g, I, P) ∧ ((¬ w17 = 0) → Zt none mX10_goOn 0 0 17 [(0, .ref a0), (1, .ref a1), (2, .int x2), (3, .int x3), (4, .int x4), (5, .int x5), (6, .int x6), (7, .int (x7 + 1))] [] (g, I, P) r h') ∧ ((w17 = 0) → ((¬ w3 = x2) → ((x2 ≤ w3) → zk g a0 10 ∧ ∃ (I24 : Nat → Nat → Int32), Cl mX10_shorten [.ref a0, .int (w3 - x2), .int x7, .int x3, .int ((x5 + w3) - x2)] (g, I, P) none (g, I24, P) ∧ Zt none mX10_goOn 0 0 17 [(0, .ref a0), (1, .ref a1), (2, .int x2), (3, .int x3), (4, .int x4), (5, .int x5), (6, .int x6), (7, .int (x7 + 1))] [] (g, I24, P) r h') ∧ ((¬ x2 ≤ w3) → zk g a0 10 ∧ ∃ (I28 : Nat → Nat → Int32), Cl mX10_shorten [.ref a0, .int (x2 - w3), .int x3, .int x7, .int x5] (g, I, P) none (g, I28, P) ∧ Zt none mX10_goOn 0 0 17 [(0, .ref a0), (1, .ref a1), (2, .int x2), (3, .int x3), (4, .int x4), (5, .int x5), (6, .int x6), (7, .int (x7 + 1))] [] (g, I28, P) r h')) ∧ ((w3 = x2) → r = some (.int 1) ∧ h' = (g, I, P)))))) : Zt none mX10_goOn 0 0 17 [(0, .ref a0), (1, .ref a1), (2, .int x2), (3, .int x3), (4, .int x4), (5, .int x5), (6, .int x6), (7, .int x7)] [] (g, I, P) r h' := by
  refine z_iload 7 dX10_goOn_17 rfl (z_aload_n 1 dX10_goOn_19 rfl rfl (z_getI dX10_goOn_20 wf_X10_30 (by decide) (by decide) rfl H.1 ?_))
  refine z_icmp_ge (t := 127) dX10_goOn_23 (by decide) (fun q => ?_) (fun q => ?_)
  · have H1 := H.2.1 q
    refine z_iconst (w := 0) dX10_goOn_127 (by decide) ?_
    obtain ⟨rfl, rfl⟩ := H1
    exact z_zret dX10_goOn_128 rfl (Or.inl rfl) (by decide) (by decide)
  · have H2 := H.2.2 q
    refine z_aload_n 1 dX10_goOn_26 rfl rfl (z_iload 7 dX10_goOn_27 rfl ?_)
    obtain ⟨oc4, w3, c4, H5⟩ := H2
    refine z_virt (As := [.int x7]) (st := []) (r1 := (some (.int w3))) (h1 := (g, I, P)) dX10_goOn_29 kX3_sizeOf wm_X10_66 ⟨by decide, by decide⟩ rfl rfl (Nat.le_of_ble_eq_true rfl) (by decide) (by decide) oc4 c4 ?_
    refine z_istore (lv' := [(8, .int w3), (0, .ref a0), (1, .ref a1), (2, .int x2), (3, .int x3), (4, .int x4), (5, .int x5), (6, .int x6), (7, .int x7)]) dX10_goOn_32 (by decide) rfl (z_aload_n 2 dX10_goOn_34 rfl rfl (z_iload 5 dX10_goOn_35 rfl ?_))
    obtain ⟨oc7, w6, c7, H8⟩ := H5
    refine z_virt (As := [.int x4]) (st := []) (r1 := (some (.int w6))) (h1 := (g, I, P)) dX10_goOn_37 kX3_behind wm_X10_36 ⟨by decide, by decide⟩ rfl rfl (Nat.le_of_ble_eq_true rfl) (by decide) (by decide) oc7 c7 ?_
    refine z_iload 8 dX10_goOn_40 rfl ?_
    obtain ⟨w9, c10, H11⟩ := H8
    refine z_stat (As := [.int w6, .int x7]) (st := []) (r1 := (some (.int w9))) (h1 := (g, I, P)) dX10_goOn_42 kX11_has wm_X10_55 ⟨by decide, by decide⟩ rfl rfl (Nat.le_of_ble_eq_true rfl) (by decide) (by decide) c10 ?_
    refine z_istore (lv' := [(9, .int w9), (8, .int w3), (0, .ref a0), (1, .ref a1), (2, .int x2), (3, .int x3), (4, .int x4), (5, .int x5), (6, .int x6), (7, .int x7)]) dX10_goOn_45 (by decide) rfl (z_iload 0 dX10_goOn_47 rfl ?_)
    refine z_if_eq (t := 121) dX10_goOn_49 (by decide) (fun q => ?_) (fun q => ?_)
    · have H12 := H11.1 q
      refine z_iinc (y := x7 + 1) (lv' := [(7, .int (x7 + 1)), (9, .int w9), (8, .int w3), (0, .ref a0), (1, .ref a1), (2, .int x2), (3, .int x3), (4, .int x4), (5, .int x5), (6, .int x6)]) 9 dX10_goOn_121 rfl rfl (by decide) rfl (z_goto (t := 17) dX10_goOn_124 (by decide) ?_)
      exact z_less [3, 4, 5, 6, 7, 8, 9, 0] rfl H12
    · have H13 := H11.2 q
      refine z_aload_n 3 dX10_goOn_52 rfl rfl (z_iload 9 dX10_goOn_53 rfl (z_aload_n 3 dX10_goOn_55 rfl rfl ?_))
      obtain ⟨oe16, b14, e16, H15⟩ := H13
      refine z_getP dX10_goOn_56 wf_X10_85 (by decide) (by decide) rfl oe16 (fun q => (by cases q.symm.trans e16)) (fun j q => ?_)
      cases q.symm.trans e16
      refine z_iload 8 dX10_goOn_59 rfl (z_iload 1 dX10_goOn_61 rfl (z_iload_n 4 dX10_goOn_63 rfl (z_mmin dX10_goOn_64 wm_X10_88 (by decide) (Nat.le_of_ble_eq_true rfl) (by decide) (by decide) w_mnS w_mI w_mnC ?_)))
      obtain ⟨oc18, w17, c18, H19⟩ := H15
      refine z_virt (As := [.int x7, .ref b14, .int x6, .int (zmmin w3 x2)]) (st := []) (r1 := (some (.int w17))) (h1 := (g, I, P)) dX10_goOn_67 kX3_changesAt wm_X10_94 ⟨by decide, by decide⟩ rfl rfl (Nat.le_of_ble_eq_true rfl) (by decide) (by decide) oc18 c18 ?_
      refine z_if_ne (t := 121) dX10_goOn_70 (by decide) (fun q => ?_) (fun q => ?_)
      · have H20 := H19.1 q
        refine z_iinc (y := x7 + 1) (lv' := [(7, .int (x7 + 1)), (9, .int w9), (8, .int w3), (0, .ref a0), (1, .ref a1), (2, .int x2), (3, .int x3), (4, .int x4), (5, .int x5), (6, .int x6)]) 9 dX10_goOn_121 rfl rfl (by decide) rfl (z_goto (t := 17) dX10_goOn_124 (by decide) ?_)
        exact z_less [3, 4, 5, 6, 7, 8, 9, 0] rfl H20
      · have H21 := H19.2 q
        refine z_iload 1 dX10_goOn_73 rfl (z_iload_n 4 dX10_goOn_75 rfl ?_)
        refine z_icmp_ne (t := 81) dX10_goOn_76 (by decide) (fun q => ?_) (fun q => ?_)
        · have H22 := H21.1 q
          refine z_iload 1 dX10_goOn_81 rfl (z_iload_n 4 dX10_goOn_83 rfl ?_)
          refine z_icmp_ge (t := 103) dX10_goOn_84 (by decide) (fun q => ?_) (fun q => ?_)
          · have H23 := H22.1 q
            refine z_aload_n 2 dX10_goOn_103 rfl rfl (z_iload 1 dX10_goOn_104 rfl (z_iload_n 4 dX10_goOn_106 rfl (z_isub dX10_goOn_107 (z_iload 9 dX10_goOn_108 rfl (z_iload_n 5 dX10_goOn_110 rfl (z_iload 7 dX10_goOn_111 rfl (z_iload 1 dX10_goOn_113 rfl (z_iadd dX10_goOn_115 (z_iload_n 4 dX10_goOn_116 rfl (z_isub dX10_goOn_117 ?_))))))))))
            obtain ⟨oc25, I24, c25, H26⟩ := H23
            refine z_virt (As := [.int (w3 - x2), .int x7, .int x3, .int ((x5 + w3) - x2)]) (st := []) (r1 := none) (h1 := (g, I24, P)) dX10_goOn_118 kX10_shorten wm_X10_69 ⟨by decide, by decide⟩ rfl rfl (Nat.le_of_ble_eq_true rfl) (by decide) (by decide) oc25 c25 ?_
            refine z_iinc (y := x7 + 1) (lv' := [(7, .int (x7 + 1)), (9, .int w9), (8, .int w3), (0, .ref a0), (1, .ref a1), (2, .int x2), (3, .int x3), (4, .int x4), (5, .int x5), (6, .int x6)]) 9 dX10_goOn_121 rfl rfl (by decide) rfl (z_goto (t := 17) dX10_goOn_124 (by decide) ?_)
            exact z_less [3, 4, 5, 6, 7, 8, 9, 0] rfl H26
          · have H27 := H22.2 q
            refine z_aload_n 2 dX10_goOn_87 rfl rfl (z_iload_n 4 dX10_goOn_88 rfl (z_iload 1 dX10_goOn_89 rfl (z_isub dX10_goOn_91 (z_iload_n 5 dX10_goOn_92 rfl (z_iload 9 dX10_goOn_93 rfl (z_iload 7 dX10_goOn_95 rfl ?_))))))
            obtain ⟨oc29, I28, c29, H30⟩ := H27
            refine z_virt (As := [.int (x2 - w3), .int x3, .int x7, .int x5]) (st := []) (r1 := none) (h1 := (g, I28, P)) dX10_goOn_97 kX10_shorten wm_X10_69 ⟨by decide, by decide⟩ rfl rfl (Nat.le_of_ble_eq_true rfl) (by decide) (by decide) oc29 c29 ?_
            refine z_goto (t := 121) dX10_goOn_100 (by decide) (z_iinc (y := x7 + 1) (lv' := [(7, .int (x7 + 1)), (9, .int w9), (8, .int w3), (0, .ref a0), (1, .ref a1), (2, .int x2), (3, .int x3), (4, .int x4), (5, .int x5), (6, .int x6)]) 9 dX10_goOn_121 rfl rfl (by decide) rfl (z_goto (t := 17) dX10_goOn_124 (by decide) ?_))
            exact z_less [3, 4, 5, 6, 7, 8, 9, 0] rfl H30
        · have H31 := H21.2 q
          refine z_iconst (w := 1) dX10_goOn_79 (by decide) ?_
          obtain ⟨rfl, rfl⟩ := H31
          exact z_zret dX10_goOn_80 rfl (Or.inr rfl) (by decide) (by decide)
theorem dX10_shorten_0 : decode cX10_shorten 0 = .ok (.iload_n 1, 1) := by decide +kernel
theorem dX10_shorten_1 : decode cX10_shorten 1 = .ok (.iload_n 2, 1) := by decide +kernel
theorem dX10_shorten_2 : decode cX10_shorten 2 = .ok (.iload_n 3, 1) := by decide +kernel
theorem dX10_shorten_3 : decode cX10_shorten 3 = .ok (.invokestatic 77, 3) := by decide +kernel
theorem dX10_shorten_6 : decode cX10_shorten 6 = .ok (.istore 5, 2) := by decide +kernel
theorem dX10_shorten_8 : decode cX10_shorten 8 = .ok (.aload_n 0, 1) := by decide +kernel
theorem dX10_shorten_9 : decode cX10_shorten 9 = .ok (.getfield 21, 3) := by decide +kernel
theorem dX10_shorten_12 : decode cX10_shorten 12 = .ok (.iload 5, 2) := by decide +kernel
theorem dX10_shorten_14 : decode cX10_shorten 14 = .ok (.aload_n 0, 1) := by decide +kernel
theorem dX10_shorten_15 : decode cX10_shorten 15 = .ok (.getfield 21, 3) := by decide +kernel
theorem dX10_shorten_18 : decode cX10_shorten 18 = .ok (.iload 5, 2) := by decide +kernel
theorem dX10_shorten_20 : decode cX10_shorten 20 = .ok (.invokestatic 59, 3) := by decide +kernel
theorem dX10_shorten_23 : decode cX10_shorten 23 = .ok (.iload 4, 2) := by decide +kernel
theorem dX10_shorten_25 : decode cX10_shorten 25 = .ok (.invokestatic 88, 3) := by decide +kernel
theorem dX10_shorten_28 : decode cX10_shorten 28 = .ok (.invokestatic 43, 3) := by decide +kernel
theorem dX10_shorten_31 : decode cX10_shorten 31 = .ok (.return_, 1) := by decide +kernel
set_option maxRecDepth 10000 in
theorem wX10_shorten_0 {g : zG} {I : Nat → Nat → Int32} {P : Nat → Nat → Option Nat} {r : Option Value} {h' : zH} {a0 : Nat} {x1 : Int32} {x2 : Int32} {x3 : Int32} {x4 : Int32} (H : ∃ (w1 : Int32), Cl mX10_pair [.int x1, .int x2, .int x3] (g, I, P) (some (.int w1)) (g, I, P) ∧ zk g a0 10 ∧ ∃ b4, P a0 3 = some b4 ∧ zk g a0 10 ∧ ∃ b7, P a0 3 = some b7 ∧ ∃ (w10 : Int32), Cl mX11_got [.ref b7, .int w1] (g, I, P) (some (.int w10)) (g, I, P) ∧ ∃ (I13 : Nat → Nat → Int32), Cl mX11_put [.ref b4, .int w1, .int (zmmin w10 x4)] (g, I, P) none (g, I13, P) ∧ r = none ∧ h' = (g, I13, P)) : Zt none mX10_shorten 0 0 0 [(0, .ref a0), (1, .int x1), (2, .int x2), (3, .int x3), (4, .int x4)] [] (g, I, P) r h' := by
  refine z_iload_n 1 dX10_shorten_0 rfl (z_iload_n 2 dX10_shorten_1 rfl (z_iload_n 3 dX10_shorten_2 rfl ?_))
  obtain ⟨w1, c2, H3⟩ := H
  refine z_stat (As := [.int x1, .int x2, .int x3]) (st := []) (r1 := (some (.int w1))) (h1 := (g, I, P)) dX10_shorten_3 kX10_pair wm_X10_77 ⟨by decide, by decide⟩ rfl rfl (Nat.le_of_ble_eq_true rfl) (by decide) (by decide) c2 ?_
  refine z_istore (lv' := [(5, .int w1), (0, .ref a0), (1, .int x1), (2, .int x2), (3, .int x3), (4, .int x4)]) dX10_shorten_6 (by decide) rfl (z_aload_n 1 dX10_shorten_8 rfl rfl ?_)
  obtain ⟨oe6, b4, e6, H5⟩ := H3
  refine z_getP dX10_shorten_9 wf_X10_21 (by decide) (by decide) rfl oe6 (fun q => (by cases q.symm.trans e6)) (fun j q => ?_)
  cases q.symm.trans e6
  refine z_iload 0 dX10_shorten_12 rfl (z_aload_n 1 dX10_shorten_14 rfl rfl ?_)
  obtain ⟨oe9, b7, e9, H8⟩ := H5
  refine z_getP dX10_shorten_15 wf_X10_21 (by decide) (by decide) rfl oe9 (fun q => (by cases q.symm.trans e9)) (fun j q => ?_)
  cases q.symm.trans e9
  refine z_iload 0 dX10_shorten_18 rfl ?_
  obtain ⟨w10, c11, H12⟩ := H8
  refine z_stat (As := [.ref b7, .int w1]) (st := [.int w1, .ref b4]) (r1 := (some (.int w10))) (h1 := (g, I, P)) dX10_shorten_20 kX11_got wm_X10_59 ⟨by decide, by decide⟩ rfl rfl (Nat.le_of_ble_eq_true rfl) (by decide) (by decide) c11 ?_
  refine z_iload 5 dX10_shorten_23 rfl (z_mmin dX10_shorten_25 wm_X10_88 (by decide) (Nat.le_of_ble_eq_true rfl) (by decide) (by decide) w_mnS w_mI w_mnC ?_)
  obtain ⟨I13, c14, H15⟩ := H12
  refine z_stat (As := [.ref b4, .int w1, .int (zmmin w10 x4)]) (st := []) (r1 := none) (h1 := (g, I13, P)) dX10_shorten_28 kX11_put wm_X10_43 ⟨by decide, by decide⟩ rfl rfl (Nat.le_of_ble_eq_true rfl) (by decide) (by decide) c14 ?_
  obtain ⟨rfl, rfl⟩ := H15
  exact z_vret dX10_shorten_31 rfl (by decide) (by decide)
theorem eX10_shorten {g : zG} {I : Nat → Nat → Int32} {P : Nat → Nat → Option Nat} {r : Option Value} {h' : zH} {a0 : Nat} {x1 : Int32} {x2 : Int32} {x3 : Int32} {x4 : Int32} (H : Zt none mX10_shorten 0 0 0 [(0, .ref a0), (1, .int x1), (2, .int x2), (3, .int x3), (4, .int x4)] [] (g, I, P) r h') : Cl mX10_shorten [.ref a0, .int x1, .int x2, .int x3, .int x4] (g, I, P) r h' := Cl.of (by decide) (Nat.le_of_ble_eq_true rfl) H
theorem dX10_pair_0 : decode cX10_pair 0 = .ok (.iload_n 0, 1) := by decide +kernel
theorem dX10_pair_1 : decode cX10_pair 1 = .ok (.bipush 10, 2) := by decide +kernel
theorem dX10_pair_3 : decode cX10_pair 3 = .ok (.imul, 1) := by decide +kernel
theorem dX10_pair_4 : decode cX10_pair 4 = .ok (.iload_n 1, 1) := by decide +kernel
theorem dX10_pair_5 : decode cX10_pair 5 = .ok (.iadd, 1) := by decide +kernel
theorem dX10_pair_6 : decode cX10_pair 6 = .ok (.bipush 10, 2) := by decide +kernel
theorem dX10_pair_8 : decode cX10_pair 8 = .ok (.imul, 1) := by decide +kernel
theorem dX10_pair_9 : decode cX10_pair 9 = .ok (.iload_n 2, 1) := by decide +kernel
theorem dX10_pair_10 : decode cX10_pair 10 = .ok (.iadd, 1) := by decide +kernel
theorem dX10_pair_11 : decode cX10_pair 11 = .ok (.ireturn, 1) := by decide +kernel
set_option maxRecDepth 10000 in
theorem wX10_pair_0 {g : zG} {I : Nat → Nat → Int32} {P : Nat → Nat → Option Nat} {r : Option Value} {h' : zH} {x0 : Int32} {x1 : Int32} {x2 : Int32} (H : r = some (.int ((((x0 * 10) + x1) * 10) + x2)) ∧ h' = (g, I, P)) : Zt none mX10_pair 0 0 0 [(0, .int x0), (1, .int x1), (2, .int x2)] [] (g, I, P) r h' := by
  refine z_iload_n 0 dX10_pair_0 rfl (z_bipush (w := 10) dX10_pair_1 (by decide) (z_imul dX10_pair_3 (z_iload_n 1 dX10_pair_4 rfl (z_iadd dX10_pair_5 (z_bipush (w := 10) dX10_pair_6 (by decide) (z_imul dX10_pair_8 (z_iload_n 2 dX10_pair_9 rfl (z_iadd dX10_pair_10 ?_))))))))
  obtain ⟨rfl, rfl⟩ := H
  exact z_iret dX10_pair_11 rfl (by decide) (by decide)
theorem eX10_pair {g : zG} {I : Nat → Nat → Int32} {P : Nat → Nat → Option Nat} {r : Option Value} {h' : zH} {x0 : Int32} {x1 : Int32} {x2 : Int32} (H : Zt none mX10_pair 0 0 0 [(0, .int x0), (1, .int x1), (2, .int x2)] [] (g, I, P) r h') : Cl mX10_pair [.int x0, .int x1, .int x2] (g, I, P) r h' := Cl.of (by decide) (Nat.le_of_ble_eq_true rfl) H
theorem dX10_longestChain_0 : decode cX10_longestChain 0 = .ok (.iconst 0, 1) := by decide +kernel
theorem dX10_longestChain_1 : decode cX10_longestChain 1 = .ok (.istore_n 2, 1) := by decide +kernel
theorem dX10_longestChain_2 : decode cX10_longestChain 2 = .ok (.iconst 1, 1) := by decide +kernel
theorem dX10_longestChain_3 : decode cX10_longestChain 3 = .ok (.istore_n 3, 1) := by decide +kernel
theorem dX10_longestChain_4 : decode cX10_longestChain 4 = .ok (.iload_n 3, 1) := by decide +kernel
theorem dX10_longestChain_5 : decode cX10_longestChain 5 = .ok (.aload_n 1, 1) := by decide +kernel
theorem dX10_longestChain_6 : decode cX10_longestChain 6 = .ok (.invokevirtual 51, 3) := by decide +kernel
theorem dX10_longestChain_9 : decode cX10_longestChain 9 = .ok (.if_icmp .gt 43, 3) := by decide +kernel
theorem dX10_longestChain_12 : decode cX10_longestChain 12 = .ok (.aload_n 0, 1) := by decide +kernel
theorem dX10_longestChain_13 : decode cX10_longestChain 13 = .ok (.getfield 18, 3) := by decide +kernel
theorem dX10_longestChain_16 : decode cX10_longestChain 16 = .ok (.iload_n 3, 1) := by decide +kernel
theorem dX10_longestChain_17 : decode cX10_longestChain 17 = .ok (.aload_n 0, 1) := by decide +kernel
theorem dX10_longestChain_18 : decode cX10_longestChain 18 = .ok (.aload_n 1, 1) := by decide +kernel
theorem dX10_longestChain_19 : decode cX10_longestChain 19 = .ok (.iload_n 3, 1) := by decide +kernel
theorem dX10_longestChain_20 : decode cX10_longestChain 20 = .ok (.invokevirtual 98, 3) := by decide +kernel
theorem dX10_longestChain_23 : decode cX10_longestChain 23 = .ok (.invokestatic 43, 3) := by decide +kernel
theorem dX10_longestChain_26 : decode cX10_longestChain 26 = .ok (.aload_n 0, 1) := by decide +kernel
theorem dX10_longestChain_27 : decode cX10_longestChain 27 = .ok (.getfield 18, 3) := by decide +kernel
theorem dX10_longestChain_30 : decode cX10_longestChain 30 = .ok (.iload_n 3, 1) := by decide +kernel
theorem dX10_longestChain_31 : decode cX10_longestChain 31 = .ok (.invokestatic 59, 3) := by decide +kernel
theorem dX10_longestChain_34 : decode cX10_longestChain 34 = .ok (.ifCond .eq 12, 3) := by decide +kernel
theorem dX10_longestChain_37 : decode cX10_longestChain 37 = .ok (.iload_n 2, 1) := by decide +kernel
theorem dX10_longestChain_38 : decode cX10_longestChain 38 = .ok (.iload_n 3, 1) := by decide +kernel
theorem dX10_longestChain_39 : decode cX10_longestChain 39 = .ok (.invokestatic 102, 3) := by decide +kernel
theorem dX10_longestChain_42 : decode cX10_longestChain 42 = .ok (.invokestatic 107, 3) := by decide +kernel
theorem dX10_longestChain_45 : decode cX10_longestChain 45 = .ok (.istore_n 2, 1) := by decide +kernel
theorem dX10_longestChain_46 : decode cX10_longestChain 46 = .ok (.iinc 3 1, 3) := by decide +kernel
theorem dX10_longestChain_49 : decode cX10_longestChain 49 = .ok (.goto (-45), 3) := by decide +kernel
theorem dX10_longestChain_52 : decode cX10_longestChain 52 = .ok (.iload_n 2, 1) := by decide +kernel
theorem dX10_longestChain_53 : decode cX10_longestChain 53 = .ok (.ireturn, 1) := by decide +kernel
set_option maxRecDepth 10000 in
theorem wX10_longestChain_0 {g : zG} {I : Nat → Nat → Int32} {P : Nat → Nat → Option Nat} {r : Option Value} {h' : zH} {a0 : Nat} {a1 : Nat} (H : Zt none mX10_longestChain 0 0 4 [(0, .ref a0), (1, .ref a1), (2, .int 0), (3, .int 1)] [] (g, I, P) r h') : Zt none mX10_longestChain 0 0 0 [(0, .ref a0), (1, .ref a1)] [] (g, I, P) r h' := by
  refine z_iconst (w := 0) dX10_longestChain_0 (by decide) (z_istore_n (lv' := [(2, .int 0), (0, .ref a0), (1, .ref a1)]) dX10_longestChain_1 (by decide) rfl (z_iconst (w := 1) dX10_longestChain_2 (by decide) (z_istore_n (lv' := [(3, .int 1), (2, .int 0), (0, .ref a0), (1, .ref a1)]) dX10_longestChain_3 (by decide) rfl ?_)))
  exact z_less [2, 3, 1, 0] rfl H
theorem eX10_longestChain {g : zG} {I : Nat → Nat → Int32} {P : Nat → Nat → Option Nat} {r : Option Value} {h' : zH} {a0 : Nat} {a1 : Nat} (H : Zt none mX10_longestChain 0 0 0 [(0, .ref a0), (1, .ref a1)] [] (g, I, P) r h') : Cl mX10_longestChain [.ref a0, .ref a1] (g, I, P) r h' := Cl.of (by decide) (Nat.le_of_ble_eq_true rfl) H
set_option maxRecDepth 10000 in
theorem wX10_longestChain_4 {g : zG} {I : Nat → Nat → Int32} {P : Nat → Nat → Option Nat} {r : Option Value} {h' : zH} {a0 : Nat} {a1 : Nat} {x2 : Int32} {x3 : Int32} (H : zk g a1 3 ∧ ∃ (w1 : Int32), Cl mX3_all [.ref a1] (g, I, P) (some (.int w1)) (g, I, P) ∧ ((w1 < x3) → r = some (.int x2) ∧ h' = (g, I, P)) ∧ ((¬ w1 < x3) → zk g a0 10 ∧ ∃ b6, P a0 2 = some b6 ∧ zk g a0 10 ∧ ∃ (w9 : Int32), Cl mX10_headsOf [.ref a0, .ref a1, .int x3] (g, I, P) (some (.int w9)) (g, I, P) ∧ ∃ (I12 : Nat → Nat → Int32), Cl mX11_put [.ref b6, .int x3, .int w9] (g, I, P) none (g, I12, P) ∧ zk g a0 10 ∧ ∃ b15, P a0 2 = some b15 ∧ ∃ (w18 : Int32), Cl mX11_got [.ref b15, .int x3] (g, I12, P) (some (.int w18)) (g, I12, P) ∧ ((w18 = 0) → Zt none mX10_longestChain 0 0 4 [(0, .ref a0), (1, .ref a1), (2, .int x2), (3, .int (x3 + 1))] [] (g, I12, P) r h') ∧ ((¬ w18 = 0) → ∃ (w23 : Int32), Cl mJ6_bitCount_0f7a4 [.int x3] (g, I12, P) (some (.int w23)) (g, I12, P) ∧ Zt none mX10_longestChain 0 0 4 [(0, .ref a0), (1, .ref a1), (2, .int (zmmax x2 w23)), (3, .int (x3 + 1))] [] (g, I12, P) r h'))) : Zt none mX10_longestChain 0 0 4 [(0, .ref a0), (1, .ref a1), (2, .int x2), (3, .int x3)] [] (g, I, P) r h' := by
  refine z_iload_n 3 dX10_longestChain_4 rfl (z_aload_n 1 dX10_longestChain_5 rfl rfl ?_)
  obtain ⟨oc2, w1, c2, H3⟩ := H
  refine z_virt (As := []) (st := [.int x3]) (r1 := (some (.int w1))) (h1 := (g, I, P)) dX10_longestChain_6 kX3_all wm_X10_51 ⟨by decide, by decide⟩ rfl rfl (Nat.le_of_ble_eq_true rfl) (by decide) (by decide) oc2 c2 ?_
  refine z_icmp_gt (t := 52) dX10_longestChain_9 (by decide) (fun q => ?_) (fun q => ?_)
  · have H4 := H3.1 q
    refine z_iload_n 2 dX10_longestChain_52 rfl ?_
    obtain ⟨rfl, rfl⟩ := H4
    exact z_iret dX10_longestChain_53 rfl (by decide) (by decide)
  · have H5 := H3.2 q
    refine z_aload_n 0 dX10_longestChain_12 rfl rfl ?_
    obtain ⟨oe8, b6, e8, H7⟩ := H5
    refine z_getP dX10_longestChain_13 wf_X10_18 (by decide) (by decide) rfl oe8 (fun q => (by cases q.symm.trans e8)) (fun j q => ?_)
    cases q.symm.trans e8
    refine z_iload_n 3 dX10_longestChain_16 rfl (z_aload_n 0 dX10_longestChain_17 rfl rfl (z_aload_n 1 dX10_longestChain_18 rfl rfl (z_iload_n 3 dX10_longestChain_19 rfl ?_)))
    obtain ⟨oc10, w9, c10, H11⟩ := H7
    refine z_virt (As := [.ref a1, .int x3]) (st := [.int x3, .ref b6]) (r1 := (some (.int w9))) (h1 := (g, I, P)) dX10_longestChain_20 kX10_headsOf wm_X10_98 ⟨by decide, by decide⟩ rfl rfl (Nat.le_of_ble_eq_true rfl) (by decide) (by decide) oc10 c10 ?_
    obtain ⟨I12, c13, H14⟩ := H11
    refine z_stat (As := [.ref b6, .int x3, .int w9]) (st := []) (r1 := none) (h1 := (g, I12, P)) dX10_longestChain_23 kX11_put wm_X10_43 ⟨by decide, by decide⟩ rfl rfl (Nat.le_of_ble_eq_true rfl) (by decide) (by decide) c13 ?_
    refine z_aload_n 0 dX10_longestChain_26 rfl rfl ?_
    obtain ⟨oe17, b15, e17, H16⟩ := H14
    refine z_getP dX10_longestChain_27 wf_X10_18 (by decide) (by decide) rfl oe17 (fun q => (by cases q.symm.trans e17)) (fun j q => ?_)
    cases q.symm.trans e17
    refine z_iload_n 3 dX10_longestChain_30 rfl ?_
    obtain ⟨w18, c19, H20⟩ := H16
    refine z_stat (As := [.ref b15, .int x3]) (st := []) (r1 := (some (.int w18))) (h1 := (g, I12, P)) dX10_longestChain_31 kX11_got wm_X10_59 ⟨by decide, by decide⟩ rfl rfl (Nat.le_of_ble_eq_true rfl) (by decide) (by decide) c19 ?_
    refine z_if_eq (t := 46) dX10_longestChain_34 (by decide) (fun q => ?_) (fun q => ?_)
    · have H21 := H20.1 q
      refine z_iinc (y := x3 + 1) (lv' := [(3, .int (x3 + 1)), (0, .ref a0), (1, .ref a1), (2, .int x2)]) 3 dX10_longestChain_46 rfl rfl (by decide) rfl (z_goto (t := 4) dX10_longestChain_49 (by decide) ?_)
      exact z_less [1, 2, 3, 0] rfl H21
    · have H22 := H20.2 q
      refine z_iload_n 2 dX10_longestChain_37 rfl (z_iload_n 3 dX10_longestChain_38 rfl ?_)
      obtain ⟨w23, c24, H25⟩ := H22
      refine z_stat (As := [.int x3]) (st := [.int x2]) (r1 := (some (.int w23))) (h1 := (g, I12, P)) dX10_longestChain_39 kJ6_bitCount_0f7a4 wm_X10_102 ⟨by decide, by decide⟩ rfl rfl (Nat.le_of_ble_eq_true rfl) (by decide) (by decide) c24 ?_
      refine z_mmax dX10_longestChain_42 wm_X10_107 (by decide) (Nat.le_of_ble_eq_true rfl) (by decide) (by decide) w_mxS w_mI w_mxC (z_istore_n (lv' := [(2, .int (zmmax x2 w23)), (0, .ref a0), (1, .ref a1), (3, .int x3)]) dX10_longestChain_45 (by decide) rfl (z_iinc (y := x3 + 1) (lv' := [(3, .int (x3 + 1)), (2, .int (zmmax x2 w23)), (0, .ref a0), (1, .ref a1)]) 3 dX10_longestChain_46 rfl rfl (by decide) rfl (z_goto (t := 4) dX10_longestChain_49 (by decide) ?_)))
      exact z_less [2, 3, 1, 0] rfl H25
theorem dX10_headsOf_0 : decode cX10_headsOf 0 = .ok (.iconst 0, 1) := by decide +kernel
theorem dX10_headsOf_1 : decode cX10_headsOf 1 = .ok (.istore_n 3, 1) := by decide +kernel
theorem dX10_headsOf_2 : decode cX10_headsOf 2 = .ok (.iconst 0, 1) := by decide +kernel
theorem dX10_headsOf_3 : decode cX10_headsOf 3 = .ok (.istore 4, 2) := by decide +kernel
theorem dX10_headsOf_5 : decode cX10_headsOf 5 = .ok (.iload 4, 2) := by decide +kernel
theorem dX10_headsOf_7 : decode cX10_headsOf 7 = .ok (.aload_n 1, 1) := by decide +kernel
theorem dX10_headsOf_8 : decode cX10_headsOf 8 = .ok (.getfield 30, 3) := by decide +kernel
theorem dX10_headsOf_11 : decode cX10_headsOf 11 = .ok (.if_icmp .ge 61, 3) := by decide +kernel
theorem dX10_headsOf_14 : decode cX10_headsOf 14 = .ok (.iload_n 2, 1) := by decide +kernel
theorem dX10_headsOf_15 : decode cX10_headsOf 15 = .ok (.iload 4, 2) := by decide +kernel
theorem dX10_headsOf_17 : decode cX10_headsOf 17 = .ok (.invokestatic 110, 3) := by decide +kernel
theorem dX10_headsOf_20 : decode cX10_headsOf 20 = .ok (.iconst (-1), 1) := by decide +kernel
theorem dX10_headsOf_21 : decode cX10_headsOf 21 = .ok (.ixor, 1) := by decide +kernel
theorem dX10_headsOf_22 : decode cX10_headsOf 22 = .ok (.iand, 1) := by decide +kernel
theorem dX10_headsOf_23 : decode cX10_headsOf 23 = .ok (.istore 5, 2) := by decide +kernel
theorem dX10_headsOf_25 : decode cX10_headsOf 25 = .ok (.iload_n 2, 1) := by decide +kernel
theorem dX10_headsOf_26 : decode cX10_headsOf 26 = .ok (.iload 4, 2) := by decide +kernel
theorem dX10_headsOf_28 : decode cX10_headsOf 28 = .ok (.invokestatic 55, 3) := by decide +kernel
theorem dX10_headsOf_31 : decode cX10_headsOf 31 = .ok (.ifCond .eq 35, 3) := by decide +kernel
theorem dX10_headsOf_34 : decode cX10_headsOf 34 = .ok (.iload 5, 2) := by decide +kernel
theorem dX10_headsOf_36 : decode cX10_headsOf 36 = .ok (.ifCond .eq 22, 3) := by decide +kernel
theorem dX10_headsOf_39 : decode cX10_headsOf 39 = .ok (.aload_n 1, 1) := by decide +kernel
theorem dX10_headsOf_40 : decode cX10_headsOf 40 = .ok (.iload 4, 2) := by decide +kernel
theorem dX10_headsOf_42 : decode cX10_headsOf 42 = .ok (.invokevirtual 36, 3) := by decide +kernel
theorem dX10_headsOf_45 : decode cX10_headsOf 45 = .ok (.aload_n 0, 1) := by decide +kernel
theorem dX10_headsOf_46 : decode cX10_headsOf 46 = .ok (.getfield 18, 3) := by decide +kernel
theorem dX10_headsOf_49 : decode cX10_headsOf 49 = .ok (.iload 5, 2) := by decide +kernel
theorem dX10_headsOf_51 : decode cX10_headsOf 51 = .ok (.invokestatic 59, 3) := by decide +kernel
theorem dX10_headsOf_54 : decode cX10_headsOf 54 = .ok (.iand, 1) := by decide +kernel
theorem dX10_headsOf_55 : decode cX10_headsOf 55 = .ok (.ifCond .eq 11, 3) := by decide +kernel
theorem dX10_headsOf_58 : decode cX10_headsOf 58 = .ok (.iload_n 3, 1) := by decide +kernel
theorem dX10_headsOf_59 : decode cX10_headsOf 59 = .ok (.iload 4, 2) := by decide +kernel
theorem dX10_headsOf_61 : decode cX10_headsOf 61 = .ok (.invokestatic 110, 3) := by decide +kernel
theorem dX10_headsOf_64 : decode cX10_headsOf 64 = .ok (.ior, 1) := by decide +kernel
theorem dX10_headsOf_65 : decode cX10_headsOf 65 = .ok (.istore_n 3, 1) := by decide +kernel
theorem dX10_headsOf_66 : decode cX10_headsOf 66 = .ok (.iinc 4 1, 3) := by decide +kernel
theorem dX10_headsOf_69 : decode cX10_headsOf 69 = .ok (.goto (-64), 3) := by decide +kernel
theorem dX10_headsOf_72 : decode cX10_headsOf 72 = .ok (.iload_n 3, 1) := by decide +kernel
theorem dX10_headsOf_73 : decode cX10_headsOf 73 = .ok (.ireturn, 1) := by decide +kernel
set_option maxRecDepth 10000 in
theorem wX10_headsOf_0 {g : zG} {I : Nat → Nat → Int32} {P : Nat → Nat → Option Nat} {r : Option Value} {h' : zH} {a0 : Nat} {a1 : Nat} {x2 : Int32} (H : Zt none mX10_headsOf 0 0 5 [(0, .ref a0), (1, .ref a1), (2, .int x2), (3, .int 0), (4, .int 0)] [] (g, I, P) r h') : Zt none mX10_headsOf 0 0 0 [(0, .ref a0), (1, .ref a1), (2, .int x2)] [] (g, I, P) r h' := by
  refine z_iconst (w := 0) dX10_headsOf_0 (by decide) (z_istore_n (lv' := [(3, .int 0), (0, .ref a0), (1, .ref a1), (2, .int x2)]) dX10_headsOf_1 (by decide) rfl (z_iconst (w := 0) dX10_headsOf_2 (by decide) (z_istore (lv' := [(4, .int 0), (3, .int 0), (0, .ref a0), (1, .ref a1), (2, .int x2)]) dX10_headsOf_3 (by decide) rfl ?_)))
  exact z_less [2, 3, 4, 1, 0] rfl H
theorem eX10_headsOf {g : zG} {I : Nat → Nat → Int32} {P : Nat → Nat → Option Nat} {r : Option Value} {h' : zH} {a0 : Nat} {a1 : Nat} {x2 : Int32} (H : Zt none mX10_headsOf 0 0 0 [(0, .ref a0), (1, .ref a1), (2, .int x2)] [] (g, I, P) r h') : Cl mX10_headsOf [.ref a0, .ref a1, .int x2] (g, I, P) r h' := Cl.of (by decide) (Nat.le_of_ble_eq_true rfl) H
set_option maxRecDepth 10000 in
theorem wX10_headsOf_5 {g : zG} {I : Nat → Nat → Int32} {P : Nat → Nat → Option Nat} {r : Option Value} {h' : zH} {a0 : Nat} {a1 : Nat} {x2 : Int32} {x3 : Int32} {x4 : Int32} (H : zk g a1 3 ∧ ((I a1 1 ≤ x4) → r = some (.int x3) ∧ h' = (g, I, P)) ∧ ((¬ I a1 1 ≤ x4) → ∃ (w3 : Int32), Cl mX11_bit [.int x4] (g, I, P) (some (.int w3)) (g, I, P) ∧ ∃ (w6 : Int32), Cl mX11_has [.int x2, .int x4] (g, I, P) (some (.int w6)) (g, I, P) ∧ ((w6 = 0) → Zt none mX10_headsOf 0 0 5 [(0, .ref a0), (1, .ref a1), (2, .int x2), (3, .int x3), (4, .int (x4 + 1))] [] (g, I, P) r h') ∧ ((¬ w6 = 0) → ((x2 &&& (w3 ^^^ (-1)) = 0) → ∃ (w12 : Int32), Cl mX11_bit [.int x4] (g, I, P) (some (.int w12)) (g, I, P) ∧ Zt none mX10_headsOf 0 0 5 [(0, .ref a0), (1, .ref a1), (2, .int x2), (3, .int (x3 ||| w12)), (4, .int (x4 + 1))] [] (g, I, P) r h') ∧ ((¬ x2 &&& (w3 ^^^ (-1)) = 0) → zk g a1 3 ∧ ∃ (w16 : Int32), Cl mX3_behind [.ref a1, .int x4] (g, I, P) (some (.int w16)) (g, I, P) ∧ zk g a0 10 ∧ ∃ b19, P a0 2 = some b19 ∧ ∃ (w22 : Int32), Cl mX11_got [.ref b19, .int (x2 &&& (w3 ^^^ (-1)))] (g, I, P) (some (.int w22)) (g, I, P) ∧ ((w16 &&& w22 = 0) → Zt none mX10_headsOf 0 0 5 [(0, .ref a0), (1, .ref a1), (2, .int x2), (3, .int x3), (4, .int (x4 + 1))] [] (g, I, P) r h') ∧ ((¬ w16 &&& w22 = 0) → ∃ (w27 : Int32), Cl mX11_bit [.int x4] (g, I, P) (some (.int w27)) (g, I, P) ∧ Zt none mX10_headsOf 0 0 5 [(0, .ref a0), (1, .ref a1), (2, .int x2), (3, .int (x3 ||| w27)), (4, .int (x4 + 1))] [] (g, I, P) r h'))))) : Zt none mX10_headsOf 0 0 5 [(0, .ref a0), (1, .ref a1), (2, .int x2), (3, .int x3), (4, .int x4)] [] (g, I, P) r h' := by
  refine z_iload 4 dX10_headsOf_5 rfl (z_aload_n 1 dX10_headsOf_7 rfl rfl (z_getI dX10_headsOf_8 wf_X10_30 (by decide) (by decide) rfl H.1 ?_))
  refine z_icmp_ge (t := 72) dX10_headsOf_11 (by decide) (fun q => ?_) (fun q => ?_)
  · have H1 := H.2.1 q
    refine z_iload_n 3 dX10_headsOf_72 rfl ?_
    obtain ⟨rfl, rfl⟩ := H1
    exact z_iret dX10_headsOf_73 rfl (by decide) (by decide)
  · have H2 := H.2.2 q
    refine z_iload_n 2 dX10_headsOf_14 rfl (z_iload 4 dX10_headsOf_15 rfl ?_)
    obtain ⟨w3, c4, H5⟩ := H2
    refine z_stat (As := [.int x4]) (st := [.int x2]) (r1 := (some (.int w3))) (h1 := (g, I, P)) dX10_headsOf_17 kX11_bit wm_X10_110 ⟨by decide, by decide⟩ rfl rfl (Nat.le_of_ble_eq_true rfl) (by decide) (by decide) c4 ?_
    refine z_iconst (w := (-1)) dX10_headsOf_20 (by decide) (z_ixor dX10_headsOf_21 (z_iand dX10_headsOf_22 (z_istore (lv' := [(5, .int (x2 &&& (w3 ^^^ (-1)))), (0, .ref a0), (1, .ref a1), (2, .int x2), (3, .int x3), (4, .int x4)]) dX10_headsOf_23 (by decide) rfl (z_iload_n 3 dX10_headsOf_25 rfl (z_iload 5 dX10_headsOf_26 rfl ?_)))))
    obtain ⟨w6, c7, H8⟩ := H5
    refine z_stat (As := [.int x2, .int x4]) (st := []) (r1 := (some (.int w6))) (h1 := (g, I, P)) dX10_headsOf_28 kX11_has wm_X10_55 ⟨by decide, by decide⟩ rfl rfl (Nat.le_of_ble_eq_true rfl) (by decide) (by decide) c7 ?_
    refine z_if_eq (t := 66) dX10_headsOf_31 (by decide) (fun q => ?_) (fun q => ?_)
    · have H9 := H8.1 q
      refine z_iinc (y := x4 + 1) (lv' := [(4, .int (x4 + 1)), (5, .int (x2 &&& (w3 ^^^ (-1)))), (0, .ref a0), (1, .ref a1), (2, .int x2), (3, .int x3)]) 5 dX10_headsOf_66 rfl rfl (by decide) rfl (z_goto (t := 5) dX10_headsOf_69 (by decide) ?_)
      exact z_less [2, 3, 4, 5, 0] rfl H9
    · have H10 := H8.2 q
      refine z_iload 0 dX10_headsOf_34 rfl ?_
      refine z_if_eq (t := 58) dX10_headsOf_36 (by decide) (fun q => ?_) (fun q => ?_)
      · have H11 := H10.1 q
        refine z_iload_n 4 dX10_headsOf_58 rfl (z_iload 5 dX10_headsOf_59 rfl ?_)
        obtain ⟨w12, c13, H14⟩ := H11
        refine z_stat (As := [.int x4]) (st := [.int x3]) (r1 := (some (.int w12))) (h1 := (g, I, P)) dX10_headsOf_61 kX11_bit wm_X10_110 ⟨by decide, by decide⟩ rfl rfl (Nat.le_of_ble_eq_true rfl) (by decide) (by decide) c13 ?_
        refine z_ior dX10_headsOf_64 (z_istore_n (lv' := [(3, .int (x3 ||| w12)), (5, .int (x2 &&& (w3 ^^^ (-1)))), (0, .ref a0), (1, .ref a1), (2, .int x2), (4, .int x4)]) dX10_headsOf_65 (by decide) rfl (z_iinc (y := x4 + 1) (lv' := [(4, .int (x4 + 1)), (3, .int (x3 ||| w12)), (5, .int (x2 &&& (w3 ^^^ (-1)))), (0, .ref a0), (1, .ref a1), (2, .int x2)]) 5 dX10_headsOf_66 rfl rfl (by decide) rfl (z_goto (t := 5) dX10_headsOf_69 (by decide) ?_)))
        exact z_less [3, 4, 5, 1, 0] rfl H14
      · have H15 := H10.2 q
        refine z_aload_n 2 dX10_headsOf_39 rfl rfl (z_iload 5 dX10_headsOf_40 rfl ?_)
        obtain ⟨oc17, w16, c17, H18⟩ := H15
        refine z_virt (As := [.int x4]) (st := []) (r1 := (some (.int w16))) (h1 := (g, I, P)) dX10_headsOf_42 kX3_behind wm_X10_36 ⟨by decide, by decide⟩ rfl rfl (Nat.le_of_ble_eq_true rfl) (by decide) (by decide) oc17 c17 ?_
        refine z_aload_n 1 dX10_headsOf_45 rfl rfl ?_
        obtain ⟨oe21, b19, e21, H20⟩ := H18
        refine z_getP dX10_headsOf_46 wf_X10_18 (by decide) (by decide) rfl oe21 (fun q => (by cases q.symm.trans e21)) (fun j q => ?_)
        cases q.symm.trans e21
        refine z_iload 0 dX10_headsOf_49 rfl ?_
        obtain ⟨w22, c23, H24⟩ := H20
        refine z_stat (As := [.ref b19, .int (x2 &&& (w3 ^^^ (-1)))]) (st := [.int w16]) (r1 := (some (.int w22))) (h1 := (g, I, P)) dX10_headsOf_51 kX11_got wm_X10_59 ⟨by decide, by decide⟩ rfl rfl (Nat.le_of_ble_eq_true rfl) (by decide) (by decide) c23 ?_
        refine z_iand dX10_headsOf_54 ?_
        refine z_if_eq (t := 66) dX10_headsOf_55 (by decide) (fun q => ?_) (fun q => ?_)
        · have H25 := H24.1 q
          refine z_iinc (y := x4 + 1) (lv' := [(4, .int (x4 + 1)), (5, .int (x2 &&& (w3 ^^^ (-1)))), (0, .ref a0), (1, .ref a1), (2, .int x2), (3, .int x3)]) 5 dX10_headsOf_66 rfl rfl (by decide) rfl (z_goto (t := 5) dX10_headsOf_69 (by decide) ?_)
          exact z_less [2, 3, 4, 5, 0] rfl H25
        · have H26 := H24.2 q
          refine z_iload_n 4 dX10_headsOf_58 rfl (z_iload 5 dX10_headsOf_59 rfl ?_)
          obtain ⟨w27, c28, H29⟩ := H26
          refine z_stat (As := [.int x4]) (st := [.int x3]) (r1 := (some (.int w27))) (h1 := (g, I, P)) dX10_headsOf_61 kX11_bit wm_X10_110 ⟨by decide, by decide⟩ rfl rfl (Nat.le_of_ble_eq_true rfl) (by decide) (by decide) c28 ?_
          refine z_ior dX10_headsOf_64 (z_istore_n (lv' := [(3, .int (x3 ||| w27)), (5, .int (x2 &&& (w3 ^^^ (-1)))), (0, .ref a0), (1, .ref a1), (2, .int x2), (4, .int x4)]) dX10_headsOf_65 (by decide) rfl (z_iinc (y := x4 + 1) (lv' := [(4, .int (x4 + 1)), (3, .int (x3 ||| w27)), (5, .int (x2 &&& (w3 ^^^ (-1)))), (0, .ref a0), (1, .ref a1), (2, .int x2)]) 5 dX10_headsOf_66 rfl rfl (by decide) rfl (z_goto (t := 5) dX10_headsOf_69 (by decide) ?_)))
          exact z_less [3, 4, 5, 1, 0] rfl H29
theorem dX10_wordOfFirstChain_0 : decode cX10_wordOfFirstChain 0 = .ok (.iconst 0, 1) := by decide +kernel
theorem dX10_wordOfFirstChain_1 : decode cX10_wordOfFirstChain 1 = .ok (.istore 4, 2) := by decide +kernel
theorem dX10_wordOfFirstChain_3 : decode cX10_wordOfFirstChain 3 = .ok (.iconst (-1), 1) := by decide +kernel
theorem dX10_wordOfFirstChain_4 : decode cX10_wordOfFirstChain 4 = .ok (.istore 5, 2) := by decide +kernel
theorem dX10_wordOfFirstChain_6 : decode cX10_wordOfFirstChain 6 = .ok (.iconst 0, 1) := by decide +kernel
theorem dX10_wordOfFirstChain_7 : decode cX10_wordOfFirstChain 7 = .ok (.istore 6, 2) := by decide +kernel
theorem dX10_wordOfFirstChain_9 : decode cX10_wordOfFirstChain 9 = .ok (.iload 6, 2) := by decide +kernel
theorem dX10_wordOfFirstChain_11 : decode cX10_wordOfFirstChain 11 = .ok (.iload_n 3, 1) := by decide +kernel
theorem dX10_wordOfFirstChain_12 : decode cX10_wordOfFirstChain 12 = .ok (.if_icmp .gt 57, 3) := by decide +kernel
theorem dX10_wordOfFirstChain_15 : decode cX10_wordOfFirstChain 15 = .ok (.iload 6, 2) := by decide +kernel
theorem dX10_wordOfFirstChain_17 : decode cX10_wordOfFirstChain 17 = .ok (.iload_n 2, 1) := by decide +kernel
theorem dX10_wordOfFirstChain_18 : decode cX10_wordOfFirstChain 18 = .ok (.if_icmp .ge 51, 3) := by decide +kernel
theorem dX10_wordOfFirstChain_21 : decode cX10_wordOfFirstChain 21 = .ok (.aload_n 1, 1) := by decide +kernel
theorem dX10_wordOfFirstChain_22 : decode cX10_wordOfFirstChain 22 = .ok (.iload 5, 2) := by decide +kernel
theorem dX10_wordOfFirstChain_24 : decode cX10_wordOfFirstChain 24 = .ok (.invokevirtual 36, 3) := by decide +kernel
theorem dX10_wordOfFirstChain_27 : decode cX10_wordOfFirstChain 27 = .ok (.iload 4, 2) := by decide +kernel
theorem dX10_wordOfFirstChain_29 : decode cX10_wordOfFirstChain 29 = .ok (.iconst (-1), 1) := by decide +kernel
theorem dX10_wordOfFirstChain_30 : decode cX10_wordOfFirstChain 30 = .ok (.ixor, 1) := by decide +kernel
theorem dX10_wordOfFirstChain_31 : decode cX10_wordOfFirstChain 31 = .ok (.iand, 1) := by decide +kernel
theorem dX10_wordOfFirstChain_32 : decode cX10_wordOfFirstChain 32 = .ok (.istore 7, 2) := by decide +kernel
theorem dX10_wordOfFirstChain_34 : decode cX10_wordOfFirstChain 34 = .ok (.iload 7, 2) := by decide +kernel
theorem dX10_wordOfFirstChain_36 : decode cX10_wordOfFirstChain 36 = .ok (.aload_n 0, 1) := by decide +kernel
theorem dX10_wordOfFirstChain_37 : decode cX10_wordOfFirstChain 37 = .ok (.aload_n 1, 1) := by decide +kernel
theorem dX10_wordOfFirstChain_38 : decode cX10_wordOfFirstChain 38 = .ok (.iload 4, 2) := by decide +kernel
theorem dX10_wordOfFirstChain_40 : decode cX10_wordOfFirstChain 40 = .ok (.iload_n 2, 1) := by decide +kernel
theorem dX10_wordOfFirstChain_41 : decode cX10_wordOfFirstChain 41 = .ok (.iload 6, 2) := by decide +kernel
theorem dX10_wordOfFirstChain_43 : decode cX10_wordOfFirstChain 43 = .ok (.isub, 1) := by decide +kernel
theorem dX10_wordOfFirstChain_44 : decode cX10_wordOfFirstChain 44 = .ok (.invokevirtual 113, 3) := by decide +kernel
theorem dX10_wordOfFirstChain_47 : decode cX10_wordOfFirstChain 47 = .ok (.iand, 1) := by decide +kernel
theorem dX10_wordOfFirstChain_48 : decode cX10_wordOfFirstChain 48 = .ok (.invokestatic 117, 3) := by decide +kernel
theorem dX10_wordOfFirstChain_51 : decode cX10_wordOfFirstChain 51 = .ok (.istore 5, 2) := by decide +kernel
theorem dX10_wordOfFirstChain_53 : decode cX10_wordOfFirstChain 53 = .ok (.iload 4, 2) := by decide +kernel
theorem dX10_wordOfFirstChain_55 : decode cX10_wordOfFirstChain 55 = .ok (.iload 5, 2) := by decide +kernel
theorem dX10_wordOfFirstChain_57 : decode cX10_wordOfFirstChain 57 = .ok (.invokestatic 110, 3) := by decide +kernel
theorem dX10_wordOfFirstChain_60 : decode cX10_wordOfFirstChain 60 = .ok (.ior, 1) := by decide +kernel
theorem dX10_wordOfFirstChain_61 : decode cX10_wordOfFirstChain 61 = .ok (.istore 4, 2) := by decide +kernel
theorem dX10_wordOfFirstChain_63 : decode cX10_wordOfFirstChain 63 = .ok (.iinc 6 1, 3) := by decide +kernel
theorem dX10_wordOfFirstChain_66 : decode cX10_wordOfFirstChain 66 = .ok (.goto (-57), 3) := by decide +kernel
theorem dX10_wordOfFirstChain_69 : decode cX10_wordOfFirstChain 69 = .ok (.iload_n 3, 1) := by decide +kernel
theorem dX10_wordOfFirstChain_70 : decode cX10_wordOfFirstChain 70 = .ok (.iload_n 2, 1) := by decide +kernel
theorem dX10_wordOfFirstChain_71 : decode cX10_wordOfFirstChain 71 = .ok (.if_icmp .ge 8, 3) := by decide +kernel
theorem dX10_wordOfFirstChain_74 : decode cX10_wordOfFirstChain 74 = .ok (.iload 5, 2) := by decide +kernel
theorem dX10_wordOfFirstChain_76 : decode cX10_wordOfFirstChain 76 = .ok (.goto 4, 3) := by decide +kernel
theorem dX10_wordOfFirstChain_79 : decode cX10_wordOfFirstChain 79 = .ok (.iconst (-1), 1) := by decide +kernel
theorem dX10_wordOfFirstChain_80 : decode cX10_wordOfFirstChain 80 = .ok (.ireturn, 1) := by decide +kernel
set_option maxRecDepth 10000 in
theorem wX10_wordOfFirstChain_0 {g : zG} {I : Nat → Nat → Int32} {P : Nat → Nat → Option Nat} {r : Option Value} {h' : zH} {a0 : Nat} {a1 : Nat} {x2 : Int32} {x3 : Int32} (H : Zt none mX10_wordOfFirstChain 0 0 9 [(0, .ref a0), (1, .ref a1), (2, .int x2), (3, .int x3), (4, .int 0), (5, .int (-1)), (6, .int 0)] [] (g, I, P) r h') : Zt none mX10_wordOfFirstChain 0 0 0 [(0, .ref a0), (1, .ref a1), (2, .int x2), (3, .int x3)] [] (g, I, P) r h' := by
  refine z_iconst (w := 0) dX10_wordOfFirstChain_0 (by decide) (z_istore (lv' := [(4, .int 0), (0, .ref a0), (1, .ref a1), (2, .int x2), (3, .int x3)]) dX10_wordOfFirstChain_1 (by decide) rfl (z_iconst (w := (-1)) dX10_wordOfFirstChain_3 (by decide) (z_istore (lv' := [(5, .int (-1)), (4, .int 0), (0, .ref a0), (1, .ref a1), (2, .int x2), (3, .int x3)]) dX10_wordOfFirstChain_4 (by decide) rfl (z_iconst (w := 0) dX10_wordOfFirstChain_6 (by decide) (z_istore (lv' := [(6, .int 0), (5, .int (-1)), (4, .int 0), (0, .ref a0), (1, .ref a1), (2, .int x2), (3, .int x3)]) dX10_wordOfFirstChain_7 (by decide) rfl ?_)))))
  exact z_less [3, 4, 5, 6, 2, 1, 0] rfl H
theorem eX10_wordOfFirstChain {g : zG} {I : Nat → Nat → Int32} {P : Nat → Nat → Option Nat} {r : Option Value} {h' : zH} {a0 : Nat} {a1 : Nat} {x2 : Int32} {x3 : Int32} (H : Zt none mX10_wordOfFirstChain 0 0 0 [(0, .ref a0), (1, .ref a1), (2, .int x2), (3, .int x3)] [] (g, I, P) r h') : Cl mX10_wordOfFirstChain [.ref a0, .ref a1, .int x2, .int x3] (g, I, P) r h' := Cl.of (by decide) (Nat.le_of_ble_eq_true rfl) H
set_option maxRecDepth 10000 in
theorem wX10_wordOfFirstChain_9 {g : zG} {I : Nat → Nat → Int32} {P : Nat → Nat → Option Nat} {r : Option Value} {h' : zH} {a0 : Nat} {a1 : Nat} {x2 : Int32} {x3 : Int32} {x4 : Int32} {x5 : Int32} {x6 : Int32} (H : ((x3 < x6) → ((x2 ≤ x3) → r = some (.int (-1)) ∧ h' = (g, I, P)) ∧ ((¬ x2 ≤ x3) → r = some (.int x5) ∧ h' = (g, I, P))) ∧ ((¬ x3 < x6) → ((x2 ≤ x6) → ((x2 ≤ x3) → r = some (.int (-1)) ∧ h' = (g, I, P)) ∧ ((¬ x2 ≤ x3) → r = some (.int x5) ∧ h' = (g, I, P))) ∧ ((¬ x2 ≤ x6) → zk g a1 3 ∧ ∃ (w9 : Int32), Cl mX3_behind [.ref a1, .int x5] (g, I, P) (some (.int w9)) (g, I, P) ∧ zk g a0 10 ∧ ∃ (w12 : Int32), Cl mX10_headsWithout [.ref a0, .ref a1, .int x4, .int (x2 - x6)] (g, I, P) (some (.int w12)) (g, I, P) ∧ ∃ (w15 : Int32), Cl mX11_lowest [.int ((w9 &&& (x4 ^^^ (-1))) &&& w12)] (g, I, P) (some (.int w15)) (g, I, P) ∧ ∃ (w18 : Int32), Cl mX11_bit [.int w15] (g, I, P) (some (.int w18)) (g, I, P) ∧ Zt none mX10_wordOfFirstChain 0 0 9 [(0, .ref a0), (1, .ref a1), (2, .int x2), (3, .int x3), (4, .int (x4 ||| w18)), (5, .int w15), (6, .int (x6 + 1))] [] (g, I, P) r h'))) : Zt none mX10_wordOfFirstChain 0 0 9 [(0, .ref a0), (1, .ref a1), (2, .int x2), (3, .int x3), (4, .int x4), (5, .int x5), (6, .int x6)] [] (g, I, P) r h' := by
  refine z_iload 6 dX10_wordOfFirstChain_9 rfl (z_iload_n 3 dX10_wordOfFirstChain_11 rfl ?_)
  refine z_icmp_gt (t := 69) dX10_wordOfFirstChain_12 (by decide) (fun q => ?_) (fun q => ?_)
  · have H1 := H.1 q
    refine z_iload_n 3 dX10_wordOfFirstChain_69 rfl (z_iload_n 2 dX10_wordOfFirstChain_70 rfl ?_)
    refine z_icmp_ge (t := 79) dX10_wordOfFirstChain_71 (by decide) (fun q => ?_) (fun q => ?_)
    · have H2 := H1.1 q
      refine z_iconst (w := (-1)) dX10_wordOfFirstChain_79 (by decide) ?_
      obtain ⟨rfl, rfl⟩ := H2
      exact z_iret dX10_wordOfFirstChain_80 rfl (by decide) (by decide)
    · have H3 := H1.2 q
      refine z_iload 5 dX10_wordOfFirstChain_74 rfl (z_goto (t := 80) dX10_wordOfFirstChain_76 (by decide) ?_)
      obtain ⟨rfl, rfl⟩ := H3
      exact z_iret dX10_wordOfFirstChain_80 rfl (by decide) (by decide)
  · have H4 := H.2 q
    refine z_iload 6 dX10_wordOfFirstChain_15 rfl (z_iload_n 2 dX10_wordOfFirstChain_17 rfl ?_)
    refine z_icmp_ge (t := 69) dX10_wordOfFirstChain_18 (by decide) (fun q => ?_) (fun q => ?_)
    · have H5 := H4.1 q
      refine z_iload_n 3 dX10_wordOfFirstChain_69 rfl (z_iload_n 2 dX10_wordOfFirstChain_70 rfl ?_)
      refine z_icmp_ge (t := 79) dX10_wordOfFirstChain_71 (by decide) (fun q => ?_) (fun q => ?_)
      · have H6 := H5.1 q
        refine z_iconst (w := (-1)) dX10_wordOfFirstChain_79 (by decide) ?_
        obtain ⟨rfl, rfl⟩ := H6
        exact z_iret dX10_wordOfFirstChain_80 rfl (by decide) (by decide)
      · have H7 := H5.2 q
        refine z_iload 5 dX10_wordOfFirstChain_74 rfl (z_goto (t := 80) dX10_wordOfFirstChain_76 (by decide) ?_)
        obtain ⟨rfl, rfl⟩ := H7
        exact z_iret dX10_wordOfFirstChain_80 rfl (by decide) (by decide)
    · have H8 := H4.2 q
      refine z_aload_n 1 dX10_wordOfFirstChain_21 rfl rfl (z_iload 5 dX10_wordOfFirstChain_22 rfl ?_)
      obtain ⟨oc10, w9, c10, H11⟩ := H8
      refine z_virt (As := [.int x5]) (st := []) (r1 := (some (.int w9))) (h1 := (g, I, P)) dX10_wordOfFirstChain_24 kX3_behind wm_X10_36 ⟨by decide, by decide⟩ rfl rfl (Nat.le_of_ble_eq_true rfl) (by decide) (by decide) oc10 c10 ?_
      refine z_iload 4 dX10_wordOfFirstChain_27 rfl (z_iconst (w := (-1)) dX10_wordOfFirstChain_29 (by decide) (z_ixor dX10_wordOfFirstChain_30 (z_iand dX10_wordOfFirstChain_31 (z_istore (lv' := [(7, .int (w9 &&& (x4 ^^^ (-1)))), (0, .ref a0), (1, .ref a1), (2, .int x2), (3, .int x3), (4, .int x4), (5, .int x5), (6, .int x6)]) dX10_wordOfFirstChain_32 (by decide) rfl (z_iload 0 dX10_wordOfFirstChain_34 rfl (z_aload_n 1 dX10_wordOfFirstChain_36 rfl rfl (z_aload_n 2 dX10_wordOfFirstChain_37 rfl rfl (z_iload 5 dX10_wordOfFirstChain_38 rfl (z_iload_n 3 dX10_wordOfFirstChain_40 rfl (z_iload 7 dX10_wordOfFirstChain_41 rfl (z_isub dX10_wordOfFirstChain_43 ?_)))))))))))
      obtain ⟨oc13, w12, c13, H14⟩ := H11
      refine z_virt (As := [.ref a1, .int x4, .int (x2 - x6)]) (st := [.int (w9 &&& (x4 ^^^ (-1)))]) (r1 := (some (.int w12))) (h1 := (g, I, P)) dX10_wordOfFirstChain_44 kX10_headsWithout wm_X10_113 ⟨by decide, by decide⟩ rfl rfl (Nat.le_of_ble_eq_true rfl) (by decide) (by decide) oc13 c13 ?_
      refine z_iand dX10_wordOfFirstChain_47 ?_
      obtain ⟨w15, c16, H17⟩ := H14
      refine z_stat (As := [.int ((w9 &&& (x4 ^^^ (-1))) &&& w12)]) (st := []) (r1 := (some (.int w15))) (h1 := (g, I, P)) dX10_wordOfFirstChain_48 kX11_lowest wm_X10_117 ⟨by decide, by decide⟩ rfl rfl (Nat.le_of_ble_eq_true rfl) (by decide) (by decide) c16 ?_
      refine z_istore (lv' := [(5, .int w15), (7, .int (w9 &&& (x4 ^^^ (-1)))), (0, .ref a0), (1, .ref a1), (2, .int x2), (3, .int x3), (4, .int x4), (6, .int x6)]) dX10_wordOfFirstChain_51 (by decide) rfl (z_iload 6 dX10_wordOfFirstChain_53 rfl (z_iload 0 dX10_wordOfFirstChain_55 rfl ?_))
      obtain ⟨w18, c19, H20⟩ := H17
      refine z_stat (As := [.int w15]) (st := [.int x4]) (r1 := (some (.int w18))) (h1 := (g, I, P)) dX10_wordOfFirstChain_57 kX11_bit wm_X10_110 ⟨by decide, by decide⟩ rfl rfl (Nat.le_of_ble_eq_true rfl) (by decide) (by decide) c19 ?_
      refine z_ior dX10_wordOfFirstChain_60 (z_istore (lv' := [(4, .int (x4 ||| w18)), (5, .int w15), (7, .int (w9 &&& (x4 ^^^ (-1)))), (0, .ref a0), (1, .ref a1), (2, .int x2), (3, .int x3), (6, .int x6)]) dX10_wordOfFirstChain_61 (by decide) rfl (z_iinc (y := x6 + 1) (lv' := [(6, .int (x6 + 1)), (4, .int (x4 ||| w18)), (5, .int w15), (7, .int (w9 &&& (x4 ^^^ (-1)))), (0, .ref a0), (1, .ref a1), (2, .int x2), (3, .int x3)]) 7 dX10_wordOfFirstChain_63 rfl rfl (by decide) rfl (z_goto (t := 9) dX10_wordOfFirstChain_66 (by decide) ?_)))
      exact z_less [4, 5, 6, 7, 1, 2, 0] rfl H20
theorem dX10_headsWithout_0 : decode cX10_headsWithout 0 = .ok (.iconst 0, 1) := by decide +kernel
theorem dX10_headsWithout_1 : decode cX10_headsWithout 1 = .ok (.istore 4, 2) := by decide +kernel
theorem dX10_headsWithout_3 : decode cX10_headsWithout 3 = .ok (.iconst 1, 1) := by decide +kernel
theorem dX10_headsWithout_4 : decode cX10_headsWithout 4 = .ok (.istore 5, 2) := by decide +kernel
theorem dX10_headsWithout_6 : decode cX10_headsWithout 6 = .ok (.iload 5, 2) := by decide +kernel
theorem dX10_headsWithout_8 : decode cX10_headsWithout 8 = .ok (.aload_n 1, 1) := by decide +kernel
theorem dX10_headsWithout_9 : decode cX10_headsWithout 9 = .ok (.invokevirtual 51, 3) := by decide +kernel
theorem dX10_headsWithout_12 : decode cX10_headsWithout 12 = .ok (.if_icmp .gt 39, 3) := by decide +kernel
theorem dX10_headsWithout_15 : decode cX10_headsWithout 15 = .ok (.iload 5, 2) := by decide +kernel
theorem dX10_headsWithout_17 : decode cX10_headsWithout 17 = .ok (.iload_n 2, 1) := by decide +kernel
theorem dX10_headsWithout_18 : decode cX10_headsWithout 18 = .ok (.iand, 1) := by decide +kernel
theorem dX10_headsWithout_19 : decode cX10_headsWithout 19 = .ok (.ifCond .ne 26, 3) := by decide +kernel
theorem dX10_headsWithout_22 : decode cX10_headsWithout 22 = .ok (.iload 5, 2) := by decide +kernel
theorem dX10_headsWithout_24 : decode cX10_headsWithout 24 = .ok (.invokestatic 102, 3) := by decide +kernel
theorem dX10_headsWithout_27 : decode cX10_headsWithout 27 = .ok (.iload_n 3, 1) := by decide +kernel
theorem dX10_headsWithout_28 : decode cX10_headsWithout 28 = .ok (.if_icmp .ne 17, 3) := by decide +kernel
theorem dX10_headsWithout_31 : decode cX10_headsWithout 31 = .ok (.iload 4, 2) := by decide +kernel
theorem dX10_headsWithout_33 : decode cX10_headsWithout 33 = .ok (.aload_n 0, 1) := by decide +kernel
theorem dX10_headsWithout_34 : decode cX10_headsWithout 34 = .ok (.getfield 18, 3) := by decide +kernel
theorem dX10_headsWithout_37 : decode cX10_headsWithout 37 = .ok (.iload 5, 2) := by decide +kernel
theorem dX10_headsWithout_39 : decode cX10_headsWithout 39 = .ok (.invokestatic 59, 3) := by decide +kernel
theorem dX10_headsWithout_42 : decode cX10_headsWithout 42 = .ok (.ior, 1) := by decide +kernel
theorem dX10_headsWithout_43 : decode cX10_headsWithout 43 = .ok (.istore 4, 2) := by decide +kernel
theorem dX10_headsWithout_45 : decode cX10_headsWithout 45 = .ok (.iinc 5 1, 3) := by decide +kernel
theorem dX10_headsWithout_48 : decode cX10_headsWithout 48 = .ok (.goto (-42), 3) := by decide +kernel
theorem dX10_headsWithout_51 : decode cX10_headsWithout 51 = .ok (.iload 4, 2) := by decide +kernel
theorem dX10_headsWithout_53 : decode cX10_headsWithout 53 = .ok (.ireturn, 1) := by decide +kernel
set_option maxRecDepth 10000 in
theorem wX10_headsWithout_0 {g : zG} {I : Nat → Nat → Int32} {P : Nat → Nat → Option Nat} {r : Option Value} {h' : zH} {a0 : Nat} {a1 : Nat} {x2 : Int32} {x3 : Int32} (H : Zt none mX10_headsWithout 0 0 6 [(0, .ref a0), (1, .ref a1), (2, .int x2), (3, .int x3), (4, .int 0), (5, .int 1)] [] (g, I, P) r h') : Zt none mX10_headsWithout 0 0 0 [(0, .ref a0), (1, .ref a1), (2, .int x2), (3, .int x3)] [] (g, I, P) r h' := by
  refine z_iconst (w := 0) dX10_headsWithout_0 (by decide) (z_istore (lv' := [(4, .int 0), (0, .ref a0), (1, .ref a1), (2, .int x2), (3, .int x3)]) dX10_headsWithout_1 (by decide) rfl (z_iconst (w := 1) dX10_headsWithout_3 (by decide) (z_istore (lv' := [(5, .int 1), (4, .int 0), (0, .ref a0), (1, .ref a1), (2, .int x2), (3, .int x3)]) dX10_headsWithout_4 (by decide) rfl ?_)))
  exact z_less [2, 3, 4, 5, 1, 0] rfl H
theorem eX10_headsWithout {g : zG} {I : Nat → Nat → Int32} {P : Nat → Nat → Option Nat} {r : Option Value} {h' : zH} {a0 : Nat} {a1 : Nat} {x2 : Int32} {x3 : Int32} (H : Zt none mX10_headsWithout 0 0 0 [(0, .ref a0), (1, .ref a1), (2, .int x2), (3, .int x3)] [] (g, I, P) r h') : Cl mX10_headsWithout [.ref a0, .ref a1, .int x2, .int x3] (g, I, P) r h' := Cl.of (by decide) (Nat.le_of_ble_eq_true rfl) H
set_option maxRecDepth 10000 in
theorem wX10_headsWithout_6 {g : zG} {I : Nat → Nat → Int32} {P : Nat → Nat → Option Nat} {r : Option Value} {h' : zH} {a0 : Nat} {a1 : Nat} {x2 : Int32} {x3 : Int32} {x4 : Int32} {x5 : Int32} (H : zk g a1 3 ∧ ∃ (w1 : Int32), Cl mX3_all [.ref a1] (g, I, P) (some (.int w1)) (g, I, P) ∧ ((w1 < x5) → r = some (.int x4) ∧ h' = (g, I, P)) ∧ ((¬ w1 < x5) → ((¬ x5 &&& x2 = 0) → Zt none mX10_headsWithout 0 0 6 [(0, .ref a0), (1, .ref a1), (2, .int x2), (3, .int x3), (4, .int x4), (5, .int (x5 + 1))] [] (g, I, P) r h') ∧ ((x5 &&& x2 = 0) → ∃ (w8 : Int32), Cl mJ6_bitCount_0f7a4 [.int x5] (g, I, P) (some (.int w8)) (g, I, P) ∧ ((¬ w8 = x3) → Zt none mX10_headsWithout 0 0 6 [(0, .ref a0), (1, .ref a1), (2, .int x2), (3, .int x3), (4, .int x4), (5, .int (x5 + 1))] [] (g, I, P) r h') ∧ ((w8 = x3) → zk g a0 10 ∧ ∃ b13, P a0 2 = some b13 ∧ ∃ (w16 : Int32), Cl mX11_got [.ref b13, .int x5] (g, I, P) (some (.int w16)) (g, I, P) ∧ Zt none mX10_headsWithout 0 0 6 [(0, .ref a0), (1, .ref a1), (2, .int x2), (3, .int x3), (4, .int (x4 ||| w16)), (5, .int (x5 + 1))] [] (g, I, P) r h')))) : Zt none mX10_headsWithout 0 0 6 [(0, .ref a0), (1, .ref a1), (2, .int x2), (3, .int x3), (4, .int x4), (5, .int x5)] [] (g, I, P) r h' := by
  refine z_iload 5 dX10_headsWithout_6 rfl (z_aload_n 1 dX10_headsWithout_8 rfl rfl ?_)
  obtain ⟨oc2, w1, c2, H3⟩ := H
  refine z_virt (As := []) (st := [.int x5]) (r1 := (some (.int w1))) (h1 := (g, I, P)) dX10_headsWithout_9 kX3_all wm_X10_51 ⟨by decide, by decide⟩ rfl rfl (Nat.le_of_ble_eq_true rfl) (by decide) (by decide) oc2 c2 ?_
  refine z_icmp_gt (t := 51) dX10_headsWithout_12 (by decide) (fun q => ?_) (fun q => ?_)
  · have H4 := H3.1 q
    refine z_iload 4 dX10_headsWithout_51 rfl ?_
    obtain ⟨rfl, rfl⟩ := H4
    exact z_iret dX10_headsWithout_53 rfl (by decide) (by decide)
  · have H5 := H3.2 q
    refine z_iload 5 dX10_headsWithout_15 rfl (z_iload_n 2 dX10_headsWithout_17 rfl (z_iand dX10_headsWithout_18 ?_))
    refine z_if_ne (t := 45) dX10_headsWithout_19 (by decide) (fun q => ?_) (fun q => ?_)
    · have H6 := H5.1 q
      refine z_iinc (y := x5 + 1) (lv' := [(5, .int (x5 + 1)), (0, .ref a0), (1, .ref a1), (2, .int x2), (3, .int x3), (4, .int x4)]) 5 dX10_headsWithout_45 rfl rfl (by decide) rfl (z_goto (t := 6) dX10_headsWithout_48 (by decide) ?_)
      exact z_less [1, 2, 3, 4, 5, 0] rfl H6
    · have H7 := H5.2 q
      refine z_iload 5 dX10_headsWithout_22 rfl ?_
      obtain ⟨w8, c9, H10⟩ := H7
      refine z_stat (As := [.int x5]) (st := []) (r1 := (some (.int w8))) (h1 := (g, I, P)) dX10_headsWithout_24 kJ6_bitCount_0f7a4 wm_X10_102 ⟨by decide, by decide⟩ rfl rfl (Nat.le_of_ble_eq_true rfl) (by decide) (by decide) c9 ?_
      refine z_iload_n 3 dX10_headsWithout_27 rfl ?_
      refine z_icmp_ne (t := 45) dX10_headsWithout_28 (by decide) (fun q => ?_) (fun q => ?_)
      · have H11 := H10.1 q
        refine z_iinc (y := x5 + 1) (lv' := [(5, .int (x5 + 1)), (0, .ref a0), (1, .ref a1), (2, .int x2), (3, .int x3), (4, .int x4)]) 5 dX10_headsWithout_45 rfl rfl (by decide) rfl (z_goto (t := 6) dX10_headsWithout_48 (by decide) ?_)
        exact z_less [1, 2, 3, 4, 5, 0] rfl H11
      · have H12 := H10.2 q
        refine z_iload 4 dX10_headsWithout_31 rfl (z_aload_n 0 dX10_headsWithout_33 rfl rfl ?_)
        obtain ⟨oe15, b13, e15, H14⟩ := H12
        refine z_getP dX10_headsWithout_34 wf_X10_18 (by decide) (by decide) rfl oe15 (fun q => (by cases q.symm.trans e15)) (fun j q => ?_)
        cases q.symm.trans e15
        refine z_iload 5 dX10_headsWithout_37 rfl ?_
        obtain ⟨w16, c17, H18⟩ := H14
        refine z_stat (As := [.ref b13, .int x5]) (st := [.int x4]) (r1 := (some (.int w16))) (h1 := (g, I, P)) dX10_headsWithout_39 kX11_got wm_X10_59 ⟨by decide, by decide⟩ rfl rfl (Nat.le_of_ble_eq_true rfl) (by decide) (by decide) c17 ?_
        refine z_ior dX10_headsWithout_42 (z_istore (lv' := [(4, .int (x4 ||| w16)), (0, .ref a0), (1, .ref a1), (2, .int x2), (3, .int x3), (5, .int x5)]) dX10_headsWithout_43 (by decide) rfl (z_iinc (y := x5 + 1) (lv' := [(5, .int (x5 + 1)), (4, .int (x4 ||| w16)), (0, .ref a0), (1, .ref a1), (2, .int x2), (3, .int x3)]) 5 dX10_headsWithout_45 rfl rfl (by decide) rfl (z_goto (t := 6) dX10_headsWithout_48 (by decide) ?_)))
        exact z_less [2, 3, 4, 5, 1, 0] rfl H18
