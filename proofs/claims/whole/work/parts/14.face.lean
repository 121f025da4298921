theorem dX11_feed_0 : decode cX11_feed 0 = .ok (.aload_n 0, 1) := by decide +kernel
theorem dX11_feed_1 : decode cX11_feed 1 = .ok (.getfield 10, 3) := by decide +kernel
theorem dX11_feed_4 : decode cX11_feed 4 = .ok (.getfield 55, 3) := by decide +kernel
theorem dX11_feed_7 : decode cX11_feed 7 = .ok (.bipush 20, 2) := by decide +kernel
theorem dX11_feed_9 : decode cX11_feed 9 = .ok (.iadd, 1) := by decide +kernel
theorem dX11_feed_10 : decode cX11_feed 10 = .ok (.sipush 600, 3) := by decide +kernel
theorem dX11_feed_13 : decode cX11_feed 13 = .ok (.if_icmp .le 5, 3) := by decide +kernel
theorem dX11_feed_16 : decode cX11_feed 16 = .ok (.iconst (-1), 1) := by decide +kernel
theorem dX11_feed_17 : decode cX11_feed 17 = .ok (.ireturn, 1) := by decide +kernel
theorem dX11_feed_18 : decode cX11_feed 18 = .ok (.aload_n 0, 1) := by decide +kernel
theorem dX11_feed_19 : decode cX11_feed 19 = .ok (.getfield 10, 3) := by decide +kernel
theorem dX11_feed_22 : decode cX11_feed 22 = .ok (.iload_n 1, 1) := by decide +kernel
theorem dX11_feed_23 : decode cX11_feed 23 = .ok (.invokevirtual 59, 3) := by decide +kernel
theorem dX11_feed_26 : decode cX11_feed 26 = .ok (.aload_n 0, 1) := by decide +kernel
theorem dX11_feed_27 : decode cX11_feed 27 = .ok (.getfield 10, 3) := by decide +kernel
theorem dX11_feed_30 : decode cX11_feed 30 = .ok (.iload_n 2, 1) := by decide +kernel
theorem dX11_feed_31 : decode cX11_feed 31 = .ok (.invokevirtual 59, 3) := by decide +kernel
theorem dX11_feed_34 : decode cX11_feed 34 = .ok (.aload_n 0, 1) := by decide +kernel
theorem dX11_feed_35 : decode cX11_feed 35 = .ok (.getfield 10, 3) := by decide +kernel
theorem dX11_feed_38 : decode cX11_feed 38 = .ok (.iload_n 3, 1) := by decide +kernel
theorem dX11_feed_39 : decode cX11_feed 39 = .ok (.invokevirtual 59, 3) := by decide +kernel
theorem dX11_feed_42 : decode cX11_feed 42 = .ok (.aload_n 0, 1) := by decide +kernel
theorem dX11_feed_43 : decode cX11_feed 43 = .ok (.getfield 10, 3) := by decide +kernel
theorem dX11_feed_46 : decode cX11_feed 46 = .ok (.iload 4, 2) := by decide +kernel
theorem dX11_feed_48 : decode cX11_feed 48 = .ok (.invokevirtual 59, 3) := by decide +kernel
theorem dX11_feed_51 : decode cX11_feed 51 = .ok (.aload_n 0, 1) := by decide +kernel
theorem dX11_feed_52 : decode cX11_feed 52 = .ok (.getfield 10, 3) := by decide +kernel
theorem dX11_feed_55 : decode cX11_feed 55 = .ok (.iload 5, 2) := by decide +kernel
theorem dX11_feed_57 : decode cX11_feed 57 = .ok (.invokevirtual 59, 3) := by decide +kernel
theorem dX11_feed_60 : decode cX11_feed 60 = .ok (.aload_n 0, 1) := by decide +kernel
theorem dX11_feed_61 : decode cX11_feed 61 = .ok (.getfield 10, 3) := by decide +kernel
theorem dX11_feed_64 : decode cX11_feed 64 = .ok (.getfield 55, 3) := by decide +kernel
theorem dX11_feed_67 : decode cX11_feed 67 = .ok (.ireturn, 1) := by decide +kernel
set_option maxRecDepth 10000 in
theorem wX11_feed_0 {g : zG} {I : Nat → Nat → Int32} {P : Nat → Nat → Option Nat} {r : Option Value} {h' : zH} {a0 : Nat} {x1 : Int32} {x2 : Int32} {x3 : Int32} {x4 : Int32} {x5 : Int32} (H : zk g a0 11 ∧ ∃ b1, P a0 0 = some b1 ∧ zk g b1 9 ∧ (((I b1 1) + 20 ≤ 600) → zk g a0 11 ∧ ∃ b5, P a0 0 = some b5 ∧ zk g b5 9 ∧ ∃ (I8 : Nat → Nat → Int32), Cl mX9_addBytes [.ref b5, .int x1] (g, I, P) none (g, I8, P) ∧ zk g a0 11 ∧ ∃ b11, P a0 0 = some b11 ∧ zk g b11 9 ∧ ∃ (I14 : Nat → Nat → Int32), Cl mX9_addBytes [.ref b11, .int x2] (g, I8, P) none (g, I14, P) ∧ zk g a0 11 ∧ ∃ b17, P a0 0 = some b17 ∧ zk g b17 9 ∧ ∃ (I20 : Nat → Nat → Int32), Cl mX9_addBytes [.ref b17, .int x3] (g, I14, P) none (g, I20, P) ∧ zk g a0 11 ∧ ∃ b23, P a0 0 = some b23 ∧ zk g b23 9 ∧ ∃ (I26 : Nat → Nat → Int32), Cl mX9_addBytes [.ref b23, .int x4] (g, I20, P) none (g, I26, P) ∧ zk g a0 11 ∧ ∃ b29, P a0 0 = some b29 ∧ zk g b29 9 ∧ ∃ (I32 : Nat → Nat → Int32), Cl mX9_addBytes [.ref b29, .int x5] (g, I26, P) none (g, I32, P) ∧ zk g a0 11 ∧ ∃ b35, P a0 0 = some b35 ∧ zk g b35 9 ∧ r = some (.int (I32 b35 1)) ∧ h' = (g, I32, P)) ∧ ((¬ (I b1 1) + 20 ≤ 600) → r = some (.int (-1)) ∧ h' = (g, I, P))) : Zt none mX11_feed 0 0 0 [(0, .ref a0), (1, .int x1), (2, .int x2), (3, .int x3), (4, .int x4), (5, .int x5)] [] (g, I, P) r h' := by
  refine z_aload_n 0 dX11_feed_0 rfl rfl ?_
  obtain ⟨oe3, b1, e3, H2⟩ := H
  refine z_getP dX11_feed_1 wf_X11_10 (by decide) (by decide) rfl oe3 (fun q => (by cases q.symm.trans e3)) (fun j q => ?_)
  cases q.symm.trans e3
  refine z_getI dX11_feed_4 wf_X11_55 (by decide) (by decide) rfl H2.1 (z_bipush (w := 20) dX11_feed_7 (by decide) (z_iadd dX11_feed_9 (z_sipush (w := 600) dX11_feed_10 (by decide) ?_)))
  refine z_icmp_le (t := 18) dX11_feed_13 (by decide) (fun q => ?_) (fun q => ?_)
  · have H4 := H2.2.1 q
    refine z_aload_n 0 dX11_feed_18 rfl rfl ?_
    obtain ⟨oe7, b5, e7, H6⟩ := H4
    refine z_getP dX11_feed_19 wf_X11_10 (by decide) (by decide) rfl oe7 (fun q => (by cases q.symm.trans e7)) (fun j q => ?_)
    cases q.symm.trans e7
    refine z_iload_n 1 dX11_feed_22 rfl ?_
    obtain ⟨oc9, I8, c9, H10⟩ := H6
    refine z_virt (As := [.int x1]) (st := []) (r1 := none) (h1 := (g, I8, P)) dX11_feed_23 kX9_addBytes wm_X11_59 ⟨by decide, by decide⟩ rfl rfl (Nat.le_of_ble_eq_true rfl) (by decide) (by decide) oc9 c9 ?_
    refine z_aload_n 0 dX11_feed_26 rfl rfl ?_
    obtain ⟨oe13, b11, e13, H12⟩ := H10
    refine z_getP dX11_feed_27 wf_X11_10 (by decide) (by decide) rfl oe13 (fun q => (by cases q.symm.trans e13)) (fun j q => ?_)
    cases q.symm.trans e13
    refine z_iload_n 2 dX11_feed_30 rfl ?_
    obtain ⟨oc15, I14, c15, H16⟩ := H12
    refine z_virt (As := [.int x2]) (st := []) (r1 := none) (h1 := (g, I14, P)) dX11_feed_31 kX9_addBytes wm_X11_59 ⟨by decide, by decide⟩ rfl rfl (Nat.le_of_ble_eq_true rfl) (by decide) (by decide) oc15 c15 ?_
    refine z_aload_n 0 dX11_feed_34 rfl rfl ?_
    obtain ⟨oe19, b17, e19, H18⟩ := H16
    refine z_getP dX11_feed_35 wf_X11_10 (by decide) (by decide) rfl oe19 (fun q => (by cases q.symm.trans e19)) (fun j q => ?_)
    cases q.symm.trans e19
    refine z_iload_n 3 dX11_feed_38 rfl ?_
    obtain ⟨oc21, I20, c21, H22⟩ := H18
    refine z_virt (As := [.int x3]) (st := []) (r1 := none) (h1 := (g, I20, P)) dX11_feed_39 kX9_addBytes wm_X11_59 ⟨by decide, by decide⟩ rfl rfl (Nat.le_of_ble_eq_true rfl) (by decide) (by decide) oc21 c21 ?_
    refine z_aload_n 0 dX11_feed_42 rfl rfl ?_
    obtain ⟨oe25, b23, e25, H24⟩ := H22
    refine z_getP dX11_feed_43 wf_X11_10 (by decide) (by decide) rfl oe25 (fun q => (by cases q.symm.trans e25)) (fun j q => ?_)
    cases q.symm.trans e25
    refine z_iload 4 dX11_feed_46 rfl ?_
    obtain ⟨oc27, I26, c27, H28⟩ := H24
    refine z_virt (As := [.int x4]) (st := []) (r1 := none) (h1 := (g, I26, P)) dX11_feed_48 kX9_addBytes wm_X11_59 ⟨by decide, by decide⟩ rfl rfl (Nat.le_of_ble_eq_true rfl) (by decide) (by decide) oc27 c27 ?_
    refine z_aload_n 0 dX11_feed_51 rfl rfl ?_
    obtain ⟨oe31, b29, e31, H30⟩ := H28
    refine z_getP dX11_feed_52 wf_X11_10 (by decide) (by decide) rfl oe31 (fun q => (by cases q.symm.trans e31)) (fun j q => ?_)
    cases q.symm.trans e31
    refine z_iload 5 dX11_feed_55 rfl ?_
    obtain ⟨oc33, I32, c33, H34⟩ := H30
    refine z_virt (As := [.int x5]) (st := []) (r1 := none) (h1 := (g, I32, P)) dX11_feed_57 kX9_addBytes wm_X11_59 ⟨by decide, by decide⟩ rfl rfl (Nat.le_of_ble_eq_true rfl) (by decide) (by decide) oc33 c33 ?_
    refine z_aload_n 0 dX11_feed_60 rfl rfl ?_
    obtain ⟨oe37, b35, e37, H36⟩ := H34
    refine z_getP dX11_feed_61 wf_X11_10 (by decide) (by decide) rfl oe37 (fun q => (by cases q.symm.trans e37)) (fun j q => ?_)
    cases q.symm.trans e37
    refine z_getI dX11_feed_64 wf_X11_55 (by decide) (by decide) rfl H36.1 ?_
    obtain ⟨rfl, rfl⟩ := H36.2
    exact z_iret dX11_feed_67 rfl (by decide) (by decide)
  · have H38 := H2.2.2 q
    refine z_iconst (w := (-1)) dX11_feed_16 (by decide) ?_
    obtain ⟨rfl, rfl⟩ := H38
    exact z_iret dX11_feed_17 rfl (by decide) (by decide)
theorem eX11_feed {g : zG} {I : Nat → Nat → Int32} {P : Nat → Nat → Option Nat} {r : Option Value} {h' : zH} {a0 : Nat} {x1 : Int32} {x2 : Int32} {x3 : Int32} {x4 : Int32} {x5 : Int32} (H : Zt none mX11_feed 0 0 0 [(0, .ref a0), (1, .int x1), (2, .int x2), (3, .int x3), (4, .int x4), (5, .int x5)] [] (g, I, P) r h') : Cl mX11_feed [.ref a0, .int x1, .int x2, .int x3, .int x4, .int x5] (g, I, P) r h' := Cl.of (by decide) (Nat.le_of_ble_eq_true rfl) H
theorem dX11_end_0 : decode cX11_end 0 = .ok (.iload_n 1, 1) := by decide +kernel
theorem dX11_end_1 : decode cX11_end 1 = .ok (.ifCond .lt 14, 3) := by decide +kernel
theorem dX11_end_4 : decode cX11_end 4 = .ok (.iload_n 1, 1) := by decide +kernel
theorem dX11_end_5 : decode cX11_end 5 = .ok (.aload_n 0, 1) := by decide +kernel
theorem dX11_end_6 : decode cX11_end 6 = .ok (.getfield 10, 3) := by decide +kernel
theorem dX11_end_9 : decode cX11_end 9 = .ok (.getfield 55, 3) := by decide +kernel
theorem dX11_end_12 : decode cX11_end 12 = .ok (.if_icmp .le 5, 3) := by decide +kernel
theorem dX11_end_15 : decode cX11_end 15 = .ok (.iconst (-1), 1) := by decide +kernel
theorem dX11_end_16 : decode cX11_end 16 = .ok (.ireturn, 1) := by decide +kernel
theorem dX11_end_17 : decode cX11_end 17 = .ok (.aload_n 0, 1) := by decide +kernel
theorem dX11_end_18 : decode cX11_end 18 = .ok (.getfield 10, 3) := by decide +kernel
theorem dX11_end_21 : decode cX11_end 21 = .ok (.iload_n 1, 1) := by decide +kernel
theorem dX11_end_22 : decode cX11_end 22 = .ok (.putfield 55, 3) := by decide +kernel
theorem dX11_end_25 : decode cX11_end 25 = .ok (.iload_n 1, 1) := by decide +kernel
theorem dX11_end_26 : decode cX11_end 26 = .ok (.ireturn, 1) := by decide +kernel
set_option maxRecDepth 10000 in
theorem wX11_end_0 {g : zG} {I : Nat → Nat → Int32} {P : Nat → Nat → Option Nat} {r : Option Value} {h' : zH} {a0 : Nat} {x1 : Int32} (H : ((x1 < 0) → r = some (.int (-1)) ∧ h' = (g, I, P)) ∧ ((¬ x1 < 0) → zk g a0 11 ∧ ∃ b3, P a0 0 = some b3 ∧ zk g b3 9 ∧ ((x1 ≤ I b3 1) → zk g a0 11 ∧ ∃ b7, P a0 0 = some b7 ∧ zk g b7 9 ∧ r = some (.int x1) ∧ h' = (g, zU I b7 1 x1, P)) ∧ ((¬ x1 ≤ I b3 1) → r = some (.int (-1)) ∧ h' = (g, I, P)))) : Zt none mX11_end 0 0 0 [(0, .ref a0), (1, .int x1)] [] (g, I, P) r h' := by
  refine z_iload_n 1 dX11_end_0 rfl ?_
  refine z_if_lt (t := 15) dX11_end_1 (by decide) (fun q => ?_) (fun q => ?_)
  · have H1 := H.1 q
    refine z_iconst (w := (-1)) dX11_end_15 (by decide) ?_
    obtain ⟨rfl, rfl⟩ := H1
    exact z_iret dX11_end_16 rfl (by decide) (by decide)
  · have H2 := H.2 q
    refine z_iload_n 1 dX11_end_4 rfl (z_aload_n 0 dX11_end_5 rfl rfl ?_)
    obtain ⟨oe5, b3, e5, H4⟩ := H2
    refine z_getP dX11_end_6 wf_X11_10 (by decide) (by decide) rfl oe5 (fun q => (by cases q.symm.trans e5)) (fun j q => ?_)
    cases q.symm.trans e5
    refine z_getI dX11_end_9 wf_X11_55 (by decide) (by decide) rfl H4.1 ?_
    refine z_icmp_le (t := 17) dX11_end_12 (by decide) (fun q => ?_) (fun q => ?_)
    · have H6 := H4.2.1 q
      refine z_aload_n 0 dX11_end_17 rfl rfl ?_
      obtain ⟨oe9, b7, e9, H8⟩ := H6
      refine z_getP dX11_end_18 wf_X11_10 (by decide) (by decide) rfl oe9 (fun q => (by cases q.symm.trans e9)) (fun j q => ?_)
      cases q.symm.trans e9
      refine z_iload_n 1 dX11_end_21 rfl (z_putI (g := g) (I := I) (Q := P) dX11_end_22 wf_X11_55 (by decide) (by decide) rfl (Or.inl rfl) (zfit_int rfl) H8.1 (z_iload_n 1 dX11_end_25 rfl ?_))
      obtain ⟨rfl, rfl⟩ := H8.2
      exact z_iret dX11_end_26 rfl (by decide) (by decide)
    · have H10 := H4.2.2 q
      refine z_iconst (w := (-1)) dX11_end_15 (by decide) ?_
      obtain ⟨rfl, rfl⟩ := H10
      exact z_iret dX11_end_16 rfl (by decide) (by decide)
theorem eX11_end {g : zG} {I : Nat → Nat → Int32} {P : Nat → Nat → Option Nat} {r : Option Value} {h' : zH} {a0 : Nat} {x1 : Int32} (H : Zt none mX11_end 0 0 0 [(0, .ref a0), (1, .int x1)] [] (g, I, P) r h') : Cl mX11_end [.ref a0, .int x1] (g, I, P) r h' := Cl.of (by decide) (Nat.le_of_ble_eq_true rfl) H
theorem dX11_text_0 : decode cX11_text 0 = .ok (.aload_n 0, 1) := by decide +kernel
theorem dX11_text_1 : decode cX11_text 1 = .ok (.getfield 10, 3) := by decide +kernel
theorem dX11_text_4 : decode cX11_text 4 = .ok (.getfield 55, 3) := by decide +kernel
theorem dX11_text_7 : decode cX11_text 7 = .ok (.istore_n 3, 1) := by decide +kernel
theorem dX11_text_8 : decode cX11_text 8 = .ok (.aload_n 0, 1) := by decide +kernel
theorem dX11_text_9 : decode cX11_text 9 = .ok (.getfield 10, 3) := by decide +kernel
theorem dX11_text_12 : decode cX11_text 12 = .ok (.iconst 0, 1) := by decide +kernel
theorem dX11_text_13 : decode cX11_text 13 = .ok (.putfield 55, 3) := by decide +kernel
theorem dX11_text_16 : decode cX11_text 16 = .ok (.aload_n 0, 1) := by decide +kernel
theorem dX11_text_17 : decode cX11_text 17 = .ok (.getfield 10, 3) := by decide +kernel
theorem dX11_text_20 : decode cX11_text 20 = .ok (.iconst 0, 1) := by decide +kernel
theorem dX11_text_21 : decode cX11_text 21 = .ok (.putfield 63, 3) := by decide +kernel
theorem dX11_text_24 : decode cX11_text 24 = .ok (.aload_n 0, 1) := by decide +kernel
theorem dX11_text_25 : decode cX11_text 25 = .ok (.getfield 10, 3) := by decide +kernel
theorem dX11_text_28 : decode cX11_text 28 = .ok (.iconst (-1), 1) := by decide +kernel
theorem dX11_text_29 : decode cX11_text 29 = .ok (.putfield 66, 3) := by decide +kernel
theorem dX11_text_32 : decode cX11_text 32 = .ok (.aload_n 0, 1) := by decide +kernel
theorem dX11_text_33 : decode cX11_text 33 = .ok (.getfield 10, 3) := by decide +kernel
theorem dX11_text_36 : decode cX11_text 36 = .ok (.iload_n 1, 1) := by decide +kernel
theorem dX11_text_37 : decode cX11_text 37 = .ok (.invokevirtual 69, 3) := by decide +kernel
theorem dX11_text_40 : decode cX11_text 40 = .ok (.istore 4, 2) := by decide +kernel
theorem dX11_text_42 : decode cX11_text 42 = .ok (.iload_n 2, 1) := by decide +kernel
theorem dX11_text_43 : decode cX11_text 43 = .ok (.ifCond .lt 13, 3) := by decide +kernel
theorem dX11_text_46 : decode cX11_text 46 = .ok (.iload_n 2, 1) := by decide +kernel
theorem dX11_text_47 : decode cX11_text 47 = .ok (.iload 4, 2) := by decide +kernel
theorem dX11_text_49 : decode cX11_text 49 = .ok (.if_icmp .ge 7, 3) := by decide +kernel
theorem dX11_text_52 : decode cX11_text 52 = .ok (.iconst 1, 1) := by decide +kernel
theorem dX11_text_53 : decode cX11_text 53 = .ok (.goto 4, 3) := by decide +kernel
theorem dX11_text_56 : decode cX11_text 56 = .ok (.iconst 0, 1) := by decide +kernel
theorem dX11_text_57 : decode cX11_text 57 = .ok (.istore 5, 2) := by decide +kernel
theorem dX11_text_59 : decode cX11_text 59 = .ok (.iload_n 2, 1) := by decide +kernel
theorem dX11_text_60 : decode cX11_text 60 = .ok (.iconst (-1), 1) := by decide +kernel
theorem dX11_text_61 : decode cX11_text 61 = .ok (.if_icmp .ne 18, 3) := by decide +kernel
theorem dX11_text_64 : decode cX11_text 64 = .ok (.iload 4, 2) := by decide +kernel
theorem dX11_text_66 : decode cX11_text 66 = .ok (.ifCond .lt 13, 3) := by decide +kernel
theorem dX11_text_69 : decode cX11_text 69 = .ok (.iload 4, 2) := by decide +kernel
theorem dX11_text_71 : decode cX11_text 71 = .ok (.iconst 2, 1) := by decide +kernel
theorem dX11_text_72 : decode cX11_text 72 = .ok (.if_icmp .ge 7, 3) := by decide +kernel
theorem dX11_text_75 : decode cX11_text 75 = .ok (.iconst 1, 1) := by decide +kernel
theorem dX11_text_76 : decode cX11_text 76 = .ok (.goto 4, 3) := by decide +kernel
theorem dX11_text_79 : decode cX11_text 79 = .ok (.iconst 0, 1) := by decide +kernel
theorem dX11_text_80 : decode cX11_text 80 = .ok (.istore 6, 2) := by decide +kernel
theorem dX11_text_82 : decode cX11_text 82 = .ok (.iload 5, 2) := by decide +kernel
theorem dX11_text_84 : decode cX11_text 84 = .ok (.ifCond .ne 11, 3) := by decide +kernel
theorem dX11_text_87 : decode cX11_text 87 = .ok (.iload 6, 2) := by decide +kernel
theorem dX11_text_89 : decode cX11_text 89 = .ok (.ifCond .ne 6, 3) := by decide +kernel
theorem dX11_text_92 : decode cX11_text 92 = .ok (.bipush (-2), 2) := by decide +kernel
theorem dX11_text_94 : decode cX11_text 94 = .ok (.ireturn, 1) := by decide +kernel
theorem dX11_text_95 : decode cX11_text 95 = .ok (.aload_n 0, 1) := by decide +kernel
theorem dX11_text_96 : decode cX11_text 96 = .ok (.getfield 23, 3) := by decide +kernel
theorem dX11_text_99 : decode cX11_text 99 = .ok (.aload_n 0, 1) := by decide +kernel
theorem dX11_text_100 : decode cX11_text 100 = .ok (.getfield 10, 3) := by decide +kernel
theorem dX11_text_103 : decode cX11_text 103 = .ok (.getfield 73, 3) := by decide +kernel
theorem dX11_text_106 : decode cX11_text 106 = .ok (.iload_n 3, 1) := by decide +kernel
theorem dX11_text_107 : decode cX11_text 107 = .ok (.iload_n 1, 1) := by decide +kernel
theorem dX11_text_108 : decode cX11_text 108 = .ok (.invokevirtual 77, 3) := by decide +kernel
theorem dX11_text_111 : decode cX11_text 111 = .ok (.aload_n 0, 1) := by decide +kernel
theorem dX11_text_112 : decode cX11_text 112 = .ok (.getfield 10, 3) := by decide +kernel
theorem dX11_text_115 : decode cX11_text 115 = .ok (.aload_n 0, 1) := by decide +kernel
theorem dX11_text_116 : decode cX11_text 116 = .ok (.getfield 23, 3) := by decide +kernel
theorem dX11_text_119 : decode cX11_text 119 = .ok (.getfield 81, 3) := by decide +kernel
theorem dX11_text_122 : decode cX11_text 122 = .ok (.putfield 63, 3) := by decide +kernel
theorem dX11_text_125 : decode cX11_text 125 = .ok (.aload_n 0, 1) := by decide +kernel
theorem dX11_text_126 : decode cX11_text 126 = .ok (.getfield 10, 3) := by decide +kernel
theorem dX11_text_129 : decode cX11_text 129 = .ok (.aload_n 0, 1) := by decide +kernel
theorem dX11_text_130 : decode cX11_text 130 = .ok (.getfield 23, 3) := by decide +kernel
theorem dX11_text_133 : decode cX11_text 133 = .ok (.getfield 82, 3) := by decide +kernel
theorem dX11_text_136 : decode cX11_text 136 = .ok (.putfield 66, 3) := by decide +kernel
theorem dX11_text_139 : decode cX11_text 139 = .ok (.aload_n 0, 1) := by decide +kernel
theorem dX11_text_140 : decode cX11_text 140 = .ok (.getfield 23, 3) := by decide +kernel
theorem dX11_text_143 : decode cX11_text 143 = .ok (.getfield 81, 3) := by decide +kernel
theorem dX11_text_146 : decode cX11_text 146 = .ok (.ifCond .eq 5, 3) := by decide +kernel
theorem dX11_text_149 : decode cX11_text 149 = .ok (.iconst (-1), 1) := by decide +kernel
theorem dX11_text_150 : decode cX11_text 150 = .ok (.ireturn, 1) := by decide +kernel
theorem dX11_text_151 : decode cX11_text 151 = .ok (.iload 5, 2) := by decide +kernel
theorem dX11_text_153 : decode cX11_text 153 = .ok (.ifCond .eq 7, 3) := by decide +kernel
theorem dX11_text_156 : decode cX11_text 156 = .ok (.iload_n 2, 1) := by decide +kernel
theorem dX11_text_157 : decode cX11_text 157 = .ok (.goto 5, 3) := by decide +kernel
theorem dX11_text_160 : decode cX11_text 160 = .ok (.iload 4, 2) := by decide +kernel
theorem dX11_text_162 : decode cX11_text 162 = .ok (.istore 7, 2) := by decide +kernel
theorem dX11_text_164 : decode cX11_text 164 = .ok (.aload_n 0, 1) := by decide +kernel
theorem dX11_text_165 : decode cX11_text 165 = .ok (.getfield 10, 3) := by decide +kernel
theorem dX11_text_168 : decode cX11_text 168 = .ok (.aload_n 0, 1) := by decide +kernel
theorem dX11_text_169 : decode cX11_text 169 = .ok (.getfield 23, 3) := by decide +kernel
theorem dX11_text_172 : decode cX11_text 172 = .ok (.iload_n 1, 1) := by decide +kernel
theorem dX11_text_173 : decode cX11_text 173 = .ok (.iload 7, 2) := by decide +kernel
theorem dX11_text_175 : decode cX11_text 175 = .ok (.invokevirtual 83, 3) := by decide +kernel
theorem dX11_text_178 : decode cX11_text 178 = .ok (.iload 7, 2) := by decide +kernel
theorem dX11_text_180 : decode cX11_text 180 = .ok (.ireturn, 1) := by decide +kernel
set_option maxRecDepth 10000 in
theorem wX11_text_0 {g : zG} {I : Nat → Nat → Int32} {P : Nat → Nat → Option Nat} {r : Option Value} {h' : zH} {a0 : Nat} {x1 : Int32} {x2 : Int32} (H : zk g a0 11 ∧ ∃ b1, P a0 0 = some b1 ∧ zk g b1 9 ∧ zk g a0 11 ∧ ∃ b4, P a0 0 = some b4 ∧ zk g b4 9 ∧ zk g a0 11 ∧ ∃ b7, P a0 0 = some b7 ∧ zk g b7 9 ∧ zk g a0 11 ∧ ∃ b10, P a0 0 = some b10 ∧ zk g b10 9 ∧ zk g a0 11 ∧ ∃ b13, P a0 0 = some b13 ∧ zk g b13 9 ∧ ∃ (w16 : Int32), Cl mX9_many [.ref b13, .int x1] (g, zU (zU (zU I b4 1 0) b7 2 0) b10 3 (-1), P) (some (.int w16)) (g, zU (zU (zU I b4 1 0) b7 2 0) b10 3 (-1), P) ∧ ((x2 < 0) → Zt none mX11_text 0 0 57 [(0, .ref a0), (1, .int x1), (2, .int x2), (3, .int (I b1 1)), (4, .int w16)] [.int 0] (g, zU (zU (zU I b4 1 0) b7 2 0) b10 3 (-1), P) r h') ∧ ((¬ x2 < 0) → ((w16 ≤ x2) → Zt none mX11_text 0 0 57 [(0, .ref a0), (1, .int x1), (2, .int x2), (3, .int (I b1 1)), (4, .int w16)] [.int 0] (g, zU (zU (zU I b4 1 0) b7 2 0) b10 3 (-1), P) r h') ∧ ((¬ w16 ≤ x2) → Zt none mX11_text 0 0 57 [(0, .ref a0), (1, .int x1), (2, .int x2), (3, .int (I b1 1)), (4, .int w16)] [.int 1] (g, zU (zU (zU I b4 1 0) b7 2 0) b10 3 (-1), P) r h'))) : Zt none mX11_text 0 0 0 [(0, .ref a0), (1, .int x1), (2, .int x2)] [] (g, I, P) r h' := by
  refine z_aload_n 0 dX11_text_0 rfl rfl ?_
  obtain ⟨oe3, b1, e3, H2⟩ := H
  refine z_getP dX11_text_1 wf_X11_10 (by decide) (by decide) rfl oe3 (fun q => (by cases q.symm.trans e3)) (fun j q => ?_)
  cases q.symm.trans e3
  refine z_getI dX11_text_4 wf_X11_55 (by decide) (by decide) rfl H2.1 (z_istore_n (lv' := [(3, .int (I b1 1)), (0, .ref a0), (1, .int x1), (2, .int x2)]) dX11_text_7 (by decide) rfl (z_aload_n 1 dX11_text_8 rfl rfl ?_))
  obtain ⟨oe6, b4, e6, H5⟩ := H2.2
  refine z_getP dX11_text_9 wf_X11_10 (by decide) (by decide) rfl oe6 (fun q => (by cases q.symm.trans e6)) (fun j q => ?_)
  cases q.symm.trans e6
  refine z_iconst (w := 0) dX11_text_12 (by decide) (z_putI (g := g) (I := I) (Q := P) dX11_text_13 wf_X11_55 (by decide) (by decide) rfl (Or.inl rfl) (zfit_int rfl) H5.1 (z_aload_n 1 dX11_text_16 rfl rfl ?_))
  obtain ⟨oe9, b7, e9, H8⟩ := H5.2
  refine z_getP dX11_text_17 wf_X11_10 (by decide) (by decide) rfl oe9 (fun q => (by cases q.symm.trans e9)) (fun j q => ?_)
  cases q.symm.trans e9
  refine z_iconst (w := 0) dX11_text_20 (by decide) (z_putI (g := g) (I := zU I b4 1 0) (Q := P) dX11_text_21 wf_X11_63 (by decide) (by decide) rfl (Or.inl rfl) (zfit_int rfl) H8.1 (z_aload_n 1 dX11_text_24 rfl rfl ?_))
  obtain ⟨oe12, b10, e12, H11⟩ := H8.2
  refine z_getP dX11_text_25 wf_X11_10 (by decide) (by decide) rfl oe12 (fun q => (by cases q.symm.trans e12)) (fun j q => ?_)
  cases q.symm.trans e12
  refine z_iconst (w := (-1)) dX11_text_28 (by decide) (z_putI (g := g) (I := zU (zU I b4 1 0) b7 2 0) (Q := P) dX11_text_29 wf_X11_66 (by decide) (by decide) rfl (Or.inl rfl) (zfit_int rfl) H11.1 (z_aload_n 1 dX11_text_32 rfl rfl ?_))
  obtain ⟨oe15, b13, e15, H14⟩ := H11.2
  refine z_getP dX11_text_33 wf_X11_10 (by decide) (by decide) rfl oe15 (fun q => (by cases q.symm.trans e15)) (fun j q => ?_)
  cases q.symm.trans e15
  refine z_iload_n 2 dX11_text_36 rfl ?_
  obtain ⟨oc17, w16, c17, H18⟩ := H14
  refine z_virt (As := [.int x1]) (st := []) (r1 := (some (.int w16))) (h1 := (g, zU (zU (zU I b4 1 0) b7 2 0) b10 3 (-1), P)) dX11_text_37 kX9_many wm_X11_69 ⟨by decide, by decide⟩ rfl rfl (Nat.le_of_ble_eq_true rfl) (by decide) (by decide) oc17 c17 ?_
  refine z_istore (lv' := [(4, .int w16), (3, .int (I b1 1)), (0, .ref a0), (1, .int x1), (2, .int x2)]) dX11_text_40 (by decide) rfl (z_iload_n 4 dX11_text_42 rfl ?_)
  refine z_if_lt (t := 56) dX11_text_43 (by decide) (fun q => ?_) (fun q => ?_)
  · have H19 := H18.1 q
    refine z_iconst (w := 0) dX11_text_56 (by decide) ?_
    exact z_less [2, 3, 4, 1, 0] rfl H19
  · have H20 := H18.2 q
    refine z_iload_n 4 dX11_text_46 rfl (z_iload 0 dX11_text_47 rfl ?_)
    refine z_icmp_ge (t := 56) dX11_text_49 (by decide) (fun q => ?_) (fun q => ?_)
    · have H21 := H20.1 q
      refine z_iconst (w := 0) dX11_text_56 (by decide) ?_
      exact z_less [2, 3, 4, 1, 0] rfl H21
    · have H22 := H20.2 q
      refine z_iconst (w := 1) dX11_text_52 (by decide) (z_goto (t := 57) dX11_text_53 (by decide) ?_)
      exact z_less [2, 3, 4, 1, 0] rfl H22
theorem eX11_text {g : zG} {I : Nat → Nat → Int32} {P : Nat → Nat → Option Nat} {r : Option Value} {h' : zH} {a0 : Nat} {x1 : Int32} {x2 : Int32} (H : Zt none mX11_text 0 0 0 [(0, .ref a0), (1, .int x1), (2, .int x2)] [] (g, I, P) r h') : Cl mX11_text [.ref a0, .int x1, .int x2] (g, I, P) r h' := Cl.of (by decide) (Nat.le_of_ble_eq_true rfl) H
set_option maxRecDepth 10000 in
theorem wX11_text_57 {g : zG} {I : Nat → Nat → Int32} {P : Nat → Nat → Option Nat} {r : Option Value} {h' : zH} {a0 : Nat} {x1 : Int32} {x2 : Int32} {x3 : Int32} {x4 : Int32} {xs0 : Int32} (H : ((¬ x2 = (-1)) → ((¬ xs0 = 0) → Zt none mX11_text 0 0 95 [(0, .ref a0), (1, .int x1), (2, .int x2), (3, .int x3), (4, .int x4), (5, .int xs0)] [] (g, I, P) r h') ∧ ((xs0 = 0) → ((¬ (0 : Int32) = 0) → Zt none mX11_text 0 0 95 [(0, .ref a0), (1, .int x1), (2, .int x2), (3, .int x3), (4, .int x4), (5, .int xs0)] [] (g, I, P) r h') ∧ (((0 : Int32) = 0) → r = some (.int (-2)) ∧ h' = (g, I, P)))) ∧ ((x2 = (-1)) → ((x4 < 0) → ((¬ xs0 = 0) → Zt none mX11_text 0 0 95 [(0, .ref a0), (1, .int x1), (2, .int x2), (3, .int x3), (4, .int x4), (5, .int xs0)] [] (g, I, P) r h') ∧ ((xs0 = 0) → ((¬ (0 : Int32) = 0) → Zt none mX11_text 0 0 95 [(0, .ref a0), (1, .int x1), (2, .int x2), (3, .int x3), (4, .int x4), (5, .int xs0)] [] (g, I, P) r h') ∧ (((0 : Int32) = 0) → r = some (.int (-2)) ∧ h' = (g, I, P)))) ∧ ((¬ x4 < 0) → ((2 ≤ x4) → ((¬ xs0 = 0) → Zt none mX11_text 0 0 95 [(0, .ref a0), (1, .int x1), (2, .int x2), (3, .int x3), (4, .int x4), (5, .int xs0)] [] (g, I, P) r h') ∧ ((xs0 = 0) → ((¬ (0 : Int32) = 0) → Zt none mX11_text 0 0 95 [(0, .ref a0), (1, .int x1), (2, .int x2), (3, .int x3), (4, .int x4), (5, .int xs0)] [] (g, I, P) r h') ∧ (((0 : Int32) = 0) → r = some (.int (-2)) ∧ h' = (g, I, P)))) ∧ ((¬ 2 ≤ x4) → ((¬ xs0 = 0) → Zt none mX11_text 0 0 95 [(0, .ref a0), (1, .int x1), (2, .int x2), (3, .int x3), (4, .int x4), (5, .int xs0)] [] (g, I, P) r h') ∧ ((xs0 = 0) → ((¬ (1 : Int32) = 0) → Zt none mX11_text 0 0 95 [(0, .ref a0), (1, .int x1), (2, .int x2), (3, .int x3), (4, .int x4), (5, .int xs0)] [] (g, I, P) r h') ∧ (((1 : Int32) = 0) → r = some (.int (-2)) ∧ h' = (g, I, P))))))) : Zt none mX11_text 0 0 57 [(0, .ref a0), (1, .int x1), (2, .int x2), (3, .int x3), (4, .int x4)] [.int xs0] (g, I, P) r h' := by
  refine z_istore (lv' := [(5, .int xs0), (0, .ref a0), (1, .int x1), (2, .int x2), (3, .int x3), (4, .int x4)]) dX11_text_57 (by decide) rfl (z_iload_n 3 dX11_text_59 rfl (z_iconst (w := (-1)) dX11_text_60 (by decide) ?_))
  refine z_icmp_ne (t := 79) dX11_text_61 (by decide) (fun q => ?_) (fun q => ?_)
  · have H1 := H.1 q
    refine z_iconst (w := 0) dX11_text_79 (by decide) (z_istore (lv' := [(6, .int 0), (5, .int xs0), (0, .ref a0), (1, .int x1), (2, .int x2), (3, .int x3), (4, .int x4)]) dX11_text_80 (by decide) rfl (z_iload 1 dX11_text_82 rfl ?_))
    refine z_if_ne (t := 95) dX11_text_84 (by decide) (fun q => ?_) (fun q => ?_)
    · have H2 := H1.1 q
      exact z_less [2, 3, 4, 5, 6, 1] rfl H2
    · have H3 := H1.2 q
      refine z_iload 0 dX11_text_87 rfl ?_
      refine z_if_ne (t := 95) dX11_text_89 (by decide) (fun q => ?_) (fun q => ?_)
      · have H4 := H3.1 q
        exact z_less [2, 3, 4, 5, 6, 1] rfl H4
      · have H5 := H3.2 q
        refine z_bipush (w := (-2)) dX11_text_92 (by decide) ?_
        obtain ⟨rfl, rfl⟩ := H5
        exact z_iret dX11_text_94 rfl (by decide) (by decide)
  · have H6 := H.2 q
    refine z_iload 5 dX11_text_64 rfl ?_
    refine z_if_lt (t := 79) dX11_text_66 (by decide) (fun q => ?_) (fun q => ?_)
    · have H7 := H6.1 q
      refine z_iconst (w := 0) dX11_text_79 (by decide) (z_istore (lv' := [(6, .int 0), (5, .int xs0), (0, .ref a0), (1, .int x1), (2, .int x2), (3, .int x3), (4, .int x4)]) dX11_text_80 (by decide) rfl (z_iload 1 dX11_text_82 rfl ?_))
      refine z_if_ne (t := 95) dX11_text_84 (by decide) (fun q => ?_) (fun q => ?_)
      · have H8 := H7.1 q
        exact z_less [2, 3, 4, 5, 6, 1] rfl H8
      · have H9 := H7.2 q
        refine z_iload 0 dX11_text_87 rfl ?_
        refine z_if_ne (t := 95) dX11_text_89 (by decide) (fun q => ?_) (fun q => ?_)
        · have H10 := H9.1 q
          exact z_less [2, 3, 4, 5, 6, 1] rfl H10
        · have H11 := H9.2 q
          refine z_bipush (w := (-2)) dX11_text_92 (by decide) ?_
          obtain ⟨rfl, rfl⟩ := H11
          exact z_iret dX11_text_94 rfl (by decide) (by decide)
    · have H12 := H6.2 q
      refine z_iload 5 dX11_text_69 rfl (z_iconst (w := 2) dX11_text_71 (by decide) ?_)
      refine z_icmp_ge (t := 79) dX11_text_72 (by decide) (fun q => ?_) (fun q => ?_)
      · have H13 := H12.1 q
        refine z_iconst (w := 0) dX11_text_79 (by decide) (z_istore (lv' := [(6, .int 0), (5, .int xs0), (0, .ref a0), (1, .int x1), (2, .int x2), (3, .int x3), (4, .int x4)]) dX11_text_80 (by decide) rfl (z_iload 1 dX11_text_82 rfl ?_))
        refine z_if_ne (t := 95) dX11_text_84 (by decide) (fun q => ?_) (fun q => ?_)
        · have H14 := H13.1 q
          exact z_less [2, 3, 4, 5, 6, 1] rfl H14
        · have H15 := H13.2 q
          refine z_iload 0 dX11_text_87 rfl ?_
          refine z_if_ne (t := 95) dX11_text_89 (by decide) (fun q => ?_) (fun q => ?_)
          · have H16 := H15.1 q
            exact z_less [2, 3, 4, 5, 6, 1] rfl H16
          · have H17 := H15.2 q
            refine z_bipush (w := (-2)) dX11_text_92 (by decide) ?_
            obtain ⟨rfl, rfl⟩ := H17
            exact z_iret dX11_text_94 rfl (by decide) (by decide)
      · have H18 := H12.2 q
        refine z_iconst (w := 1) dX11_text_75 (by decide) (z_goto (t := 80) dX11_text_76 (by decide) (z_istore (lv' := [(6, .int 1), (5, .int xs0), (0, .ref a0), (1, .int x1), (2, .int x2), (3, .int x3), (4, .int x4)]) dX11_text_80 (by decide) rfl (z_iload 1 dX11_text_82 rfl ?_)))
        refine z_if_ne (t := 95) dX11_text_84 (by decide) (fun q => ?_) (fun q => ?_)
        · have H19 := H18.1 q
          exact z_less [2, 3, 4, 5, 6, 1] rfl H19
        · have H20 := H18.2 q
          refine z_iload 0 dX11_text_87 rfl ?_
          refine z_if_ne (t := 95) dX11_text_89 (by decide) (fun q => ?_) (fun q => ?_)
          · have H21 := H20.1 q
            exact z_less [2, 3, 4, 5, 6, 1] rfl H21
          · have H22 := H20.2 q
            refine z_bipush (w := (-2)) dX11_text_92 (by decide) ?_
            obtain ⟨rfl, rfl⟩ := H22
            exact z_iret dX11_text_94 rfl (by decide) (by decide)
set_option maxRecDepth 10000 in
theorem wX11_text_95 {g : zG} {I : Nat → Nat → Int32} {P : Nat → Nat → Option Nat} {r : Option Value} {h' : zH} {a0 : Nat} {x1 : Int32} {x2 : Int32} {x3 : Int32} {x4 : Int32} {x5 : Int32} (H : zk g a0 11 ∧ ∃ b1, P a0 2 = some b1 ∧ zk g a0 11 ∧ ∃ b4, P a0 0 = some b4 ∧ zk g b4 9 ∧ ∃ b7, P b4 0 = some b7 ∧ zk g b1 6 ∧ ∃ (I10 : Nat → Nat → Int32) (P11 : Nat → Nat → Option Nat), Cl mX6_read [.ref b1, .ref b7, .int x3, .int x1] (g, I, P) none (g, I10, P11) ∧ zk g a0 11 ∧ ∃ b14, P11 a0 0 = some b14 ∧ zk g a0 11 ∧ ∃ b17, P11 a0 2 = some b17 ∧ zk g b17 6 ∧ zk g b14 9 ∧ zk g a0 11 ∧ ∃ b20, P11 a0 0 = some b20 ∧ zk g a0 11 ∧ ∃ b23, P11 a0 2 = some b23 ∧ zk g b23 6 ∧ zk g b20 9 ∧ zk g a0 11 ∧ ∃ b26, P11 a0 2 = some b26 ∧ zk g b26 6 ∧ (((zU (zU I10 b14 2 (I10 b17 4)) b20 3 ((zU I10 b14 2 (I10 b17 4)) b23 5)) b26 4 = 0) → ((x5 = 0) → zk g a0 11 ∧ ∃ b31, P11 a0 0 = some b31 ∧ zk g a0 11 ∧ ∃ b34, P11 a0 2 = some b34 ∧ zk g b31 9 ∧ ∃ (I37 : Nat → Nat → Int32), Cl mX9_keep [.ref b31, .ref b34, .int x1, .int x4] (g, zU (zU I10 b14 2 (I10 b17 4)) b20 3 ((zU I10 b14 2 (I10 b17 4)) b23 5), P11) none (g, I37, P11) ∧ r = some (.int x4) ∧ h' = (g, I37, P11)) ∧ ((¬ x5 = 0) → zk g a0 11 ∧ ∃ b41, P11 a0 0 = some b41 ∧ zk g a0 11 ∧ ∃ b44, P11 a0 2 = some b44 ∧ zk g b41 9 ∧ ∃ (I47 : Nat → Nat → Int32), Cl mX9_keep [.ref b41, .ref b44, .int x1, .int x2] (g, zU (zU I10 b14 2 (I10 b17 4)) b20 3 ((zU I10 b14 2 (I10 b17 4)) b23 5), P11) none (g, I47, P11) ∧ r = some (.int x2) ∧ h' = (g, I47, P11))) ∧ ((¬ (zU (zU I10 b14 2 (I10 b17 4)) b20 3 ((zU I10 b14 2 (I10 b17 4)) b23 5)) b26 4 = 0) → r = some (.int (-1)) ∧ h' = (g, zU (zU I10 b14 2 (I10 b17 4)) b20 3 ((zU I10 b14 2 (I10 b17 4)) b23 5), P11))) : Zt none mX11_text 0 0 95 [(0, .ref a0), (1, .int x1), (2, .int x2), (3, .int x3), (4, .int x4), (5, .int x5)] [] (g, I, P) r h' := by
  refine z_aload_n 0 dX11_text_95 rfl rfl ?_
  obtain ⟨oe3, b1, e3, H2⟩ := H
  refine z_getP dX11_text_96 wf_X11_23 (by decide) (by decide) rfl oe3 (fun q => (by cases q.symm.trans e3)) (fun j q => ?_)
  cases q.symm.trans e3
  refine z_aload_n 0 dX11_text_99 rfl rfl ?_
  obtain ⟨oe6, b4, e6, H5⟩ := H2
  refine z_getP dX11_text_100 wf_X11_10 (by decide) (by decide) rfl oe6 (fun q => (by cases q.symm.trans e6)) (fun j q => ?_)
  cases q.symm.trans e6
  obtain ⟨oe9, b7, e9, H8⟩ := H5
  refine z_getP dX11_text_103 wf_X11_73 (by decide) (by decide) rfl oe9 (fun q => (by cases q.symm.trans e9)) (fun j q => ?_)
  cases q.symm.trans e9
  refine z_iload_n 3 dX11_text_106 rfl (z_iload_n 1 dX11_text_107 rfl ?_)
  obtain ⟨oc12, I10, P11, c12, H13⟩ := H8
  refine z_virt (As := [.ref b7, .int x3, .int x1]) (st := []) (r1 := none) (h1 := (g, I10, P11)) dX11_text_108 kX6_read wm_X11_77 ⟨by decide, by decide⟩ rfl rfl (Nat.le_of_ble_eq_true rfl) (by decide) (by decide) oc12 c12 ?_
  refine z_aload_n 0 dX11_text_111 rfl rfl ?_
  obtain ⟨oe16, b14, e16, H15⟩ := H13
  refine z_getP dX11_text_112 wf_X11_10 (by decide) (by decide) rfl oe16 (fun q => (by cases q.symm.trans e16)) (fun j q => ?_)
  cases q.symm.trans e16
  refine z_aload_n 0 dX11_text_115 rfl rfl ?_
  obtain ⟨oe19, b17, e19, H18⟩ := H15
  refine z_getP dX11_text_116 wf_X11_23 (by decide) (by decide) rfl oe19 (fun q => (by cases q.symm.trans e19)) (fun j q => ?_)
  cases q.symm.trans e19
  refine z_getI dX11_text_119 wf_X11_81 (by decide) (by decide) rfl H18.1 (z_putI (g := g) (I := I10) (Q := P11) dX11_text_122 wf_X11_63 (by decide) (by decide) rfl (Or.inl rfl) (zfit_int rfl) H18.2.1 (z_aload_n 0 dX11_text_125 rfl rfl ?_))
  obtain ⟨oe22, b20, e22, H21⟩ := H18.2.2
  refine z_getP dX11_text_126 wf_X11_10 (by decide) (by decide) rfl oe22 (fun q => (by cases q.symm.trans e22)) (fun j q => ?_)
  cases q.symm.trans e22
  refine z_aload_n 0 dX11_text_129 rfl rfl ?_
  obtain ⟨oe25, b23, e25, H24⟩ := H21
  refine z_getP dX11_text_130 wf_X11_23 (by decide) (by decide) rfl oe25 (fun q => (by cases q.symm.trans e25)) (fun j q => ?_)
  cases q.symm.trans e25
  refine z_getI dX11_text_133 wf_X11_82 (by decide) (by decide) rfl H24.1 (z_putI (g := g) (I := zU I10 b14 2 (I10 b17 4)) (Q := P11) dX11_text_136 wf_X11_66 (by decide) (by decide) rfl (Or.inl rfl) (zfit_int rfl) H24.2.1 (z_aload_n 0 dX11_text_139 rfl rfl ?_))
  obtain ⟨oe28, b26, e28, H27⟩ := H24.2.2
  refine z_getP dX11_text_140 wf_X11_23 (by decide) (by decide) rfl oe28 (fun q => (by cases q.symm.trans e28)) (fun j q => ?_)
  cases q.symm.trans e28
  refine z_getI dX11_text_143 wf_X11_81 (by decide) (by decide) rfl H27.1 ?_
  refine z_if_eq (t := 151) dX11_text_146 (by decide) (fun q => ?_) (fun q => ?_)
  · have H29 := H27.2.1 q
    refine z_iload 5 dX11_text_151 rfl ?_
    refine z_if_eq (t := 160) dX11_text_153 (by decide) (fun q => ?_) (fun q => ?_)
    · have H30 := H29.1 q
      refine z_iload 4 dX11_text_160 rfl (z_istore (lv' := [(7, .int x4), (0, .ref a0), (1, .int x1), (2, .int x2), (3, .int x3), (4, .int x4), (5, .int x5)]) dX11_text_162 (by decide) rfl (z_aload_n 1 dX11_text_164 rfl rfl ?_))
      obtain ⟨oe33, b31, e33, H32⟩ := H30
      refine z_getP dX11_text_165 wf_X11_10 (by decide) (by decide) rfl oe33 (fun q => (by cases q.symm.trans e33)) (fun j q => ?_)
      cases q.symm.trans e33
      refine z_aload_n 1 dX11_text_168 rfl rfl ?_
      obtain ⟨oe36, b34, e36, H35⟩ := H32
      refine z_getP dX11_text_169 wf_X11_23 (by decide) (by decide) rfl oe36 (fun q => (by cases q.symm.trans e36)) (fun j q => ?_)
      cases q.symm.trans e36
      refine z_iload_n 2 dX11_text_172 rfl (z_iload 0 dX11_text_173 rfl ?_)
      obtain ⟨oc38, I37, c38, H39⟩ := H35
      refine z_virt (As := [.ref b34, .int x1, .int x4]) (st := []) (r1 := none) (h1 := (g, I37, P11)) dX11_text_175 kX9_keep wm_X11_83 ⟨by decide, by decide⟩ rfl rfl (Nat.le_of_ble_eq_true rfl) (by decide) (by decide) oc38 c38 ?_
      refine z_iload 0 dX11_text_178 rfl ?_
      obtain ⟨rfl, rfl⟩ := H39
      exact z_iret dX11_text_180 rfl (by decide) (by decide)
    · have H40 := H29.2 q
      refine z_iload_n 2 dX11_text_156 rfl (z_goto (t := 162) dX11_text_157 (by decide) (z_istore (lv' := [(7, .int x2), (0, .ref a0), (1, .int x1), (2, .int x2), (3, .int x3), (4, .int x4), (5, .int x5)]) dX11_text_162 (by decide) rfl (z_aload_n 1 dX11_text_164 rfl rfl ?_)))
      obtain ⟨oe43, b41, e43, H42⟩ := H40
      refine z_getP dX11_text_165 wf_X11_10 (by decide) (by decide) rfl oe43 (fun q => (by cases q.symm.trans e43)) (fun j q => ?_)
      cases q.symm.trans e43
      refine z_aload_n 1 dX11_text_168 rfl rfl ?_
      obtain ⟨oe46, b44, e46, H45⟩ := H42
      refine z_getP dX11_text_169 wf_X11_23 (by decide) (by decide) rfl oe46 (fun q => (by cases q.symm.trans e46)) (fun j q => ?_)
      cases q.symm.trans e46
      refine z_iload_n 2 dX11_text_172 rfl (z_iload 0 dX11_text_173 rfl ?_)
      obtain ⟨oc48, I47, c48, H49⟩ := H45
      refine z_virt (As := [.ref b44, .int x1, .int x2]) (st := []) (r1 := none) (h1 := (g, I47, P11)) dX11_text_175 kX9_keep wm_X11_83 ⟨by decide, by decide⟩ rfl rfl (Nat.le_of_ble_eq_true rfl) (by decide) (by decide) oc48 c48 ?_
      refine z_iload 0 dX11_text_178 rfl ?_
      obtain ⟨rfl, rfl⟩ := H49
      exact z_iret dX11_text_180 rfl (by decide) (by decide)
  · have H50 := H27.2.2 q
    refine z_iconst (w := (-1)) dX11_text_149 (by decide) ?_
    obtain ⟨rfl, rfl⟩ := H50
    exact z_iret dX11_text_150 rfl (by decide) (by decide)
theorem dX11_fault_0 : decode cX11_fault 0 = .ok (.iload_n 1, 1) := by decide +kernel
theorem dX11_fault_1 : decode cX11_fault 1 = .ok (.lookupswitch 43 #[(0, 27), (1, 35)], 27) := by decide +kernel
theorem dX11_fault_28 : decode cX11_fault 28 = .ok (.aload_n 0, 1) := by decide +kernel
theorem dX11_fault_29 : decode cX11_fault 29 = .ok (.getfield 10, 3) := by decide +kernel
theorem dX11_fault_32 : decode cX11_fault 32 = .ok (.getfield 63, 3) := by decide +kernel
theorem dX11_fault_35 : decode cX11_fault 35 = .ok (.ireturn, 1) := by decide +kernel
theorem dX11_fault_36 : decode cX11_fault 36 = .ok (.aload_n 0, 1) := by decide +kernel
theorem dX11_fault_37 : decode cX11_fault 37 = .ok (.getfield 10, 3) := by decide +kernel
theorem dX11_fault_40 : decode cX11_fault 40 = .ok (.getfield 66, 3) := by decide +kernel
theorem dX11_fault_43 : decode cX11_fault 43 = .ok (.ireturn, 1) := by decide +kernel
theorem dX11_fault_44 : decode cX11_fault 44 = .ok (.iconst (-1), 1) := by decide +kernel
theorem dX11_fault_45 : decode cX11_fault 45 = .ok (.ireturn, 1) := by decide +kernel
set_option maxRecDepth 10000 in
theorem wX11_fault_0 {g : zG} {I : Nat → Nat → Int32} {P : Nat → Nat → Option Nat} {r : Option Value} {h' : zH} {a0 : Nat} {x1 : Int32} (H : ((x1 = 0) → zk g a0 11 ∧ ∃ b3, P a0 0 = some b3 ∧ zk g b3 9 ∧ r = some (.int (I b3 2)) ∧ h' = (g, I, P)) ∧ ((x1 = 1) → zk g a0 11 ∧ ∃ b8, P a0 0 = some b8 ∧ zk g b8 9 ∧ r = some (.int (I b8 3)) ∧ h' = (g, I, P)) ∧ (¬ x1 = 0 → ¬ x1 = 1 → r = some (.int (-1)) ∧ h' = (g, I, P))) : Zt none mX11_fault 0 0 0 [(0, .ref a0), (1, .int x1)] [] (g, I, P) r h' := by
  refine z_iload_n 1 dX11_fault_0 rfl ?_
  by_cases q1 : x1 = 0
  · have H2 := H.1 q1
    have eq1 : (x1 : Int32).toInt = 0 := by rw [q1]; decide
    refine z_lookup (off := 27) (t := 28) dX11_fault_1 (by decide) (by rw [eq1]; decide) (by decide) ?_
    refine z_aload_n 0 dX11_fault_28 rfl rfl ?_
    obtain ⟨oe5, b3, e5, H4⟩ := H2
    refine z_getP dX11_fault_29 wf_X11_10 (by decide) (by decide) rfl oe5 (fun q => (by cases q.symm.trans e5)) (fun j q => ?_)
    cases q.symm.trans e5
    refine z_getI dX11_fault_32 wf_X11_63 (by decide) (by decide) rfl H4.1 ?_
    obtain ⟨rfl, rfl⟩ := H4.2
    exact z_iret dX11_fault_35 rfl (by decide) (by decide)
  by_cases q6 : x1 = 1
  · have H7 := H.2.1 q6
    have eq6 : (x1 : Int32).toInt = 1 := by rw [q6]; decide
    refine z_lookup (off := 35) (t := 36) dX11_fault_1 (by decide) (by rw [eq6]; decide) (by decide) ?_
    refine z_aload_n 0 dX11_fault_36 rfl rfl ?_
    obtain ⟨oe10, b8, e10, H9⟩ := H7
    refine z_getP dX11_fault_37 wf_X11_10 (by decide) (by decide) rfl oe10 (fun q => (by cases q.symm.trans e10)) (fun j q => ?_)
    cases q.symm.trans e10
    refine z_getI dX11_fault_40 wf_X11_66 (by decide) (by decide) rfl H9.1 ?_
    obtain ⟨rfl, rfl⟩ := H9.2
    exact z_iret dX11_fault_43 rfl (by decide) (by decide)
  have H11 := H.2.2 q1 q6
  refine z_lookup (off := 43) (t := 44) dX11_fault_1 (by decide) ((lv_osw q1 (by decide)).trans ((lv_osw q6 (by decide)).trans (rfl))) (by decide) ?_
  refine z_iconst (w := (-1)) dX11_fault_44 (by decide) ?_
  obtain ⟨rfl, rfl⟩ := H11
  exact z_iret dX11_fault_45 rfl (by decide) (by decide)
theorem eX11_fault {g : zG} {I : Nat → Nat → Int32} {P : Nat → Nat → Option Nat} {r : Option Value} {h' : zH} {a0 : Nat} {x1 : Int32} (H : Zt none mX11_fault 0 0 0 [(0, .ref a0), (1, .int x1)] [] (g, I, P) r h') : Cl mX11_fault [.ref a0, .int x1] (g, I, P) r h' := Cl.of (by decide) (Nat.le_of_ble_eq_true rfl) H
theorem dX11_hill_0 : decode cX11_hill 0 = .ok (.aload_n 0, 1) := by decide +kernel
theorem dX11_hill_1 : decode cX11_hill 1 = .ok (.getfield 10, 3) := by decide +kernel
theorem dX11_hill_4 : decode cX11_hill 4 = .ok (.iload_n 1, 1) := by decide +kernel
theorem dX11_hill_5 : decode cX11_hill 5 = .ok (.invokevirtual 87, 3) := by decide +kernel
theorem dX11_hill_8 : decode cX11_hill 8 = .ok (.astore_n 3, 1) := by decide +kernel
theorem dX11_hill_9 : decode cX11_hill 9 = .ok (.aload_n 3, 1) := by decide +kernel
theorem dX11_hill_10 : decode cX11_hill 10 = .ok (.ifnonnull 7, 3) := by decide +kernel
theorem dX11_hill_13 : decode cX11_hill 13 = .ok (.iconst (-1), 1) := by decide +kernel
theorem dX11_hill_14 : decode cX11_hill 14 = .ok (.goto 8, 3) := by decide +kernel
theorem dX11_hill_17 : decode cX11_hill 17 = .ok (.aload_n 3, 1) := by decide +kernel
theorem dX11_hill_18 : decode cX11_hill 18 = .ok (.iload_n 2, 1) := by decide +kernel
theorem dX11_hill_19 : decode cX11_hill 19 = .ok (.invokevirtual 91, 3) := by decide +kernel
theorem dX11_hill_22 : decode cX11_hill 22 = .ok (.ireturn, 1) := by decide +kernel
set_option maxRecDepth 10000 in
theorem wX11_hill_0 {g : zG} {I : Nat → Nat → Int32} {P : Nat → Nat → Option Nat} {r : Option Value} {h' : zH} {a0 : Nat} {x1 : Int32} {x2 : Int32} (H : zk g a0 11 ∧ ∃ b1, P a0 0 = some b1 ∧ zk g b1 9 ∧ ∃ (w4 : Option Nat), Cl mX9_hillOf [.ref b1, .int x1] (g, I, P) (some (zov w4)) (g, I, P) ∧ ((w4 = none) → r = some (.int (-1)) ∧ h' = (g, I, P)) ∧ (∀ b7, w4 = some b7 → zk g b7 3 ∧ ∃ (w10 : Int32), Cl mX3_look [.ref b7, .int x2] (g, I, P) (some (.int w10)) (g, I, P) ∧ r = some (.int w10) ∧ h' = (g, I, P))) : Zt none mX11_hill 0 0 0 [(0, .ref a0), (1, .int x1), (2, .int x2)] [] (g, I, P) r h' := by
  refine z_aload_n 0 dX11_hill_0 rfl rfl ?_
  obtain ⟨oe3, b1, e3, H2⟩ := H
  refine z_getP dX11_hill_1 wf_X11_10 (by decide) (by decide) rfl oe3 (fun q => (by cases q.symm.trans e3)) (fun j q => ?_)
  cases q.symm.trans e3
  refine z_iload_n 1 dX11_hill_4 rfl ?_
  obtain ⟨oc5, w4, c5, H6⟩ := H2
  refine z_virt (As := [.int x1]) (st := []) (r1 := (some (zov w4))) (h1 := (g, I, P)) dX11_hill_5 kX9_hillOf wm_X11_87 ⟨by decide, by decide⟩ rfl rfl (Nat.le_of_ble_eq_true rfl) (by decide) (by decide) oc5 c5 ?_
  cases w4 with
  | none =>
    have H8 := H6.1 rfl
    refine z_astore_n (lv' := [(3, .null), (0, .ref a0), (1, .int x1), (2, .int x2)]) dX11_hill_8 (by decide) rfl rfl (z_aload_n 0 dX11_hill_9 rfl rfl (z_ifnonnullN dX11_hill_10 (z_iconst (w := (-1)) dX11_hill_13 (by decide) (z_goto (t := 22) dX11_hill_14 (by decide) ?_))))
    obtain ⟨rfl, rfl⟩ := H8
    exact z_iret dX11_hill_22 rfl (by decide) (by decide)
  | some b7 =>
    have H9 := H6.2 b7 rfl
    refine z_astore_n (lv' := [(3, .ref b7), (0, .ref a0), (1, .int x1), (2, .int x2)]) dX11_hill_8 (by decide) rfl rfl (z_aload_n 0 dX11_hill_9 rfl rfl (z_ifnonnullR (t := 17) dX11_hill_10 (by decide) (z_aload_n 0 dX11_hill_17 rfl rfl (z_iload_n 3 dX11_hill_18 rfl ?_))))
    obtain ⟨oc11, w10, c11, H12⟩ := H9
    refine z_virt (As := [.int x2]) (st := []) (r1 := (some (.int w10))) (h1 := (g, I, P)) dX11_hill_19 kX3_look wm_X11_91 ⟨by decide, by decide⟩ rfl rfl (Nat.le_of_ble_eq_true rfl) (by decide) (by decide) oc11 c11 ?_
    obtain ⟨rfl, rfl⟩ := H12
    exact z_iret dX11_hill_22 rfl (by decide) (by decide)
theorem eX11_hill {g : zG} {I : Nat → Nat → Int32} {P : Nat → Nat → Option Nat} {r : Option Value} {h' : zH} {a0 : Nat} {x1 : Int32} {x2 : Int32} (H : Zt none mX11_hill 0 0 0 [(0, .ref a0), (1, .int x1), (2, .int x2)] [] (g, I, P) r h') : Cl mX11_hill [.ref a0, .int x1, .int x2] (g, I, P) r h' := Cl.of (by decide) (Nat.le_of_ble_eq_true rfl) H
theorem dX11_deed_0 : decode cX11_deed 0 = .ok (.aload_n 0, 1) := by decide +kernel
theorem dX11_deed_1 : decode cX11_deed 1 = .ok (.getfield 10, 3) := by decide +kernel
theorem dX11_deed_4 : decode cX11_deed 4 = .ok (.iload_n 1, 1) := by decide +kernel
theorem dX11_deed_5 : decode cX11_deed 5 = .ok (.invokevirtual 96, 3) := by decide +kernel
theorem dX11_deed_8 : decode cX11_deed 8 = .ok (.astore 4, 2) := by decide +kernel
theorem dX11_deed_10 : decode cX11_deed 10 = .ok (.aload 4, 2) := by decide +kernel
theorem dX11_deed_12 : decode cX11_deed 12 = .ok (.ifnonnull 8, 3) := by decide +kernel
theorem dX11_deed_15 : decode cX11_deed 15 = .ok (.bipush (-2), 2) := by decide +kernel
theorem dX11_deed_17 : decode cX11_deed 17 = .ok (.goto 10, 3) := by decide +kernel
theorem dX11_deed_20 : decode cX11_deed 20 = .ok (.aload 4, 2) := by decide +kernel
theorem dX11_deed_22 : decode cX11_deed 22 = .ok (.iload_n 2, 1) := by decide +kernel
theorem dX11_deed_23 : decode cX11_deed 23 = .ok (.iload_n 3, 1) := by decide +kernel
theorem dX11_deed_24 : decode cX11_deed 24 = .ok (.invokevirtual 100, 3) := by decide +kernel
theorem dX11_deed_27 : decode cX11_deed 27 = .ok (.ireturn, 1) := by decide +kernel
set_option maxRecDepth 10000 in
theorem wX11_deed_0 {g : zG} {I : Nat → Nat → Int32} {P : Nat → Nat → Option Nat} {r : Option Value} {h' : zH} {a0 : Nat} {x1 : Int32} {x2 : Int32} {x3 : Int32} (H : zk g a0 11 ∧ ∃ b1, P a0 0 = some b1 ∧ zk g b1 9 ∧ ∃ (w4 : Option Nat), Cl mX9_centuryOf [.ref b1, .int x1] (g, I, P) (some (zov w4)) (g, I, P) ∧ ((w4 = none) → r = some (.int (-2)) ∧ h' = (g, I, P)) ∧ (∀ b7, w4 = some b7 → zk g b7 0 ∧ ∃ (w10 : Int32), Cl mX0_look [.ref b7, .int x2, .int x3] (g, I, P) (some (.int w10)) (g, I, P) ∧ r = some (.int w10) ∧ h' = (g, I, P))) : Zt none mX11_deed 0 0 0 [(0, .ref a0), (1, .int x1), (2, .int x2), (3, .int x3)] [] (g, I, P) r h' := by
  refine z_aload_n 0 dX11_deed_0 rfl rfl ?_
  obtain ⟨oe3, b1, e3, H2⟩ := H
  refine z_getP dX11_deed_1 wf_X11_10 (by decide) (by decide) rfl oe3 (fun q => (by cases q.symm.trans e3)) (fun j q => ?_)
  cases q.symm.trans e3
  refine z_iload_n 1 dX11_deed_4 rfl ?_
  obtain ⟨oc5, w4, c5, H6⟩ := H2
  refine z_virt (As := [.int x1]) (st := []) (r1 := (some (zov w4))) (h1 := (g, I, P)) dX11_deed_5 kX9_centuryOf wm_X11_96 ⟨by decide, by decide⟩ rfl rfl (Nat.le_of_ble_eq_true rfl) (by decide) (by decide) oc5 c5 ?_
  cases w4 with
  | none =>
    have H8 := H6.1 rfl
    refine z_astore (lv' := [(4, .null), (0, .ref a0), (1, .int x1), (2, .int x2), (3, .int x3)]) dX11_deed_8 (by decide) rfl rfl (z_aload 0 dX11_deed_10 rfl rfl (z_ifnonnullN dX11_deed_12 (z_bipush (w := (-2)) dX11_deed_15 (by decide) (z_goto (t := 27) dX11_deed_17 (by decide) ?_))))
    obtain ⟨rfl, rfl⟩ := H8
    exact z_iret dX11_deed_27 rfl (by decide) (by decide)
  | some b7 =>
    have H9 := H6.2 b7 rfl
    refine z_astore (lv' := [(4, .ref b7), (0, .ref a0), (1, .int x1), (2, .int x2), (3, .int x3)]) dX11_deed_8 (by decide) rfl rfl (z_aload 0 dX11_deed_10 rfl rfl (z_ifnonnullR (t := 20) dX11_deed_12 (by decide) (z_aload 0 dX11_deed_20 rfl rfl (z_iload_n 3 dX11_deed_22 rfl (z_iload_n 4 dX11_deed_23 rfl ?_)))))
    obtain ⟨oc11, w10, c11, H12⟩ := H9
    refine z_virt (As := [.int x2, .int x3]) (st := []) (r1 := (some (.int w10))) (h1 := (g, I, P)) dX11_deed_24 kX0_look wm_X11_100 ⟨by decide, by decide⟩ rfl rfl (Nat.le_of_ble_eq_true rfl) (by decide) (by decide) oc11 c11 ?_
    obtain ⟨rfl, rfl⟩ := H12
    exact z_iret dX11_deed_27 rfl (by decide) (by decide)
theorem eX11_deed {g : zG} {I : Nat → Nat → Int32} {P : Nat → Nat → Option Nat} {r : Option Value} {h' : zH} {a0 : Nat} {x1 : Int32} {x2 : Int32} {x3 : Int32} (H : Zt none mX11_deed 0 0 0 [(0, .ref a0), (1, .int x1), (2, .int x2), (3, .int x3)] [] (g, I, P) r h') : Cl mX11_deed [.ref a0, .int x1, .int x2, .int x3] (g, I, P) r h' := Cl.of (by decide) (Nat.le_of_ble_eq_true rfl) H
theorem dX11_stop_0 : decode cX11_stop 0 = .ok (.aload_n 0, 1) := by decide +kernel
theorem dX11_stop_1 : decode cX11_stop 1 = .ok (.getfield 10, 3) := by decide +kernel
theorem dX11_stop_4 : decode cX11_stop 4 = .ok (.iload_n 1, 1) := by decide +kernel
theorem dX11_stop_5 : decode cX11_stop 5 = .ok (.invokevirtual 87, 3) := by decide +kernel
theorem dX11_stop_8 : decode cX11_stop 8 = .ok (.astore_n 3, 1) := by decide +kernel
theorem dX11_stop_9 : decode cX11_stop 9 = .ok (.aload_n 0, 1) := by decide +kernel
theorem dX11_stop_10 : decode cX11_stop 10 = .ok (.getfield 10, 3) := by decide +kernel
theorem dX11_stop_13 : decode cX11_stop 13 = .ok (.iload_n 2, 1) := by decide +kernel
theorem dX11_stop_14 : decode cX11_stop 14 = .ok (.invokevirtual 96, 3) := by decide +kernel
theorem dX11_stop_17 : decode cX11_stop 17 = .ok (.astore 4, 2) := by decide +kernel
theorem dX11_stop_19 : decode cX11_stop 19 = .ok (.aload_n 3, 1) := by decide +kernel
theorem dX11_stop_20 : decode cX11_stop 20 = .ok (.ifnull 8, 3) := by decide +kernel
theorem dX11_stop_23 : decode cX11_stop 23 = .ok (.aload 4, 2) := by decide +kernel
theorem dX11_stop_25 : decode cX11_stop 25 = .ok (.ifnonnull 7, 3) := by decide +kernel
theorem dX11_stop_28 : decode cX11_stop 28 = .ok (.iconst (-1), 1) := by decide +kernel
theorem dX11_stop_29 : decode cX11_stop 29 = .ok (.goto 18, 3) := by decide +kernel
theorem dX11_stop_32 : decode cX11_stop 32 = .ok (.aload_n 0, 1) := by decide +kernel
theorem dX11_stop_33 : decode cX11_stop 33 = .ok (.getfield 30, 3) := by decide +kernel
theorem dX11_stop_36 : decode cX11_stop 36 = .ok (.aload_n 3, 1) := by decide +kernel
theorem dX11_stop_37 : decode cX11_stop 37 = .ok (.aload 4, 2) := by decide +kernel
theorem dX11_stop_39 : decode cX11_stop 39 = .ok (.aload 4, 2) := by decide +kernel
theorem dX11_stop_41 : decode cX11_stop 41 = .ok (.getfield 105, 3) := by decide +kernel
theorem dX11_stop_44 : decode cX11_stop 44 = .ok (.invokevirtual 108, 3) := by decide +kernel
theorem dX11_stop_47 : decode cX11_stop 47 = .ok (.ireturn, 1) := by decide +kernel
set_option maxRecDepth 10000 in
theorem wX11_stop_0 {g : zG} {I : Nat → Nat → Int32} {P : Nat → Nat → Option Nat} {r : Option Value} {h' : zH} {a0 : Nat} {x1 : Int32} {x2 : Int32} (H : zk g a0 11 ∧ ∃ b1, P a0 0 = some b1 ∧ zk g b1 9 ∧ ∃ (w4 : Option Nat), Cl mX9_hillOf [.ref b1, .int x1] (g, I, P) (some (zov w4)) (g, I, P) ∧ ((w4 = none) → zk g a0 11 ∧ ∃ b10, P a0 0 = some b10 ∧ zk g b10 9 ∧ ∃ (w13 : Option Nat), Cl mX9_centuryOf [.ref b10, .int x2] (g, I, P) (some (zov w13)) (g, I, P) ∧ ((w13 = none) → r = some (.int (-1)) ∧ h' = (g, I, P)) ∧ (∀ b16, w13 = some b16 → r = some (.int (-1)) ∧ h' = (g, I, P))) ∧ (∀ b7, w4 = some b7 → zk g a0 11 ∧ ∃ b19, P a0 0 = some b19 ∧ zk g b19 9 ∧ ∃ (w22 : Option Nat), Cl mX9_centuryOf [.ref b19, .int x2] (g, I, P) (some (zov w22)) (g, I, P) ∧ ((w22 = none) → r = some (.int (-1)) ∧ h' = (g, I, P)) ∧ (∀ b25, w22 = some b25 → zk g a0 11 ∧ ∃ b28, P a0 3 = some b28 ∧ zk g b25 0 ∧ zk g b28 2 ∧ ∃ (w31 : Int32) (I32 : Nat → Nat → Int32) (P33 : Nat → Nat → Option Nat), Cl mX2_play [.ref b28, .ref b7, .ref b25, .int (I b25 0)] (g, I, P) (some (.int w31)) (g, I32, P33) ∧ r = some (.int w31) ∧ h' = (g, I32, P33)))) : Zt none mX11_stop 0 0 0 [(0, .ref a0), (1, .int x1), (2, .int x2)] [] (g, I, P) r h' := by
  refine z_aload_n 0 dX11_stop_0 rfl rfl ?_
  obtain ⟨oe3, b1, e3, H2⟩ := H
  refine z_getP dX11_stop_1 wf_X11_10 (by decide) (by decide) rfl oe3 (fun q => (by cases q.symm.trans e3)) (fun j q => ?_)
  cases q.symm.trans e3
  refine z_iload_n 1 dX11_stop_4 rfl ?_
  obtain ⟨oc5, w4, c5, H6⟩ := H2
  refine z_virt (As := [.int x1]) (st := []) (r1 := (some (zov w4))) (h1 := (g, I, P)) dX11_stop_5 kX9_hillOf wm_X11_87 ⟨by decide, by decide⟩ rfl rfl (Nat.le_of_ble_eq_true rfl) (by decide) (by decide) oc5 c5 ?_
  cases w4 with
  | none =>
    have H8 := H6.1 rfl
    refine z_astore_n (lv' := [(3, .null), (0, .ref a0), (1, .int x1), (2, .int x2)]) dX11_stop_8 (by decide) rfl rfl (z_aload_n 1 dX11_stop_9 rfl rfl ?_)
    obtain ⟨oe12, b10, e12, H11⟩ := H8
    refine z_getP dX11_stop_10 wf_X11_10 (by decide) (by decide) rfl oe12 (fun q => (by cases q.symm.trans e12)) (fun j q => ?_)
    cases q.symm.trans e12
    refine z_iload_n 3 dX11_stop_13 rfl ?_
    obtain ⟨oc14, w13, c14, H15⟩ := H11
    refine z_virt (As := [.int x2]) (st := []) (r1 := (some (zov w13))) (h1 := (g, I, P)) dX11_stop_14 kX9_centuryOf wm_X11_96 ⟨by decide, by decide⟩ rfl rfl (Nat.le_of_ble_eq_true rfl) (by decide) (by decide) oc14 c14 ?_
    cases w13 with
    | none =>
      have H17 := H15.1 rfl
      refine z_astore (lv' := [(4, .null), (3, .null), (0, .ref a0), (1, .int x1), (2, .int x2)]) dX11_stop_17 (by decide) rfl rfl (z_aload_n 1 dX11_stop_19 rfl rfl (z_ifnullN (t := 28) dX11_stop_20 (by decide) (z_iconst (w := (-1)) dX11_stop_28 (by decide) (z_goto (t := 47) dX11_stop_29 (by decide) ?_))))
      obtain ⟨rfl, rfl⟩ := H17
      exact z_iret dX11_stop_47 rfl (by decide) (by decide)
    | some b16 =>
      have H18 := H15.2 b16 rfl
      refine z_astore (lv' := [(4, .ref b16), (3, .null), (0, .ref a0), (1, .int x1), (2, .int x2)]) dX11_stop_17 (by decide) rfl rfl (z_aload_n 1 dX11_stop_19 rfl rfl (z_ifnullN (t := 28) dX11_stop_20 (by decide) (z_iconst (w := (-1)) dX11_stop_28 (by decide) (z_goto (t := 47) dX11_stop_29 (by decide) ?_))))
      obtain ⟨rfl, rfl⟩ := H18
      exact z_iret dX11_stop_47 rfl (by decide) (by decide)
  | some b7 =>
    have H9 := H6.2 b7 rfl
    refine z_astore_n (lv' := [(3, .ref b7), (0, .ref a0), (1, .int x1), (2, .int x2)]) dX11_stop_8 (by decide) rfl rfl (z_aload_n 1 dX11_stop_9 rfl rfl ?_)
    obtain ⟨oe21, b19, e21, H20⟩ := H9
    refine z_getP dX11_stop_10 wf_X11_10 (by decide) (by decide) rfl oe21 (fun q => (by cases q.symm.trans e21)) (fun j q => ?_)
    cases q.symm.trans e21
    refine z_iload_n 3 dX11_stop_13 rfl ?_
    obtain ⟨oc23, w22, c23, H24⟩ := H20
    refine z_virt (As := [.int x2]) (st := []) (r1 := (some (zov w22))) (h1 := (g, I, P)) dX11_stop_14 kX9_centuryOf wm_X11_96 ⟨by decide, by decide⟩ rfl rfl (Nat.le_of_ble_eq_true rfl) (by decide) (by decide) oc23 c23 ?_
    cases w22 with
    | none =>
      have H26 := H24.1 rfl
      refine z_astore (lv' := [(4, .null), (3, .ref b7), (0, .ref a0), (1, .int x1), (2, .int x2)]) dX11_stop_17 (by decide) rfl rfl (z_aload_n 1 dX11_stop_19 rfl rfl (z_ifnullR dX11_stop_20 (z_aload 0 dX11_stop_23 rfl rfl (z_ifnonnullN dX11_stop_25 (z_iconst (w := (-1)) dX11_stop_28 (by decide) (z_goto (t := 47) dX11_stop_29 (by decide) ?_))))))
      obtain ⟨rfl, rfl⟩ := H26
      exact z_iret dX11_stop_47 rfl (by decide) (by decide)
    | some b25 =>
      have H27 := H24.2 b25 rfl
      refine z_astore (lv' := [(4, .ref b25), (3, .ref b7), (0, .ref a0), (1, .int x1), (2, .int x2)]) dX11_stop_17 (by decide) rfl rfl (z_aload_n 1 dX11_stop_19 rfl rfl (z_ifnullR dX11_stop_20 (z_aload 0 dX11_stop_23 rfl rfl (z_ifnonnullR (t := 32) dX11_stop_25 (by decide) (z_aload_n 2 dX11_stop_32 rfl rfl ?_)))))
      obtain ⟨oe30, b28, e30, H29⟩ := H27
      refine z_getP dX11_stop_33 wf_X11_30 (by decide) (by decide) rfl oe30 (fun q => (by cases q.symm.trans e30)) (fun j q => ?_)
      cases q.symm.trans e30
      refine z_aload_n 1 dX11_stop_36 rfl rfl (z_aload 0 dX11_stop_37 rfl rfl (z_aload 0 dX11_stop_39 rfl rfl (z_getI dX11_stop_41 wf_X11_105 (by decide) (by decide) rfl H29.1 ?_)))
      obtain ⟨oc34, w31, I32, P33, c34, H35⟩ := H29.2
      refine z_virt (As := [.ref b7, .ref b25, .int (I b25 0)]) (st := []) (r1 := (some (.int w31))) (h1 := (g, I32, P33)) dX11_stop_44 kX2_play wm_X11_108 ⟨by decide, by decide⟩ rfl rfl (Nat.le_of_ble_eq_true rfl) (by decide) (by decide) oc34 c34 ?_
      obtain ⟨rfl, rfl⟩ := H35
      exact z_iret dX11_stop_47 rfl (by decide) (by decide)
theorem eX11_stop {g : zG} {I : Nat → Nat → Int32} {P : Nat → Nat → Option Nat} {r : Option Value} {h' : zH} {a0 : Nat} {x1 : Int32} {x2 : Int32} (H : Zt none mX11_stop 0 0 0 [(0, .ref a0), (1, .int x1), (2, .int x2)] [] (g, I, P) r h') : Cl mX11_stop [.ref a0, .int x1, .int x2] (g, I, P) r h' := Cl.of (by decide) (Nat.le_of_ble_eq_true rfl) H
theorem dX11_state_0 : decode cX11_state 0 = .ok (.aload_n 0, 1) := by decide +kernel
theorem dX11_state_1 : decode cX11_state 1 = .ok (.getfield 10, 3) := by decide +kernel
theorem dX11_state_4 : decode cX11_state 4 = .ok (.iload_n 1, 1) := by decide +kernel
theorem dX11_state_5 : decode cX11_state 5 = .ok (.invokevirtual 87, 3) := by decide +kernel
theorem dX11_state_8 : decode cX11_state 8 = .ok (.astore 5, 2) := by decide +kernel
theorem dX11_state_10 : decode cX11_state 10 = .ok (.aload_n 0, 1) := by decide +kernel
theorem dX11_state_11 : decode cX11_state 11 = .ok (.getfield 10, 3) := by decide +kernel
theorem dX11_state_14 : decode cX11_state 14 = .ok (.iload_n 2, 1) := by decide +kernel
theorem dX11_state_15 : decode cX11_state 15 = .ok (.invokevirtual 96, 3) := by decide +kernel
theorem dX11_state_18 : decode cX11_state 18 = .ok (.astore 6, 2) := by decide +kernel
theorem dX11_state_20 : decode cX11_state 20 = .ok (.aload 5, 2) := by decide +kernel
theorem dX11_state_22 : decode cX11_state 22 = .ok (.ifnull 21, 3) := by decide +kernel
theorem dX11_state_25 : decode cX11_state 25 = .ok (.aload 6, 2) := by decide +kernel
theorem dX11_state_27 : decode cX11_state 27 = .ok (.ifnull 16, 3) := by decide +kernel
theorem dX11_state_30 : decode cX11_state 30 = .ok (.iload_n 3, 1) := by decide +kernel
theorem dX11_state_31 : decode cX11_state 31 = .ok (.ifCond .lt 12, 3) := by decide +kernel
theorem dX11_state_34 : decode cX11_state 34 = .ok (.iload_n 3, 1) := by decide +kernel
theorem dX11_state_35 : decode cX11_state 35 = .ok (.aload 6, 2) := by decide +kernel
theorem dX11_state_37 : decode cX11_state 37 = .ok (.getfield 105, 3) := by decide +kernel
theorem dX11_state_40 : decode cX11_state 40 = .ok (.if_icmp .le 6, 3) := by decide +kernel
theorem dX11_state_43 : decode cX11_state 43 = .ok (.bipush (-2), 2) := by decide +kernel
theorem dX11_state_45 : decode cX11_state 45 = .ok (.ireturn, 1) := by decide +kernel
theorem dX11_state_46 : decode cX11_state 46 = .ok (.aload_n 0, 1) := by decide +kernel
theorem dX11_state_47 : decode cX11_state 47 = .ok (.getfield 30, 3) := by decide +kernel
theorem dX11_state_50 : decode cX11_state 50 = .ok (.aload 5, 2) := by decide +kernel
theorem dX11_state_52 : decode cX11_state 52 = .ok (.aload 6, 2) := by decide +kernel
theorem dX11_state_54 : decode cX11_state 54 = .ok (.iload_n 3, 1) := by decide +kernel
theorem dX11_state_55 : decode cX11_state 55 = .ok (.invokevirtual 108, 3) := by decide +kernel
theorem dX11_state_58 : decode cX11_state 58 = .ok (.iload_n 3, 1) := by decide +kernel
theorem dX11_state_59 : decode cX11_state 59 = .ok (.if_icmp .ge 8, 3) := by decide +kernel
theorem dX11_state_62 : decode cX11_state 62 = .ok (.bipush (-2), 2) := by decide +kernel
theorem dX11_state_64 : decode cX11_state 64 = .ok (.goto 12, 3) := by decide +kernel
theorem dX11_state_67 : decode cX11_state 67 = .ok (.aload_n 0, 1) := by decide +kernel
theorem dX11_state_68 : decode cX11_state 68 = .ok (.getfield 30, 3) := by decide +kernel
theorem dX11_state_71 : decode cX11_state 71 = .ok (.iload 4, 2) := by decide +kernel
theorem dX11_state_73 : decode cX11_state 73 = .ok (.invokevirtual 112, 3) := by decide +kernel
theorem dX11_state_76 : decode cX11_state 76 = .ok (.ireturn, 1) := by decide +kernel
set_option maxRecDepth 10000 in
theorem wX11_state_0 {g : zG} {I : Nat → Nat → Int32} {P : Nat → Nat → Option Nat} {r : Option Value} {h' : zH} {a0 : Nat} {x1 : Int32} {x2 : Int32} {x3 : Int32} {x4 : Int32} (H : zk g a0 11 ∧ ∃ b1, P a0 0 = some b1 ∧ zk g b1 9 ∧ ∃ (w4 : Option Nat), Cl mX9_hillOf [.ref b1, .int x1] (g, I, P) (some (zov w4)) (g, I, P) ∧ ((w4 = none) → zk g a0 11 ∧ ∃ b10, P a0 0 = some b10 ∧ zk g b10 9 ∧ ∃ (w13 : Option Nat), Cl mX9_centuryOf [.ref b10, .int x2] (g, I, P) (some (zov w13)) (g, I, P) ∧ ((w13 = none) → r = some (.int (-2)) ∧ h' = (g, I, P)) ∧ (∀ b16, w13 = some b16 → r = some (.int (-2)) ∧ h' = (g, I, P))) ∧ (∀ b7, w4 = some b7 → zk g a0 11 ∧ ∃ b19, P a0 0 = some b19 ∧ zk g b19 9 ∧ ∃ (w22 : Option Nat), Cl mX9_centuryOf [.ref b19, .int x2] (g, I, P) (some (zov w22)) (g, I, P) ∧ ((w22 = none) → r = some (.int (-2)) ∧ h' = (g, I, P)) ∧ (∀ b25, w22 = some b25 → ((x3 < 0) → r = some (.int (-2)) ∧ h' = (g, I, P)) ∧ ((¬ x3 < 0) → zk g b25 0 ∧ ((x3 ≤ I b25 0) → zk g a0 11 ∧ ∃ b31, P a0 3 = some b31 ∧ zk g b31 2 ∧ ∃ (w34 : Int32) (I35 : Nat → Nat → Int32) (P36 : Nat → Nat → Option Nat), Cl mX2_play [.ref b31, .ref b7, .ref b25, .int x3] (g, I, P) (some (.int w34)) (g, I35, P36) ∧ ((x3 ≤ w34) → zk g a0 11 ∧ ∃ b40, P36 a0 3 = some b40 ∧ zk g b40 2 ∧ ∃ (w43 : Int32), Cl mX2_look [.ref b40, .int x4] (g, I35, P36) (some (.int w43)) (g, I35, P36) ∧ r = some (.int w43) ∧ h' = (g, I35, P36)) ∧ ((¬ x3 ≤ w34) → r = some (.int (-2)) ∧ h' = (g, I35, P36))) ∧ ((¬ x3 ≤ I b25 0) → r = some (.int (-2)) ∧ h' = (g, I, P)))))) : Zt none mX11_state 0 0 0 [(0, .ref a0), (1, .int x1), (2, .int x2), (3, .int x3), (4, .int x4)] [] (g, I, P) r h' := by
  refine z_aload_n 0 dX11_state_0 rfl rfl ?_
  obtain ⟨oe3, b1, e3, H2⟩ := H
  refine z_getP dX11_state_1 wf_X11_10 (by decide) (by decide) rfl oe3 (fun q => (by cases q.symm.trans e3)) (fun j q => ?_)
  cases q.symm.trans e3
  refine z_iload_n 1 dX11_state_4 rfl ?_
  obtain ⟨oc5, w4, c5, H6⟩ := H2
  refine z_virt (As := [.int x1]) (st := []) (r1 := (some (zov w4))) (h1 := (g, I, P)) dX11_state_5 kX9_hillOf wm_X11_87 ⟨by decide, by decide⟩ rfl rfl (Nat.le_of_ble_eq_true rfl) (by decide) (by decide) oc5 c5 ?_
  cases w4 with
  | none =>
    have H8 := H6.1 rfl
    refine z_astore (lv' := [(5, .null), (0, .ref a0), (1, .int x1), (2, .int x2), (3, .int x3), (4, .int x4)]) dX11_state_8 (by decide) rfl rfl (z_aload_n 1 dX11_state_10 rfl rfl ?_)
    obtain ⟨oe12, b10, e12, H11⟩ := H8
    refine z_getP dX11_state_11 wf_X11_10 (by decide) (by decide) rfl oe12 (fun q => (by cases q.symm.trans e12)) (fun j q => ?_)
    cases q.symm.trans e12
    refine z_iload_n 3 dX11_state_14 rfl ?_
    obtain ⟨oc14, w13, c14, H15⟩ := H11
    refine z_virt (As := [.int x2]) (st := []) (r1 := (some (zov w13))) (h1 := (g, I, P)) dX11_state_15 kX9_centuryOf wm_X11_96 ⟨by decide, by decide⟩ rfl rfl (Nat.le_of_ble_eq_true rfl) (by decide) (by decide) oc14 c14 ?_
    cases w13 with
    | none =>
      have H17 := H15.1 rfl
      refine z_astore (lv' := [(6, .null), (5, .null), (0, .ref a0), (1, .int x1), (2, .int x2), (3, .int x3), (4, .int x4)]) dX11_state_18 (by decide) rfl rfl (z_aload 1 dX11_state_20 rfl rfl (z_ifnullN (t := 43) dX11_state_22 (by decide) (z_bipush (w := (-2)) dX11_state_43 (by decide) ?_)))
      obtain ⟨rfl, rfl⟩ := H17
      exact z_iret dX11_state_45 rfl (by decide) (by decide)
    | some b16 =>
      have H18 := H15.2 b16 rfl
      refine z_astore (lv' := [(6, .ref b16), (5, .null), (0, .ref a0), (1, .int x1), (2, .int x2), (3, .int x3), (4, .int x4)]) dX11_state_18 (by decide) rfl rfl (z_aload 1 dX11_state_20 rfl rfl (z_ifnullN (t := 43) dX11_state_22 (by decide) (z_bipush (w := (-2)) dX11_state_43 (by decide) ?_)))
      obtain ⟨rfl, rfl⟩ := H18
      exact z_iret dX11_state_45 rfl (by decide) (by decide)
  | some b7 =>
    have H9 := H6.2 b7 rfl
    refine z_astore (lv' := [(5, .ref b7), (0, .ref a0), (1, .int x1), (2, .int x2), (3, .int x3), (4, .int x4)]) dX11_state_8 (by decide) rfl rfl (z_aload_n 1 dX11_state_10 rfl rfl ?_)
    obtain ⟨oe21, b19, e21, H20⟩ := H9
    refine z_getP dX11_state_11 wf_X11_10 (by decide) (by decide) rfl oe21 (fun q => (by cases q.symm.trans e21)) (fun j q => ?_)
    cases q.symm.trans e21
    refine z_iload_n 3 dX11_state_14 rfl ?_
    obtain ⟨oc23, w22, c23, H24⟩ := H20
    refine z_virt (As := [.int x2]) (st := []) (r1 := (some (zov w22))) (h1 := (g, I, P)) dX11_state_15 kX9_centuryOf wm_X11_96 ⟨by decide, by decide⟩ rfl rfl (Nat.le_of_ble_eq_true rfl) (by decide) (by decide) oc23 c23 ?_
    cases w22 with
    | none =>
      have H26 := H24.1 rfl
      refine z_astore (lv' := [(6, .null), (5, .ref b7), (0, .ref a0), (1, .int x1), (2, .int x2), (3, .int x3), (4, .int x4)]) dX11_state_18 (by decide) rfl rfl (z_aload 1 dX11_state_20 rfl rfl (z_ifnullR dX11_state_22 (z_aload 0 dX11_state_25 rfl rfl (z_ifnullN (t := 43) dX11_state_27 (by decide) (z_bipush (w := (-2)) dX11_state_43 (by decide) ?_)))))
      obtain ⟨rfl, rfl⟩ := H26
      exact z_iret dX11_state_45 rfl (by decide) (by decide)
    | some b25 =>
      have H27 := H24.2 b25 rfl
      refine z_astore (lv' := [(6, .ref b25), (5, .ref b7), (0, .ref a0), (1, .int x1), (2, .int x2), (3, .int x3), (4, .int x4)]) dX11_state_18 (by decide) rfl rfl (z_aload 1 dX11_state_20 rfl rfl (z_ifnullR dX11_state_22 (z_aload 0 dX11_state_25 rfl rfl (z_ifnullR dX11_state_27 (z_iload_n 5 dX11_state_30 rfl ?_)))))
      refine z_if_lt (t := 43) dX11_state_31 (by decide) (fun q => ?_) (fun q => ?_)
      · have H28 := H27.1 q
        refine z_bipush (w := (-2)) dX11_state_43 (by decide) ?_
        obtain ⟨rfl, rfl⟩ := H28
        exact z_iret dX11_state_45 rfl (by decide) (by decide)
      · have H29 := H27.2 q
        refine z_iload_n 5 dX11_state_34 rfl (z_aload 0 dX11_state_35 rfl rfl (z_getI dX11_state_37 wf_X11_105 (by decide) (by decide) rfl H29.1 ?_))
        refine z_icmp_le (t := 46) dX11_state_40 (by decide) (fun q => ?_) (fun q => ?_)
        · have H30 := H29.2.1 q
          refine z_aload_n 2 dX11_state_46 rfl rfl ?_
          obtain ⟨oe33, b31, e33, H32⟩ := H30
          refine z_getP dX11_state_47 wf_X11_30 (by decide) (by decide) rfl oe33 (fun q => (by cases q.symm.trans e33)) (fun j q => ?_)
          cases q.symm.trans e33
          refine z_aload 1 dX11_state_50 rfl rfl (z_aload 0 dX11_state_52 rfl rfl (z_iload_n 5 dX11_state_54 rfl ?_))
          obtain ⟨oc37, w34, I35, P36, c37, H38⟩ := H32
          refine z_virt (As := [.ref b7, .ref b25, .int x3]) (st := []) (r1 := (some (.int w34))) (h1 := (g, I35, P36)) dX11_state_55 kX2_play wm_X11_108 ⟨by decide, by decide⟩ rfl rfl (Nat.le_of_ble_eq_true rfl) (by decide) (by decide) oc37 c37 ?_
          refine z_iload_n 5 dX11_state_58 rfl ?_
          refine z_icmp_ge (t := 67) dX11_state_59 (by decide) (fun q => ?_) (fun q => ?_)
          · have H39 := H38.1 q
            refine z_aload_n 2 dX11_state_67 rfl rfl ?_
            obtain ⟨oe42, b40, e42, H41⟩ := H39
            refine z_getP dX11_state_68 wf_X11_30 (by decide) (by decide) rfl oe42 (fun q => (by cases q.symm.trans e42)) (fun j q => ?_)
            cases q.symm.trans e42
            refine z_iload 6 dX11_state_71 rfl ?_
            obtain ⟨oc44, w43, c44, H45⟩ := H41
            refine z_virt (As := [.int x4]) (st := []) (r1 := (some (.int w43))) (h1 := (g, I35, P36)) dX11_state_73 kX2_look wm_X11_112 ⟨by decide, by decide⟩ rfl rfl (Nat.le_of_ble_eq_true rfl) (by decide) (by decide) oc44 c44 ?_
            obtain ⟨rfl, rfl⟩ := H45
            exact z_iret dX11_state_76 rfl (by decide) (by decide)
          · have H46 := H38.2 q
            refine z_bipush (w := (-2)) dX11_state_62 (by decide) (z_goto (t := 76) dX11_state_64 (by decide) ?_)
            obtain ⟨rfl, rfl⟩ := H46
            exact z_iret dX11_state_76 rfl (by decide) (by decide)
        · have H47 := H29.2.2 q
          refine z_bipush (w := (-2)) dX11_state_43 (by decide) ?_
          obtain ⟨rfl, rfl⟩ := H47
          exact z_iret dX11_state_45 rfl (by decide) (by decide)
theorem eX11_state {g : zG} {I : Nat → Nat → Int32} {P : Nat → Nat → Option Nat} {r : Option Value} {h' : zH} {a0 : Nat} {x1 : Int32} {x2 : Int32} {x3 : Int32} {x4 : Int32} (H : Zt none mX11_state 0 0 0 [(0, .ref a0), (1, .int x1), (2, .int x2), (3, .int x3), (4, .int x4)] [] (g, I, P) r h') : Cl mX11_state [.ref a0, .int x1, .int x2, .int x3, .int x4] (g, I, P) r h' := Cl.of (by decide) (Nat.le_of_ble_eq_true rfl) H
theorem dX11_line_0 : decode cX11_line 0 = .ok (.aload_n 0, 1) := by decide +kernel
theorem dX11_line_1 : decode cX11_line 1 = .ok (.getfield 10, 3) := by decide +kernel
theorem dX11_line_4 : decode cX11_line 4 = .ok (.iload_n 1, 1) := by decide +kernel
theorem dX11_line_5 : decode cX11_line 5 = .ok (.invokevirtual 113, 3) := by decide +kernel
theorem dX11_line_8 : decode cX11_line 8 = .ok (.astore 4, 2) := by decide +kernel
theorem dX11_line_10 : decode cX11_line 10 = .ok (.aload 4, 2) := by decide +kernel
theorem dX11_line_12 : decode cX11_line 12 = .ok (.ifnonnull 8, 3) := by decide +kernel
theorem dX11_line_15 : decode cX11_line 15 = .ok (.bipush (-2), 2) := by decide +kernel
theorem dX11_line_17 : decode cX11_line 17 = .ok (.goto 10, 3) := by decide +kernel
theorem dX11_line_20 : decode cX11_line 20 = .ok (.aload 4, 2) := by decide +kernel
theorem dX11_line_22 : decode cX11_line 22 = .ok (.iload_n 2, 1) := by decide +kernel
theorem dX11_line_23 : decode cX11_line 23 = .ok (.iload_n 3, 1) := by decide +kernel
theorem dX11_line_24 : decode cX11_line 24 = .ok (.invokevirtual 117, 3) := by decide +kernel
theorem dX11_line_27 : decode cX11_line 27 = .ok (.ireturn, 1) := by decide +kernel
set_option maxRecDepth 10000 in
theorem wX11_line_0 {g : zG} {I : Nat → Nat → Int32} {P : Nat → Nat → Option Nat} {r : Option Value} {h' : zH} {a0 : Nat} {x1 : Int32} {x2 : Int32} {x3 : Int32} (H : zk g a0 11 ∧ ∃ b1, P a0 0 = some b1 ∧ zk g b1 9 ∧ ∃ (w4 : Option Nat), Cl mX9_linesOf [.ref b1, .int x1] (g, I, P) (some (zov w4)) (g, I, P) ∧ ((w4 = none) → r = some (.int (-2)) ∧ h' = (g, I, P)) ∧ (∀ b7, w4 = some b7 → zk g b7 4 ∧ ∃ (w10 : Int32), Cl mX4_look [.ref b7, .int x2, .int x3] (g, I, P) (some (.int w10)) (g, I, P) ∧ r = some (.int w10) ∧ h' = (g, I, P))) : Zt none mX11_line 0 0 0 [(0, .ref a0), (1, .int x1), (2, .int x2), (3, .int x3)] [] (g, I, P) r h' := by
  refine z_aload_n 0 dX11_line_0 rfl rfl ?_
  obtain ⟨oe3, b1, e3, H2⟩ := H
  refine z_getP dX11_line_1 wf_X11_10 (by decide) (by decide) rfl oe3 (fun q => (by cases q.symm.trans e3)) (fun j q => ?_)
  cases q.symm.trans e3
  refine z_iload_n 1 dX11_line_4 rfl ?_
  obtain ⟨oc5, w4, c5, H6⟩ := H2
  refine z_virt (As := [.int x1]) (st := []) (r1 := (some (zov w4))) (h1 := (g, I, P)) dX11_line_5 kX9_linesOf wm_X11_113 ⟨by decide, by decide⟩ rfl rfl (Nat.le_of_ble_eq_true rfl) (by decide) (by decide) oc5 c5 ?_
  cases w4 with
  | none =>
    have H8 := H6.1 rfl
    refine z_astore (lv' := [(4, .null), (0, .ref a0), (1, .int x1), (2, .int x2), (3, .int x3)]) dX11_line_8 (by decide) rfl rfl (z_aload 0 dX11_line_10 rfl rfl (z_ifnonnullN dX11_line_12 (z_bipush (w := (-2)) dX11_line_15 (by decide) (z_goto (t := 27) dX11_line_17 (by decide) ?_))))
    obtain ⟨rfl, rfl⟩ := H8
    exact z_iret dX11_line_27 rfl (by decide) (by decide)
  | some b7 =>
    have H9 := H6.2 b7 rfl
    refine z_astore (lv' := [(4, .ref b7), (0, .ref a0), (1, .int x1), (2, .int x2), (3, .int x3)]) dX11_line_8 (by decide) rfl rfl (z_aload 0 dX11_line_10 rfl rfl (z_ifnonnullR (t := 20) dX11_line_12 (by decide) (z_aload 0 dX11_line_20 rfl rfl (z_iload_n 3 dX11_line_22 rfl (z_iload_n 4 dX11_line_23 rfl ?_)))))
    obtain ⟨oc11, w10, c11, H12⟩ := H9
    refine z_virt (As := [.int x2, .int x3]) (st := []) (r1 := (some (.int w10))) (h1 := (g, I, P)) dX11_line_24 kX4_look wm_X11_117 ⟨by decide, by decide⟩ rfl rfl (Nat.le_of_ble_eq_true rfl) (by decide) (by decide) oc11 c11 ?_
    obtain ⟨rfl, rfl⟩ := H12
    exact z_iret dX11_line_27 rfl (by decide) (by decide)
theorem eX11_line {g : zG} {I : Nat → Nat → Int32} {P : Nat → Nat → Option Nat} {r : Option Value} {h' : zH} {a0 : Nat} {x1 : Int32} {x2 : Int32} {x3 : Int32} (H : Zt none mX11_line 0 0 0 [(0, .ref a0), (1, .int x1), (2, .int x2), (3, .int x3)] [] (g, I, P) r h') : Cl mX11_line [.ref a0, .int x1, .int x2, .int x3] (g, I, P) r h' := Cl.of (by decide) (Nat.le_of_ble_eq_true rfl) H
theorem dX11_said_0 : decode cX11_said 0 = .ok (.aload_n 0, 1) := by decide +kernel
theorem dX11_said_1 : decode cX11_said 1 = .ok (.getfield 37, 3) := by decide +kernel
theorem dX11_said_4 : decode cX11_said 4 = .ok (.aload_n 0, 1) := by decide +kernel
theorem dX11_said_5 : decode cX11_said 5 = .ok (.getfield 10, 3) := by decide +kernel
theorem dX11_said_8 : decode cX11_said 8 = .ok (.iload_n 1, 1) := by decide +kernel
theorem dX11_said_9 : decode cX11_said 9 = .ok (.invokevirtual 87, 3) := by decide +kernel
theorem dX11_said_12 : decode cX11_said 12 = .ok (.aload_n 0, 1) := by decide +kernel
theorem dX11_said_13 : decode cX11_said 13 = .ok (.getfield 10, 3) := by decide +kernel
theorem dX11_said_16 : decode cX11_said 16 = .ok (.iload_n 2, 1) := by decide +kernel
theorem dX11_said_17 : decode cX11_said 17 = .ok (.invokevirtual 113, 3) := by decide +kernel
theorem dX11_said_20 : decode cX11_said 20 = .ok (.iload_n 3, 1) := by decide +kernel
theorem dX11_said_21 : decode cX11_said 21 = .ok (.invokevirtual 120, 3) := by decide +kernel
theorem dX11_said_24 : decode cX11_said 24 = .ok (.ifCond .ne 6, 3) := by decide +kernel
theorem dX11_said_27 : decode cX11_said 27 = .ok (.bipush (-2), 2) := by decide +kernel
theorem dX11_said_29 : decode cX11_said 29 = .ok (.ireturn, 1) := by decide +kernel
theorem dX11_said_30 : decode cX11_said 30 = .ok (.iload 4, 2) := by decide +kernel
theorem dX11_said_32 : decode cX11_said 32 = .ok (.lookupswitch 44 #[(0, 28), (1, 36)], 28) := by decide +kernel
theorem dX11_said_60 : decode cX11_said 60 = .ok (.aload_n 0, 1) := by decide +kernel
theorem dX11_said_61 : decode cX11_said 61 = .ok (.getfield 37, 3) := by decide +kernel
theorem dX11_said_64 : decode cX11_said 64 = .ok (.invokevirtual 124, 3) := by decide +kernel
theorem dX11_said_67 : decode cX11_said 67 = .ok (.ireturn, 1) := by decide +kernel
theorem dX11_said_68 : decode cX11_said 68 = .ok (.aload_n 0, 1) := by decide +kernel
theorem dX11_said_69 : decode cX11_said 69 = .ok (.getfield 37, 3) := by decide +kernel
theorem dX11_said_72 : decode cX11_said 72 = .ok (.invokevirtual 128, 3) := by decide +kernel
theorem dX11_said_75 : decode cX11_said 75 = .ok (.ireturn, 1) := by decide +kernel
theorem dX11_said_76 : decode cX11_said 76 = .ok (.bipush (-2), 2) := by decide +kernel
theorem dX11_said_78 : decode cX11_said 78 = .ok (.ireturn, 1) := by decide +kernel
set_option maxRecDepth 10000 in
theorem wX11_said_0 {g : zG} {I : Nat → Nat → Int32} {P : Nat → Nat → Option Nat} {r : Option Value} {h' : zH} {a0 : Nat} {x1 : Int32} {x2 : Int32} {x3 : Int32} {x4 : Int32} (H : zk g a0 11 ∧ ∃ b1, P a0 4 = some b1 ∧ zk g a0 11 ∧ ∃ b4, P a0 0 = some b4 ∧ zk g b4 9 ∧ ∃ (w7 : Option Nat), Cl mX9_hillOf [.ref b4, .int x1] (g, I, P) (some (zov w7)) (g, I, P) ∧ ((w7 = none) → zk g a0 11 ∧ ∃ b13, P a0 0 = some b13 ∧ zk g b13 9 ∧ ∃ (w16 : Option Nat), Cl mX9_linesOf [.ref b13, .int x2] (g, I, P) (some (zov w16)) (g, I, P) ∧ ((w16 = none) → zk g b1 1 ∧ ∃ (w22 : Int32) (I23 : Nat → Nat → Int32) (P24 : Nat → Nat → Option Nat), Cl mX1_hears [.ref b1, .null, .null, .int x3] (g, I, P) (some (.int w22)) (g, I23, P24) ∧ ((¬ w22 = 0) → ((x4 = 0) → zk g a0 11 ∧ ∃ b30, P24 a0 4 = some b30 ∧ zk g b30 1 ∧ ∃ (w33 : Int32), Cl mX1_heard [.ref b30] (g, I23, P24) (some (.int w33)) (g, I23, P24) ∧ r = some (.int w33) ∧ h' = (g, I23, P24)) ∧ ((x4 = 1) → zk g a0 11 ∧ ∃ b38, P24 a0 4 = some b38 ∧ zk g b38 1 ∧ ∃ (w41 : Int32), Cl mX1_likely [.ref b38] (g, I23, P24) (some (.int w41)) (g, I23, P24) ∧ r = some (.int w41) ∧ h' = (g, I23, P24)) ∧ (¬ x4 = 0 → ¬ x4 = 1 → r = some (.int (-2)) ∧ h' = (g, I23, P24))) ∧ ((w22 = 0) → r = some (.int (-2)) ∧ h' = (g, I23, P24))) ∧ (∀ b19, w16 = some b19 → zk g b1 1 ∧ ∃ (w46 : Int32) (I47 : Nat → Nat → Int32) (P48 : Nat → Nat → Option Nat), Cl mX1_hears [.ref b1, .null, .ref b19, .int x3] (g, I, P) (some (.int w46)) (g, I47, P48) ∧ ((¬ w46 = 0) → ((x4 = 0) → zk g a0 11 ∧ ∃ b54, P48 a0 4 = some b54 ∧ zk g b54 1 ∧ ∃ (w57 : Int32), Cl mX1_heard [.ref b54] (g, I47, P48) (some (.int w57)) (g, I47, P48) ∧ r = some (.int w57) ∧ h' = (g, I47, P48)) ∧ ((x4 = 1) → zk g a0 11 ∧ ∃ b62, P48 a0 4 = some b62 ∧ zk g b62 1 ∧ ∃ (w65 : Int32), Cl mX1_likely [.ref b62] (g, I47, P48) (some (.int w65)) (g, I47, P48) ∧ r = some (.int w65) ∧ h' = (g, I47, P48)) ∧ (¬ x4 = 0 → ¬ x4 = 1 → r = some (.int (-2)) ∧ h' = (g, I47, P48))) ∧ ((w46 = 0) → r = some (.int (-2)) ∧ h' = (g, I47, P48)))) ∧ (∀ b10, w7 = some b10 → zk g a0 11 ∧ ∃ b70, P a0 0 = some b70 ∧ zk g b70 9 ∧ ∃ (w73 : Option Nat), Cl mX9_linesOf [.ref b70, .int x2] (g, I, P) (some (zov w73)) (g, I, P) ∧ ((w73 = none) → zk g b1 1 ∧ ∃ (w79 : Int32) (I80 : Nat → Nat → Int32) (P81 : Nat → Nat → Option Nat), Cl mX1_hears [.ref b1, .ref b10, .null, .int x3] (g, I, P) (some (.int w79)) (g, I80, P81) ∧ ((¬ w79 = 0) → ((x4 = 0) → zk g a0 11 ∧ ∃ b87, P81 a0 4 = some b87 ∧ zk g b87 1 ∧ ∃ (w90 : Int32), Cl mX1_heard [.ref b87] (g, I80, P81) (some (.int w90)) (g, I80, P81) ∧ r = some (.int w90) ∧ h' = (g, I80, P81)) ∧ ((x4 = 1) → zk g a0 11 ∧ ∃ b95, P81 a0 4 = some b95 ∧ zk g b95 1 ∧ ∃ (w98 : Int32), Cl mX1_likely [.ref b95] (g, I80, P81) (some (.int w98)) (g, I80, P81) ∧ r = some (.int w98) ∧ h' = (g, I80, P81)) ∧ (¬ x4 = 0 → ¬ x4 = 1 → r = some (.int (-2)) ∧ h' = (g, I80, P81))) ∧ ((w79 = 0) → r = some (.int (-2)) ∧ h' = (g, I80, P81))) ∧ (∀ b76, w73 = some b76 → zk g b1 1 ∧ ∃ (w103 : Int32) (I104 : Nat → Nat → Int32) (P105 : Nat → Nat → Option Nat), Cl mX1_hears [.ref b1, .ref b10, .ref b76, .int x3] (g, I, P) (some (.int w103)) (g, I104, P105) ∧ ((¬ w103 = 0) → ((x4 = 0) → zk g a0 11 ∧ ∃ b111, P105 a0 4 = some b111 ∧ zk g b111 1 ∧ ∃ (w114 : Int32), Cl mX1_heard [.ref b111] (g, I104, P105) (some (.int w114)) (g, I104, P105) ∧ r = some (.int w114) ∧ h' = (g, I104, P105)) ∧ ((x4 = 1) → zk g a0 11 ∧ ∃ b119, P105 a0 4 = some b119 ∧ zk g b119 1 ∧ ∃ (w122 : Int32), Cl mX1_likely [.ref b119] (g, I104, P105) (some (.int w122)) (g, I104, P105) ∧ r = some (.int w122) ∧ h' = (g, I104, P105)) ∧ (¬ x4 = 0 → ¬ x4 = 1 → r = some (.int (-2)) ∧ h' = (g, I104, P105))) ∧ ((w103 = 0) → r = some (.int (-2)) ∧ h' = (g, I104, P105))))) : Zt none mX11_said 0 0 0 [(0, .ref a0), (1, .int x1), (2, .int x2), (3, .int x3), (4, .int x4)] [] (g, I, P) r h' := by
  refine z_aload_n 0 dX11_said_0 rfl rfl ?_
  obtain ⟨oe3, b1, e3, H2⟩ := H
  refine z_getP dX11_said_1 wf_X11_37 (by decide) (by decide) rfl oe3 (fun q => (by cases q.symm.trans e3)) (fun j q => ?_)
  cases q.symm.trans e3
  refine z_aload_n 0 dX11_said_4 rfl rfl ?_
  obtain ⟨oe6, b4, e6, H5⟩ := H2
  refine z_getP dX11_said_5 wf_X11_10 (by decide) (by decide) rfl oe6 (fun q => (by cases q.symm.trans e6)) (fun j q => ?_)
  cases q.symm.trans e6
  refine z_iload_n 1 dX11_said_8 rfl ?_
  obtain ⟨oc8, w7, c8, H9⟩ := H5
  refine z_virt (As := [.int x1]) (st := [.ref b1]) (r1 := (some (zov w7))) (h1 := (g, I, P)) dX11_said_9 kX9_hillOf wm_X11_87 ⟨by decide, by decide⟩ rfl rfl (Nat.le_of_ble_eq_true rfl) (by decide) (by decide) oc8 c8 ?_
  cases w7 with
  | none =>
    have H11 := H9.1 rfl
    refine z_aload_n 0 dX11_said_12 rfl rfl ?_
    obtain ⟨oe15, b13, e15, H14⟩ := H11
    refine z_getP dX11_said_13 wf_X11_10 (by decide) (by decide) rfl oe15 (fun q => (by cases q.symm.trans e15)) (fun j q => ?_)
    cases q.symm.trans e15
    refine z_iload_n 2 dX11_said_16 rfl ?_
    obtain ⟨oc17, w16, c17, H18⟩ := H14
    refine z_virt (As := [.int x2]) (st := [.null, .ref b1]) (r1 := (some (zov w16))) (h1 := (g, I, P)) dX11_said_17 kX9_linesOf wm_X11_113 ⟨by decide, by decide⟩ rfl rfl (Nat.le_of_ble_eq_true rfl) (by decide) (by decide) oc17 c17 ?_
    cases w16 with
    | none =>
      have H20 := H18.1 rfl
      refine z_iload_n 3 dX11_said_20 rfl ?_
      obtain ⟨oc25, w22, I23, P24, c25, H26⟩ := H20
      refine z_virt (As := [.null, .null, .int x3]) (st := []) (r1 := (some (.int w22))) (h1 := (g, I23, P24)) dX11_said_21 kX1_hears wm_X11_120 ⟨by decide, by decide⟩ rfl rfl (Nat.le_of_ble_eq_true rfl) (by decide) (by decide) oc25 c25 ?_
      refine z_if_ne (t := 30) dX11_said_24 (by decide) (fun q => ?_) (fun q => ?_)
      · have H27 := H26.1 q
        refine z_iload 4 dX11_said_30 rfl ?_
        by_cases q28 : x4 = 0
        · have H29 := H27.1 q28
          have eq28 : (x4 : Int32).toInt = 0 := by rw [q28]; decide
          refine z_lookup (off := 28) (t := 60) dX11_said_32 (by decide) (by rw [eq28]; decide) (by decide) ?_
          refine z_aload_n 0 dX11_said_60 rfl rfl ?_
          obtain ⟨oe32, b30, e32, H31⟩ := H29
          refine z_getP dX11_said_61 wf_X11_37 (by decide) (by decide) rfl oe32 (fun q => (by cases q.symm.trans e32)) (fun j q => ?_)
          cases q.symm.trans e32
          obtain ⟨oc34, w33, c34, H35⟩ := H31
          refine z_virt (As := []) (st := []) (r1 := (some (.int w33))) (h1 := (g, I23, P24)) dX11_said_64 kX1_heard wm_X11_124 ⟨by decide, by decide⟩ rfl rfl (Nat.le_of_ble_eq_true rfl) (by decide) (by decide) oc34 c34 ?_
          obtain ⟨rfl, rfl⟩ := H35
          exact z_iret dX11_said_67 rfl (by decide) (by decide)
        by_cases q36 : x4 = 1
        · have H37 := H27.2.1 q36
          have eq36 : (x4 : Int32).toInt = 1 := by rw [q36]; decide
          refine z_lookup (off := 36) (t := 68) dX11_said_32 (by decide) (by rw [eq36]; decide) (by decide) ?_
          refine z_aload_n 0 dX11_said_68 rfl rfl ?_
          obtain ⟨oe40, b38, e40, H39⟩ := H37
          refine z_getP dX11_said_69 wf_X11_37 (by decide) (by decide) rfl oe40 (fun q => (by cases q.symm.trans e40)) (fun j q => ?_)
          cases q.symm.trans e40
          obtain ⟨oc42, w41, c42, H43⟩ := H39
          refine z_virt (As := []) (st := []) (r1 := (some (.int w41))) (h1 := (g, I23, P24)) dX11_said_72 kX1_likely wm_X11_128 ⟨by decide, by decide⟩ rfl rfl (Nat.le_of_ble_eq_true rfl) (by decide) (by decide) oc42 c42 ?_
          obtain ⟨rfl, rfl⟩ := H43
          exact z_iret dX11_said_75 rfl (by decide) (by decide)
        have H44 := H27.2.2 q28 q36
        refine z_lookup (off := 44) (t := 76) dX11_said_32 (by decide) ((lv_osw q28 (by decide)).trans ((lv_osw q36 (by decide)).trans (rfl))) (by decide) ?_
        refine z_bipush (w := (-2)) dX11_said_76 (by decide) ?_
        obtain ⟨rfl, rfl⟩ := H44
        exact z_iret dX11_said_78 rfl (by decide) (by decide)
      · have H45 := H26.2 q
        refine z_bipush (w := (-2)) dX11_said_27 (by decide) ?_
        obtain ⟨rfl, rfl⟩ := H45
        exact z_iret dX11_said_29 rfl (by decide) (by decide)
    | some b19 =>
      have H21 := H18.2 b19 rfl
      refine z_iload_n 3 dX11_said_20 rfl ?_
      obtain ⟨oc49, w46, I47, P48, c49, H50⟩ := H21
      refine z_virt (As := [.null, .ref b19, .int x3]) (st := []) (r1 := (some (.int w46))) (h1 := (g, I47, P48)) dX11_said_21 kX1_hears wm_X11_120 ⟨by decide, by decide⟩ rfl rfl (Nat.le_of_ble_eq_true rfl) (by decide) (by decide) oc49 c49 ?_
      refine z_if_ne (t := 30) dX11_said_24 (by decide) (fun q => ?_) (fun q => ?_)
      · have H51 := H50.1 q
        refine z_iload 4 dX11_said_30 rfl ?_
        by_cases q52 : x4 = 0
        · have H53 := H51.1 q52
          have eq52 : (x4 : Int32).toInt = 0 := by rw [q52]; decide
          refine z_lookup (off := 28) (t := 60) dX11_said_32 (by decide) (by rw [eq52]; decide) (by decide) ?_
          refine z_aload_n 0 dX11_said_60 rfl rfl ?_
          obtain ⟨oe56, b54, e56, H55⟩ := H53
          refine z_getP dX11_said_61 wf_X11_37 (by decide) (by decide) rfl oe56 (fun q => (by cases q.symm.trans e56)) (fun j q => ?_)
          cases q.symm.trans e56
          obtain ⟨oc58, w57, c58, H59⟩ := H55
          refine z_virt (As := []) (st := []) (r1 := (some (.int w57))) (h1 := (g, I47, P48)) dX11_said_64 kX1_heard wm_X11_124 ⟨by decide, by decide⟩ rfl rfl (Nat.le_of_ble_eq_true rfl) (by decide) (by decide) oc58 c58 ?_
          obtain ⟨rfl, rfl⟩ := H59
          exact z_iret dX11_said_67 rfl (by decide) (by decide)
        by_cases q60 : x4 = 1
        · have H61 := H51.2.1 q60
          have eq60 : (x4 : Int32).toInt = 1 := by rw [q60]; decide
          refine z_lookup (off := 36) (t := 68) dX11_said_32 (by decide) (by rw [eq60]; decide) (by decide) ?_
          refine z_aload_n 0 dX11_said_68 rfl rfl ?_
          obtain ⟨oe64, b62, e64, H63⟩ := H61
          refine z_getP dX11_said_69 wf_X11_37 (by decide) (by decide) rfl oe64 (fun q => (by cases q.symm.trans e64)) (fun j q => ?_)
          cases q.symm.trans e64
          obtain ⟨oc66, w65, c66, H67⟩ := H63
          refine z_virt (As := []) (st := []) (r1 := (some (.int w65))) (h1 := (g, I47, P48)) dX11_said_72 kX1_likely wm_X11_128 ⟨by decide, by decide⟩ rfl rfl (Nat.le_of_ble_eq_true rfl) (by decide) (by decide) oc66 c66 ?_
          obtain ⟨rfl, rfl⟩ := H67
          exact z_iret dX11_said_75 rfl (by decide) (by decide)
        have H68 := H51.2.2 q52 q60
        refine z_lookup (off := 44) (t := 76) dX11_said_32 (by decide) ((lv_osw q52 (by decide)).trans ((lv_osw q60 (by decide)).trans (rfl))) (by decide) ?_
        refine z_bipush (w := (-2)) dX11_said_76 (by decide) ?_
        obtain ⟨rfl, rfl⟩ := H68
        exact z_iret dX11_said_78 rfl (by decide) (by decide)
      · have H69 := H50.2 q
        refine z_bipush (w := (-2)) dX11_said_27 (by decide) ?_
        obtain ⟨rfl, rfl⟩ := H69
        exact z_iret dX11_said_29 rfl (by decide) (by decide)
  | some b10 =>
    have H12 := H9.2 b10 rfl
    refine z_aload_n 0 dX11_said_12 rfl rfl ?_
    obtain ⟨oe72, b70, e72, H71⟩ := H12
    refine z_getP dX11_said_13 wf_X11_10 (by decide) (by decide) rfl oe72 (fun q => (by cases q.symm.trans e72)) (fun j q => ?_)
    cases q.symm.trans e72
    refine z_iload_n 2 dX11_said_16 rfl ?_
    obtain ⟨oc74, w73, c74, H75⟩ := H71
    refine z_virt (As := [.int x2]) (st := [.ref b10, .ref b1]) (r1 := (some (zov w73))) (h1 := (g, I, P)) dX11_said_17 kX9_linesOf wm_X11_113 ⟨by decide, by decide⟩ rfl rfl (Nat.le_of_ble_eq_true rfl) (by decide) (by decide) oc74 c74 ?_
    cases w73 with
    | none =>
      have H77 := H75.1 rfl
      refine z_iload_n 3 dX11_said_20 rfl ?_
      obtain ⟨oc82, w79, I80, P81, c82, H83⟩ := H77
      refine z_virt (As := [.ref b10, .null, .int x3]) (st := []) (r1 := (some (.int w79))) (h1 := (g, I80, P81)) dX11_said_21 kX1_hears wm_X11_120 ⟨by decide, by decide⟩ rfl rfl (Nat.le_of_ble_eq_true rfl) (by decide) (by decide) oc82 c82 ?_
      refine z_if_ne (t := 30) dX11_said_24 (by decide) (fun q => ?_) (fun q => ?_)
      · have H84 := H83.1 q
        refine z_iload 4 dX11_said_30 rfl ?_
        by_cases q85 : x4 = 0
        · have H86 := H84.1 q85
          have eq85 : (x4 : Int32).toInt = 0 := by rw [q85]; decide
          refine z_lookup (off := 28) (t := 60) dX11_said_32 (by decide) (by rw [eq85]; decide) (by decide) ?_
          refine z_aload_n 0 dX11_said_60 rfl rfl ?_
          obtain ⟨oe89, b87, e89, H88⟩ := H86
          refine z_getP dX11_said_61 wf_X11_37 (by decide) (by decide) rfl oe89 (fun q => (by cases q.symm.trans e89)) (fun j q => ?_)
          cases q.symm.trans e89
          obtain ⟨oc91, w90, c91, H92⟩ := H88
          refine z_virt (As := []) (st := []) (r1 := (some (.int w90))) (h1 := (g, I80, P81)) dX11_said_64 kX1_heard wm_X11_124 ⟨by decide, by decide⟩ rfl rfl (Nat.le_of_ble_eq_true rfl) (by decide) (by decide) oc91 c91 ?_
          obtain ⟨rfl, rfl⟩ := H92
          exact z_iret dX11_said_67 rfl (by decide) (by decide)
        by_cases q93 : x4 = 1
        · have H94 := H84.2.1 q93
          have eq93 : (x4 : Int32).toInt = 1 := by rw [q93]; decide
          refine z_lookup (off := 36) (t := 68) dX11_said_32 (by decide) (by rw [eq93]; decide) (by decide) ?_
          refine z_aload_n 0 dX11_said_68 rfl rfl ?_
          obtain ⟨oe97, b95, e97, H96⟩ := H94
          refine z_getP dX11_said_69 wf_X11_37 (by decide) (by decide) rfl oe97 (fun q => (by cases q.symm.trans e97)) (fun j q => ?_)
          cases q.symm.trans e97
          obtain ⟨oc99, w98, c99, H100⟩ := H96
          refine z_virt (As := []) (st := []) (r1 := (some (.int w98))) (h1 := (g, I80, P81)) dX11_said_72 kX1_likely wm_X11_128 ⟨by decide, by decide⟩ rfl rfl (Nat.le_of_ble_eq_true rfl) (by decide) (by decide) oc99 c99 ?_
          obtain ⟨rfl, rfl⟩ := H100
          exact z_iret dX11_said_75 rfl (by decide) (by decide)
        have H101 := H84.2.2 q85 q93
        refine z_lookup (off := 44) (t := 76) dX11_said_32 (by decide) ((lv_osw q85 (by decide)).trans ((lv_osw q93 (by decide)).trans (rfl))) (by decide) ?_
        refine z_bipush (w := (-2)) dX11_said_76 (by decide) ?_
        obtain ⟨rfl, rfl⟩ := H101
        exact z_iret dX11_said_78 rfl (by decide) (by decide)
      · have H102 := H83.2 q
        refine z_bipush (w := (-2)) dX11_said_27 (by decide) ?_
        obtain ⟨rfl, rfl⟩ := H102
        exact z_iret dX11_said_29 rfl (by decide) (by decide)
    | some b76 =>
      have H78 := H75.2 b76 rfl
      refine z_iload_n 3 dX11_said_20 rfl ?_
      obtain ⟨oc106, w103, I104, P105, c106, H107⟩ := H78
      refine z_virt (As := [.ref b10, .ref b76, .int x3]) (st := []) (r1 := (some (.int w103))) (h1 := (g, I104, P105)) dX11_said_21 kX1_hears wm_X11_120 ⟨by decide, by decide⟩ rfl rfl (Nat.le_of_ble_eq_true rfl) (by decide) (by decide) oc106 c106 ?_
      refine z_if_ne (t := 30) dX11_said_24 (by decide) (fun q => ?_) (fun q => ?_)
      · have H108 := H107.1 q
        refine z_iload 4 dX11_said_30 rfl ?_
        by_cases q109 : x4 = 0
        · have H110 := H108.1 q109
          have eq109 : (x4 : Int32).toInt = 0 := by rw [q109]; decide
          refine z_lookup (off := 28) (t := 60) dX11_said_32 (by decide) (by rw [eq109]; decide) (by decide) ?_
          refine z_aload_n 0 dX11_said_60 rfl rfl ?_
          obtain ⟨oe113, b111, e113, H112⟩ := H110
          refine z_getP dX11_said_61 wf_X11_37 (by decide) (by decide) rfl oe113 (fun q => (by cases q.symm.trans e113)) (fun j q => ?_)
          cases q.symm.trans e113
          obtain ⟨oc115, w114, c115, H116⟩ := H112
          refine z_virt (As := []) (st := []) (r1 := (some (.int w114))) (h1 := (g, I104, P105)) dX11_said_64 kX1_heard wm_X11_124 ⟨by decide, by decide⟩ rfl rfl (Nat.le_of_ble_eq_true rfl) (by decide) (by decide) oc115 c115 ?_
          obtain ⟨rfl, rfl⟩ := H116
          exact z_iret dX11_said_67 rfl (by decide) (by decide)
        by_cases q117 : x4 = 1
        · have H118 := H108.2.1 q117
          have eq117 : (x4 : Int32).toInt = 1 := by rw [q117]; decide
          refine z_lookup (off := 36) (t := 68) dX11_said_32 (by decide) (by rw [eq117]; decide) (by decide) ?_
          refine z_aload_n 0 dX11_said_68 rfl rfl ?_
          obtain ⟨oe121, b119, e121, H120⟩ := H118
          refine z_getP dX11_said_69 wf_X11_37 (by decide) (by decide) rfl oe121 (fun q => (by cases q.symm.trans e121)) (fun j q => ?_)
          cases q.symm.trans e121
          obtain ⟨oc123, w122, c123, H124⟩ := H120
          refine z_virt (As := []) (st := []) (r1 := (some (.int w122))) (h1 := (g, I104, P105)) dX11_said_72 kX1_likely wm_X11_128 ⟨by decide, by decide⟩ rfl rfl (Nat.le_of_ble_eq_true rfl) (by decide) (by decide) oc123 c123 ?_
          obtain ⟨rfl, rfl⟩ := H124
          exact z_iret dX11_said_75 rfl (by decide) (by decide)
        have H125 := H108.2.2 q109 q117
        refine z_lookup (off := 44) (t := 76) dX11_said_32 (by decide) ((lv_osw q109 (by decide)).trans ((lv_osw q117 (by decide)).trans (rfl))) (by decide) ?_
        refine z_bipush (w := (-2)) dX11_said_76 (by decide) ?_
        obtain ⟨rfl, rfl⟩ := H125
        exact z_iret dX11_said_78 rfl (by decide) (by decide)
      · have H126 := H107.2 q
        refine z_bipush (w := (-2)) dX11_said_27 (by decide) ?_
        obtain ⟨rfl, rfl⟩ := H126
        exact z_iret dX11_said_29 rfl (by decide) (by decide)
theorem eX11_said {g : zG} {I : Nat → Nat → Int32} {P : Nat → Nat → Option Nat} {r : Option Value} {h' : zH} {a0 : Nat} {x1 : Int32} {x2 : Int32} {x3 : Int32} {x4 : Int32} (H : Zt none mX11_said 0 0 0 [(0, .ref a0), (1, .int x1), (2, .int x2), (3, .int x3), (4, .int x4)] [] (g, I, P) r h') : Cl mX11_said [.ref a0, .int x1, .int x2, .int x3, .int x4] (g, I, P) r h' := Cl.of (by decide) (Nat.le_of_ble_eq_true rfl) H
theorem dX11_odds_0 : decode cX11_odds 0 = .ok (.aload_n 0, 1) := by decide +kernel
theorem dX11_odds_1 : decode cX11_odds 1 = .ok (.getfield 10, 3) := by decide +kernel
theorem dX11_odds_4 : decode cX11_odds 4 = .ok (.iload_n 1, 1) := by decide +kernel
theorem dX11_odds_5 : decode cX11_odds 5 = .ok (.invokevirtual 87, 3) := by decide +kernel
theorem dX11_odds_8 : decode cX11_odds 8 = .ok (.astore 6, 2) := by decide +kernel
theorem dX11_odds_10 : decode cX11_odds 10 = .ok (.aload_n 0, 1) := by decide +kernel
theorem dX11_odds_11 : decode cX11_odds 11 = .ok (.getfield 37, 3) := by decide +kernel
theorem dX11_odds_14 : decode cX11_odds 14 = .ok (.aload 6, 2) := by decide +kernel
theorem dX11_odds_16 : decode cX11_odds 16 = .ok (.aload_n 0, 1) := by decide +kernel
theorem dX11_odds_17 : decode cX11_odds 17 = .ok (.getfield 10, 3) := by decide +kernel
theorem dX11_odds_20 : decode cX11_odds 20 = .ok (.iload_n 2, 1) := by decide +kernel
theorem dX11_odds_21 : decode cX11_odds 21 = .ok (.invokevirtual 113, 3) := by decide +kernel
theorem dX11_odds_24 : decode cX11_odds 24 = .ok (.iload_n 3, 1) := by decide +kernel
theorem dX11_odds_25 : decode cX11_odds 25 = .ok (.invokevirtual 120, 3) := by decide +kernel
theorem dX11_odds_28 : decode cX11_odds 28 = .ok (.ifCond .eq 18, 3) := by decide +kernel
theorem dX11_odds_31 : decode cX11_odds 31 = .ok (.aload 6, 2) := by decide +kernel
theorem dX11_odds_33 : decode cX11_odds 33 = .ok (.ifnull 13, 3) := by decide +kernel
theorem dX11_odds_36 : decode cX11_odds 36 = .ok (.aload 6, 2) := by decide +kernel
theorem dX11_odds_38 : decode cX11_odds 38 = .ok (.iload 4, 2) := by decide +kernel
theorem dX11_odds_40 : decode cX11_odds 40 = .ok (.invokevirtual 131, 3) := by decide +kernel
theorem dX11_odds_43 : decode cX11_odds 43 = .ok (.ifCond .ne 7, 3) := by decide +kernel
theorem dX11_odds_46 : decode cX11_odds 46 = .ok (.ldc2_w 135, 3) := by decide +kernel
theorem dX11_odds_49 : decode cX11_odds 49 = .ok (.lreturn, 1) := by decide +kernel
theorem dX11_odds_50 : decode cX11_odds 50 = .ok (.aload_n 0, 1) := by decide +kernel
theorem dX11_odds_51 : decode cX11_odds 51 = .ok (.getfield 37, 3) := by decide +kernel
theorem dX11_odds_54 : decode cX11_odds 54 = .ok (.invokevirtual 124, 3) := by decide +kernel
theorem dX11_odds_57 : decode cX11_odds 57 = .ok (.istore 7, 2) := by decide +kernel
theorem dX11_odds_59 : decode cX11_odds 59 = .ok (.iload 7, 2) := by decide +kernel
theorem dX11_odds_61 : decode cX11_odds 61 = .ok (.iload 4, 2) := by decide +kernel
theorem dX11_odds_63 : decode cX11_odds 63 = .ok (.invokestatic 137, 3) := by decide +kernel
theorem dX11_odds_66 : decode cX11_odds 66 = .ok (.ifCond .eq 14, 3) := by decide +kernel
theorem dX11_odds_69 : decode cX11_odds 69 = .ok (.aload 6, 2) := by decide +kernel
theorem dX11_odds_71 : decode cX11_odds 71 = .ok (.iload 4, 2) := by decide +kernel
theorem dX11_odds_73 : decode cX11_odds 73 = .ok (.invokevirtual 141, 3) := by decide +kernel
theorem dX11_odds_76 : decode cX11_odds 76 = .ok (.i2l, 1) := by decide +kernel
theorem dX11_odds_77 : decode cX11_odds 77 = .ok (.goto 4, 3) := by decide +kernel
theorem dX11_odds_80 : decode cX11_odds 80 = .ok (.lconst 0, 1) := by decide +kernel
theorem dX11_odds_81 : decode cX11_odds 81 = .ok (.aload 6, 2) := by decide +kernel
theorem dX11_odds_83 : decode cX11_odds 83 = .ok (.iload 7, 2) := by decide +kernel
theorem dX11_odds_85 : decode cX11_odds 85 = .ok (.invokevirtual 144, 3) := by decide +kernel
theorem dX11_odds_88 : decode cX11_odds 88 = .ok (.i2l, 1) := by decide +kernel
theorem dX11_odds_89 : decode cX11_odds 89 = .ok (.iload 5, 2) := by decide +kernel
theorem dX11_odds_91 : decode cX11_odds 91 = .ok (.invokestatic 147, 3) := by decide +kernel
theorem dX11_odds_94 : decode cX11_odds 94 = .ok (.lreturn, 1) := by decide +kernel
set_option maxRecDepth 10000 in
theorem wX11_odds_0 {g : zG} {I : Nat → Nat → Int32} {P : Nat → Nat → Option Nat} {r : Option Value} {h' : zH} {a0 : Nat} {x1 : Int32} {x2 : Int32} {x3 : Int32} {x4 : Int32} {x5 : Int32} (H : zk g a0 11 ∧ ∃ b1, P a0 0 = some b1 ∧ zk g b1 9 ∧ ∃ (w4 : Option Nat), Cl mX9_hillOf [.ref b1, .int x1] (g, I, P) (some (zov w4)) (g, I, P) ∧ ((w4 = none) → zk g a0 11 ∧ ∃ b10, P a0 4 = some b10 ∧ zk g a0 11 ∧ ∃ b13, P a0 0 = some b13 ∧ zk g b13 9 ∧ ∃ (w16 : Option Nat), Cl mX9_linesOf [.ref b13, .int x2] (g, I, P) (some (zov w16)) (g, I, P) ∧ ((w16 = none) → zk g b10 1 ∧ ∃ (w22 : Int32) (I23 : Nat → Nat → Int32) (P24 : Nat → Nat → Option Nat), Cl mX1_hears [.ref b10, .null, .null, .int x3] (g, I, P) (some (.int w22)) (g, I23, P24) ∧ ((w22 = 0) → r = some (.long (-1)) ∧ h' = (g, I23, P24)) ∧ ((¬ w22 = 0) → r = some (.long (-1)) ∧ h' = (g, I23, P24))) ∧ (∀ b19, w16 = some b19 → zk g b10 1 ∧ ∃ (w29 : Int32) (I30 : Nat → Nat → Int32) (P31 : Nat → Nat → Option Nat), Cl mX1_hears [.ref b10, .null, .ref b19, .int x3] (g, I, P) (some (.int w29)) (g, I30, P31) ∧ ((w29 = 0) → r = some (.long (-1)) ∧ h' = (g, I30, P31)) ∧ ((¬ w29 = 0) → r = some (.long (-1)) ∧ h' = (g, I30, P31)))) ∧ (∀ b7, w4 = some b7 → zk g a0 11 ∧ ∃ b36, P a0 4 = some b36 ∧ zk g a0 11 ∧ ∃ b39, P a0 0 = some b39 ∧ zk g b39 9 ∧ ∃ (w42 : Option Nat), Cl mX9_linesOf [.ref b39, .int x2] (g, I, P) (some (zov w42)) (g, I, P) ∧ ((w42 = none) → zk g b36 1 ∧ ∃ (w48 : Int32) (I49 : Nat → Nat → Int32) (P50 : Nat → Nat → Option Nat), Cl mX1_hears [.ref b36, .ref b7, .null, .int x3] (g, I, P) (some (.int w48)) (g, I49, P50) ∧ ((w48 = 0) → r = some (.long (-1)) ∧ h' = (g, I49, P50)) ∧ ((¬ w48 = 0) → zk g b7 3 ∧ ∃ (w55 : Int32), Cl mX3_hasWord [.ref b7, .int x4] (g, I49, P50) (some (.int w55)) (g, I49, P50) ∧ ((¬ w55 = 0) → zk g a0 11 ∧ ∃ b59, P50 a0 4 = some b59 ∧ zk g b59 1 ∧ ∃ (w62 : Int32), Cl mX1_heard [.ref b59] (g, I49, P50) (some (.int w62)) (g, I49, P50) ∧ ∃ (w65 : Int32), Cl mX11_has [.int w62, .int x4] (g, I49, P50) (some (.int w65)) (g, I49, P50) ∧ ((w65 = 0) → zk g b7 3 ∧ ∃ (w69 : Int32), Cl mX3_oftenOfAll [.ref b7, .int w62] (g, I49, P50) (some (.int w69)) (g, I49, P50) ∧ ∃ (w72 : Int64), Cl mX11_least [.long 0, .long w69.toInt64, .int x5] (g, I49, P50) (some (.long w72)) (g, I49, P50) ∧ r = some (.long w72) ∧ h' = (g, I49, P50)) ∧ ((¬ w65 = 0) → zk g b7 3 ∧ ∃ (w76 : Int32), Cl mX3_oftenOf [.ref b7, .int x4] (g, I49, P50) (some (.int w76)) (g, I49, P50) ∧ zk g b7 3 ∧ ∃ (w79 : Int32), Cl mX3_oftenOfAll [.ref b7, .int w62] (g, I49, P50) (some (.int w79)) (g, I49, P50) ∧ ∃ (w82 : Int64), Cl mX11_least [.long w76.toInt64, .long w79.toInt64, .int x5] (g, I49, P50) (some (.long w82)) (g, I49, P50) ∧ r = some (.long w82) ∧ h' = (g, I49, P50))) ∧ ((w55 = 0) → r = some (.long (-1)) ∧ h' = (g, I49, P50)))) ∧ (∀ b45, w42 = some b45 → zk g b36 1 ∧ ∃ (w86 : Int32) (I87 : Nat → Nat → Int32) (P88 : Nat → Nat → Option Nat), Cl mX1_hears [.ref b36, .ref b7, .ref b45, .int x3] (g, I, P) (some (.int w86)) (g, I87, P88) ∧ ((w86 = 0) → r = some (.long (-1)) ∧ h' = (g, I87, P88)) ∧ ((¬ w86 = 0) → zk g b7 3 ∧ ∃ (w93 : Int32), Cl mX3_hasWord [.ref b7, .int x4] (g, I87, P88) (some (.int w93)) (g, I87, P88) ∧ ((¬ w93 = 0) → zk g a0 11 ∧ ∃ b97, P88 a0 4 = some b97 ∧ zk g b97 1 ∧ ∃ (w100 : Int32), Cl mX1_heard [.ref b97] (g, I87, P88) (some (.int w100)) (g, I87, P88) ∧ ∃ (w103 : Int32), Cl mX11_has [.int w100, .int x4] (g, I87, P88) (some (.int w103)) (g, I87, P88) ∧ ((w103 = 0) → zk g b7 3 ∧ ∃ (w107 : Int32), Cl mX3_oftenOfAll [.ref b7, .int w100] (g, I87, P88) (some (.int w107)) (g, I87, P88) ∧ ∃ (w110 : Int64), Cl mX11_least [.long 0, .long w107.toInt64, .int x5] (g, I87, P88) (some (.long w110)) (g, I87, P88) ∧ r = some (.long w110) ∧ h' = (g, I87, P88)) ∧ ((¬ w103 = 0) → zk g b7 3 ∧ ∃ (w114 : Int32), Cl mX3_oftenOf [.ref b7, .int x4] (g, I87, P88) (some (.int w114)) (g, I87, P88) ∧ zk g b7 3 ∧ ∃ (w117 : Int32), Cl mX3_oftenOfAll [.ref b7, .int w100] (g, I87, P88) (some (.int w117)) (g, I87, P88) ∧ ∃ (w120 : Int64), Cl mX11_least [.long w114.toInt64, .long w117.toInt64, .int x5] (g, I87, P88) (some (.long w120)) (g, I87, P88) ∧ r = some (.long w120) ∧ h' = (g, I87, P88))) ∧ ((w93 = 0) → r = some (.long (-1)) ∧ h' = (g, I87, P88)))))) : Zt none mX11_odds 0 0 0 [(0, .ref a0), (1, .int x1), (2, .int x2), (3, .int x3), (4, .int x4), (5, .int x5)] [] (g, I, P) r h' := by
  refine z_aload_n 0 dX11_odds_0 rfl rfl ?_
  obtain ⟨oe3, b1, e3, H2⟩ := H
  refine z_getP dX11_odds_1 wf_X11_10 (by decide) (by decide) rfl oe3 (fun q => (by cases q.symm.trans e3)) (fun j q => ?_)
  cases q.symm.trans e3
  refine z_iload_n 1 dX11_odds_4 rfl ?_
  obtain ⟨oc5, w4, c5, H6⟩ := H2
  refine z_virt (As := [.int x1]) (st := []) (r1 := (some (zov w4))) (h1 := (g, I, P)) dX11_odds_5 kX9_hillOf wm_X11_87 ⟨by decide, by decide⟩ rfl rfl (Nat.le_of_ble_eq_true rfl) (by decide) (by decide) oc5 c5 ?_
  cases w4 with
  | none =>
    have H8 := H6.1 rfl
    refine z_astore (lv' := [(6, .null), (0, .ref a0), (1, .int x1), (2, .int x2), (3, .int x3), (4, .int x4), (5, .int x5)]) dX11_odds_8 (by decide) rfl rfl (z_aload_n 1 dX11_odds_10 rfl rfl ?_)
    obtain ⟨oe12, b10, e12, H11⟩ := H8
    refine z_getP dX11_odds_11 wf_X11_37 (by decide) (by decide) rfl oe12 (fun q => (by cases q.symm.trans e12)) (fun j q => ?_)
    cases q.symm.trans e12
    refine z_aload 0 dX11_odds_14 rfl rfl (z_aload_n 1 dX11_odds_16 rfl rfl ?_)
    obtain ⟨oe15, b13, e15, H14⟩ := H11
    refine z_getP dX11_odds_17 wf_X11_10 (by decide) (by decide) rfl oe15 (fun q => (by cases q.symm.trans e15)) (fun j q => ?_)
    cases q.symm.trans e15
    refine z_iload_n 3 dX11_odds_20 rfl ?_
    obtain ⟨oc17, w16, c17, H18⟩ := H14
    refine z_virt (As := [.int x2]) (st := [.null, .ref b10]) (r1 := (some (zov w16))) (h1 := (g, I, P)) dX11_odds_21 kX9_linesOf wm_X11_113 ⟨by decide, by decide⟩ rfl rfl (Nat.le_of_ble_eq_true rfl) (by decide) (by decide) oc17 c17 ?_
    cases w16 with
    | none =>
      have H20 := H18.1 rfl
      refine z_iload_n 4 dX11_odds_24 rfl ?_
      obtain ⟨oc25, w22, I23, P24, c25, H26⟩ := H20
      refine z_virt (As := [.null, .null, .int x3]) (st := []) (r1 := (some (.int w22))) (h1 := (g, I23, P24)) dX11_odds_25 kX1_hears wm_X11_120 ⟨by decide, by decide⟩ rfl rfl (Nat.le_of_ble_eq_true rfl) (by decide) (by decide) oc25 c25 ?_
      refine z_if_eq (t := 46) dX11_odds_28 (by decide) (fun q => ?_) (fun q => ?_)
      · have H27 := H26.1 q
        refine z_ldc2 dX11_odds_46 wk_X11_135 ?_
        obtain ⟨rfl, rfl⟩ := H27
        exact z_lret dX11_odds_49 rfl (by decide) (by decide)
      · have H28 := H26.2 q
        refine z_aload 0 dX11_odds_31 rfl rfl (z_ifnullN (t := 46) dX11_odds_33 (by decide) (z_ldc2 dX11_odds_46 wk_X11_135 ?_))
        obtain ⟨rfl, rfl⟩ := H28
        exact z_lret dX11_odds_49 rfl (by decide) (by decide)
    | some b19 =>
      have H21 := H18.2 b19 rfl
      refine z_iload_n 4 dX11_odds_24 rfl ?_
      obtain ⟨oc32, w29, I30, P31, c32, H33⟩ := H21
      refine z_virt (As := [.null, .ref b19, .int x3]) (st := []) (r1 := (some (.int w29))) (h1 := (g, I30, P31)) dX11_odds_25 kX1_hears wm_X11_120 ⟨by decide, by decide⟩ rfl rfl (Nat.le_of_ble_eq_true rfl) (by decide) (by decide) oc32 c32 ?_
      refine z_if_eq (t := 46) dX11_odds_28 (by decide) (fun q => ?_) (fun q => ?_)
      · have H34 := H33.1 q
        refine z_ldc2 dX11_odds_46 wk_X11_135 ?_
        obtain ⟨rfl, rfl⟩ := H34
        exact z_lret dX11_odds_49 rfl (by decide) (by decide)
      · have H35 := H33.2 q
        refine z_aload 0 dX11_odds_31 rfl rfl (z_ifnullN (t := 46) dX11_odds_33 (by decide) (z_ldc2 dX11_odds_46 wk_X11_135 ?_))
        obtain ⟨rfl, rfl⟩ := H35
        exact z_lret dX11_odds_49 rfl (by decide) (by decide)
  | some b7 =>
    have H9 := H6.2 b7 rfl
    refine z_astore (lv' := [(6, .ref b7), (0, .ref a0), (1, .int x1), (2, .int x2), (3, .int x3), (4, .int x4), (5, .int x5)]) dX11_odds_8 (by decide) rfl rfl (z_aload_n 1 dX11_odds_10 rfl rfl ?_)
    obtain ⟨oe38, b36, e38, H37⟩ := H9
    refine z_getP dX11_odds_11 wf_X11_37 (by decide) (by decide) rfl oe38 (fun q => (by cases q.symm.trans e38)) (fun j q => ?_)
    cases q.symm.trans e38
    refine z_aload 0 dX11_odds_14 rfl rfl (z_aload_n 1 dX11_odds_16 rfl rfl ?_)
    obtain ⟨oe41, b39, e41, H40⟩ := H37
    refine z_getP dX11_odds_17 wf_X11_10 (by decide) (by decide) rfl oe41 (fun q => (by cases q.symm.trans e41)) (fun j q => ?_)
    cases q.symm.trans e41
    refine z_iload_n 3 dX11_odds_20 rfl ?_
    obtain ⟨oc43, w42, c43, H44⟩ := H40
    refine z_virt (As := [.int x2]) (st := [.ref b7, .ref b36]) (r1 := (some (zov w42))) (h1 := (g, I, P)) dX11_odds_21 kX9_linesOf wm_X11_113 ⟨by decide, by decide⟩ rfl rfl (Nat.le_of_ble_eq_true rfl) (by decide) (by decide) oc43 c43 ?_
    cases w42 with
    | none =>
      have H46 := H44.1 rfl
      refine z_iload_n 4 dX11_odds_24 rfl ?_
      obtain ⟨oc51, w48, I49, P50, c51, H52⟩ := H46
      refine z_virt (As := [.ref b7, .null, .int x3]) (st := []) (r1 := (some (.int w48))) (h1 := (g, I49, P50)) dX11_odds_25 kX1_hears wm_X11_120 ⟨by decide, by decide⟩ rfl rfl (Nat.le_of_ble_eq_true rfl) (by decide) (by decide) oc51 c51 ?_
      refine z_if_eq (t := 46) dX11_odds_28 (by decide) (fun q => ?_) (fun q => ?_)
      · have H53 := H52.1 q
        refine z_ldc2 dX11_odds_46 wk_X11_135 ?_
        obtain ⟨rfl, rfl⟩ := H53
        exact z_lret dX11_odds_49 rfl (by decide) (by decide)
      · have H54 := H52.2 q
        refine z_aload 0 dX11_odds_31 rfl rfl (z_ifnullR dX11_odds_33 (z_aload 0 dX11_odds_36 rfl rfl (z_iload 5 dX11_odds_38 rfl ?_)))
        obtain ⟨oc56, w55, c56, H57⟩ := H54
        refine z_virt (As := [.int x4]) (st := []) (r1 := (some (.int w55))) (h1 := (g, I49, P50)) dX11_odds_40 kX3_hasWord wm_X11_131 ⟨by decide, by decide⟩ rfl rfl (Nat.le_of_ble_eq_true rfl) (by decide) (by decide) oc56 c56 ?_
        refine z_if_ne (t := 50) dX11_odds_43 (by decide) (fun q => ?_) (fun q => ?_)
        · have H58 := H57.1 q
          refine z_aload_n 1 dX11_odds_50 rfl rfl ?_
          obtain ⟨oe61, b59, e61, H60⟩ := H58
          refine z_getP dX11_odds_51 wf_X11_37 (by decide) (by decide) rfl oe61 (fun q => (by cases q.symm.trans e61)) (fun j q => ?_)
          cases q.symm.trans e61
          obtain ⟨oc63, w62, c63, H64⟩ := H60
          refine z_virt (As := []) (st := []) (r1 := (some (.int w62))) (h1 := (g, I49, P50)) dX11_odds_54 kX1_heard wm_X11_124 ⟨by decide, by decide⟩ rfl rfl (Nat.le_of_ble_eq_true rfl) (by decide) (by decide) oc63 c63 ?_
          refine z_istore (lv' := [(7, .int w62), (6, .ref b7), (0, .ref a0), (1, .int x1), (2, .int x2), (3, .int x3), (4, .int x4), (5, .int x5)]) dX11_odds_57 (by decide) rfl (z_iload 0 dX11_odds_59 rfl (z_iload 6 dX11_odds_61 rfl ?_))
          obtain ⟨w65, c66, H67⟩ := H64
          refine z_stat (As := [.int w62, .int x4]) (st := []) (r1 := (some (.int w65))) (h1 := (g, I49, P50)) dX11_odds_63 kX11_has wm_X11_137 ⟨by decide, by decide⟩ rfl rfl (Nat.le_of_ble_eq_true rfl) (by decide) (by decide) c66 ?_
          refine z_if_eq (t := 80) dX11_odds_66 (by decide) (fun q => ?_) (fun q => ?_)
          · have H68 := H67.1 q
            refine z_lconst (w := 0) dX11_odds_80 (by decide) (z_aload 1 dX11_odds_81 rfl rfl (z_iload 0 dX11_odds_83 rfl ?_))
            obtain ⟨oc70, w69, c70, H71⟩ := H68
            refine z_virt (As := [.int w62]) (st := [.long 0]) (r1 := (some (.int w69))) (h1 := (g, I49, P50)) dX11_odds_85 kX3_oftenOfAll wm_X11_144 ⟨by decide, by decide⟩ rfl rfl (Nat.le_of_ble_eq_true rfl) (by decide) (by decide) oc70 c70 ?_
            refine z_i2l dX11_odds_88 (z_iload 7 dX11_odds_89 rfl ?_)
            obtain ⟨w72, c73, H74⟩ := H71
            refine z_stat (As := [.long 0, .long w69.toInt64, .int x5]) (st := []) (r1 := (some (.long w72))) (h1 := (g, I49, P50)) dX11_odds_91 kX11_least wm_X11_147 ⟨by decide, by decide⟩ rfl rfl (Nat.le_of_ble_eq_true rfl) (by decide) (by decide) c73 ?_
            obtain ⟨rfl, rfl⟩ := H74
            exact z_lret dX11_odds_94 rfl (by decide) (by decide)
          · have H75 := H67.2 q
            refine z_aload 1 dX11_odds_69 rfl rfl (z_iload 6 dX11_odds_71 rfl ?_)
            obtain ⟨oc77, w76, c77, H78⟩ := H75
            refine z_virt (As := [.int x4]) (st := []) (r1 := (some (.int w76))) (h1 := (g, I49, P50)) dX11_odds_73 kX3_oftenOf wm_X11_141 ⟨by decide, by decide⟩ rfl rfl (Nat.le_of_ble_eq_true rfl) (by decide) (by decide) oc77 c77 ?_
            refine z_i2l dX11_odds_76 (z_goto (t := 81) dX11_odds_77 (by decide) (z_aload 1 dX11_odds_81 rfl rfl (z_iload 0 dX11_odds_83 rfl ?_)))
            obtain ⟨oc80, w79, c80, H81⟩ := H78
            refine z_virt (As := [.int w62]) (st := [.long w76.toInt64]) (r1 := (some (.int w79))) (h1 := (g, I49, P50)) dX11_odds_85 kX3_oftenOfAll wm_X11_144 ⟨by decide, by decide⟩ rfl rfl (Nat.le_of_ble_eq_true rfl) (by decide) (by decide) oc80 c80 ?_
            refine z_i2l dX11_odds_88 (z_iload 7 dX11_odds_89 rfl ?_)
            obtain ⟨w82, c83, H84⟩ := H81
            refine z_stat (As := [.long w76.toInt64, .long w79.toInt64, .int x5]) (st := []) (r1 := (some (.long w82))) (h1 := (g, I49, P50)) dX11_odds_91 kX11_least wm_X11_147 ⟨by decide, by decide⟩ rfl rfl (Nat.le_of_ble_eq_true rfl) (by decide) (by decide) c83 ?_
            obtain ⟨rfl, rfl⟩ := H84
            exact z_lret dX11_odds_94 rfl (by decide) (by decide)
        · have H85 := H57.2 q
          refine z_ldc2 dX11_odds_46 wk_X11_135 ?_
          obtain ⟨rfl, rfl⟩ := H85
          exact z_lret dX11_odds_49 rfl (by decide) (by decide)
    | some b45 =>
      have H47 := H44.2 b45 rfl
      refine z_iload_n 4 dX11_odds_24 rfl ?_
      obtain ⟨oc89, w86, I87, P88, c89, H90⟩ := H47
      refine z_virt (As := [.ref b7, .ref b45, .int x3]) (st := []) (r1 := (some (.int w86))) (h1 := (g, I87, P88)) dX11_odds_25 kX1_hears wm_X11_120 ⟨by decide, by decide⟩ rfl rfl (Nat.le_of_ble_eq_true rfl) (by decide) (by decide) oc89 c89 ?_
      refine z_if_eq (t := 46) dX11_odds_28 (by decide) (fun q => ?_) (fun q => ?_)
      · have H91 := H90.1 q
        refine z_ldc2 dX11_odds_46 wk_X11_135 ?_
        obtain ⟨rfl, rfl⟩ := H91
        exact z_lret dX11_odds_49 rfl (by decide) (by decide)
      · have H92 := H90.2 q
        refine z_aload 0 dX11_odds_31 rfl rfl (z_ifnullR dX11_odds_33 (z_aload 0 dX11_odds_36 rfl rfl (z_iload 5 dX11_odds_38 rfl ?_)))
        obtain ⟨oc94, w93, c94, H95⟩ := H92
        refine z_virt (As := [.int x4]) (st := []) (r1 := (some (.int w93))) (h1 := (g, I87, P88)) dX11_odds_40 kX3_hasWord wm_X11_131 ⟨by decide, by decide⟩ rfl rfl (Nat.le_of_ble_eq_true rfl) (by decide) (by decide) oc94 c94 ?_
        refine z_if_ne (t := 50) dX11_odds_43 (by decide) (fun q => ?_) (fun q => ?_)
        · have H96 := H95.1 q
          refine z_aload_n 1 dX11_odds_50 rfl rfl ?_
          obtain ⟨oe99, b97, e99, H98⟩ := H96
          refine z_getP dX11_odds_51 wf_X11_37 (by decide) (by decide) rfl oe99 (fun q => (by cases q.symm.trans e99)) (fun j q => ?_)
          cases q.symm.trans e99
          obtain ⟨oc101, w100, c101, H102⟩ := H98
          refine z_virt (As := []) (st := []) (r1 := (some (.int w100))) (h1 := (g, I87, P88)) dX11_odds_54 kX1_heard wm_X11_124 ⟨by decide, by decide⟩ rfl rfl (Nat.le_of_ble_eq_true rfl) (by decide) (by decide) oc101 c101 ?_
          refine z_istore (lv' := [(7, .int w100), (6, .ref b7), (0, .ref a0), (1, .int x1), (2, .int x2), (3, .int x3), (4, .int x4), (5, .int x5)]) dX11_odds_57 (by decide) rfl (z_iload 0 dX11_odds_59 rfl (z_iload 6 dX11_odds_61 rfl ?_))
          obtain ⟨w103, c104, H105⟩ := H102
          refine z_stat (As := [.int w100, .int x4]) (st := []) (r1 := (some (.int w103))) (h1 := (g, I87, P88)) dX11_odds_63 kX11_has wm_X11_137 ⟨by decide, by decide⟩ rfl rfl (Nat.le_of_ble_eq_true rfl) (by decide) (by decide) c104 ?_
          refine z_if_eq (t := 80) dX11_odds_66 (by decide) (fun q => ?_) (fun q => ?_)
          · have H106 := H105.1 q
            refine z_lconst (w := 0) dX11_odds_80 (by decide) (z_aload 1 dX11_odds_81 rfl rfl (z_iload 0 dX11_odds_83 rfl ?_))
            obtain ⟨oc108, w107, c108, H109⟩ := H106
            refine z_virt (As := [.int w100]) (st := [.long 0]) (r1 := (some (.int w107))) (h1 := (g, I87, P88)) dX11_odds_85 kX3_oftenOfAll wm_X11_144 ⟨by decide, by decide⟩ rfl rfl (Nat.le_of_ble_eq_true rfl) (by decide) (by decide) oc108 c108 ?_
            refine z_i2l dX11_odds_88 (z_iload 7 dX11_odds_89 rfl ?_)
            obtain ⟨w110, c111, H112⟩ := H109
            refine z_stat (As := [.long 0, .long w107.toInt64, .int x5]) (st := []) (r1 := (some (.long w110))) (h1 := (g, I87, P88)) dX11_odds_91 kX11_least wm_X11_147 ⟨by decide, by decide⟩ rfl rfl (Nat.le_of_ble_eq_true rfl) (by decide) (by decide) c111 ?_
            obtain ⟨rfl, rfl⟩ := H112
            exact z_lret dX11_odds_94 rfl (by decide) (by decide)
          · have H113 := H105.2 q
            refine z_aload 1 dX11_odds_69 rfl rfl (z_iload 6 dX11_odds_71 rfl ?_)
            obtain ⟨oc115, w114, c115, H116⟩ := H113
            refine z_virt (As := [.int x4]) (st := []) (r1 := (some (.int w114))) (h1 := (g, I87, P88)) dX11_odds_73 kX3_oftenOf wm_X11_141 ⟨by decide, by decide⟩ rfl rfl (Nat.le_of_ble_eq_true rfl) (by decide) (by decide) oc115 c115 ?_
            refine z_i2l dX11_odds_76 (z_goto (t := 81) dX11_odds_77 (by decide) (z_aload 1 dX11_odds_81 rfl rfl (z_iload 0 dX11_odds_83 rfl ?_)))
            obtain ⟨oc118, w117, c118, H119⟩ := H116
            refine z_virt (As := [.int w100]) (st := [.long w114.toInt64]) (r1 := (some (.int w117))) (h1 := (g, I87, P88)) dX11_odds_85 kX3_oftenOfAll wm_X11_144 ⟨by decide, by decide⟩ rfl rfl (Nat.le_of_ble_eq_true rfl) (by decide) (by decide) oc118 c118 ?_
            refine z_i2l dX11_odds_88 (z_iload 7 dX11_odds_89 rfl ?_)
            obtain ⟨w120, c121, H122⟩ := H119
            refine z_stat (As := [.long w114.toInt64, .long w117.toInt64, .int x5]) (st := []) (r1 := (some (.long w120))) (h1 := (g, I87, P88)) dX11_odds_91 kX11_least wm_X11_147 ⟨by decide, by decide⟩ rfl rfl (Nat.le_of_ble_eq_true rfl) (by decide) (by decide) c121 ?_
            obtain ⟨rfl, rfl⟩ := H122
            exact z_lret dX11_odds_94 rfl (by decide) (by decide)
        · have H123 := H95.2 q
          refine z_ldc2 dX11_odds_46 wk_X11_135 ?_
          obtain ⟨rfl, rfl⟩ := H123
          exact z_lret dX11_odds_49 rfl (by decide) (by decide)
theorem eX11_odds {g : zG} {I : Nat → Nat → Int32} {P : Nat → Nat → Option Nat} {r : Option Value} {h' : zH} {a0 : Nat} {x1 : Int32} {x2 : Int32} {x3 : Int32} {x4 : Int32} {x5 : Int32} (H : Zt none mX11_odds 0 0 0 [(0, .ref a0), (1, .int x1), (2, .int x2), (3, .int x3), (4, .int x4), (5, .int x5)] [] (g, I, P) r h') : Cl mX11_odds [.ref a0, .int x1, .int x2, .int x3, .int x4, .int x5] (g, I, P) r h' := Cl.of (by decide) (Nat.le_of_ble_eq_true rfl) H
theorem dX11_sure_0 : decode cX11_sure 0 = .ok (.aload_n 0, 1) := by decide +kernel
theorem dX11_sure_1 : decode cX11_sure 1 = .ok (.getfield 10, 3) := by decide +kernel
theorem dX11_sure_4 : decode cX11_sure 4 = .ok (.iload_n 1, 1) := by decide +kernel
theorem dX11_sure_5 : decode cX11_sure 5 = .ok (.invokevirtual 87, 3) := by decide +kernel
theorem dX11_sure_8 : decode cX11_sure 8 = .ok (.astore 5, 2) := by decide +kernel
theorem dX11_sure_10 : decode cX11_sure 10 = .ok (.aload_n 0, 1) := by decide +kernel
theorem dX11_sure_11 : decode cX11_sure 11 = .ok (.getfield 37, 3) := by decide +kernel
theorem dX11_sure_14 : decode cX11_sure 14 = .ok (.aload 5, 2) := by decide +kernel
theorem dX11_sure_16 : decode cX11_sure 16 = .ok (.aload_n 0, 1) := by decide +kernel
theorem dX11_sure_17 : decode cX11_sure 17 = .ok (.getfield 10, 3) := by decide +kernel
theorem dX11_sure_20 : decode cX11_sure 20 = .ok (.iload_n 2, 1) := by decide +kernel
theorem dX11_sure_21 : decode cX11_sure 21 = .ok (.invokevirtual 113, 3) := by decide +kernel
theorem dX11_sure_24 : decode cX11_sure 24 = .ok (.iload_n 3, 1) := by decide +kernel
theorem dX11_sure_25 : decode cX11_sure 25 = .ok (.invokevirtual 120, 3) := by decide +kernel
theorem dX11_sure_28 : decode cX11_sure 28 = .ok (.ifCond .eq 8, 3) := by decide +kernel
theorem dX11_sure_31 : decode cX11_sure 31 = .ok (.aload 5, 2) := by decide +kernel
theorem dX11_sure_33 : decode cX11_sure 33 = .ok (.ifnonnull 7, 3) := by decide +kernel
theorem dX11_sure_36 : decode cX11_sure 36 = .ok (.ldc2_w 135, 3) := by decide +kernel
theorem dX11_sure_39 : decode cX11_sure 39 = .ok (.lreturn, 1) := by decide +kernel
theorem dX11_sure_40 : decode cX11_sure 40 = .ok (.aload_n 0, 1) := by decide +kernel
theorem dX11_sure_41 : decode cX11_sure 41 = .ok (.getfield 37, 3) := by decide +kernel
theorem dX11_sure_44 : decode cX11_sure 44 = .ok (.invokevirtual 124, 3) := by decide +kernel
theorem dX11_sure_47 : decode cX11_sure 47 = .ok (.istore 6, 2) := by decide +kernel
theorem dX11_sure_49 : decode cX11_sure 49 = .ok (.aload 5, 2) := by decide +kernel
theorem dX11_sure_51 : decode cX11_sure 51 = .ok (.iload 6, 2) := by decide +kernel
theorem dX11_sure_53 : decode cX11_sure 53 = .ok (.aload_n 0, 1) := by decide +kernel
theorem dX11_sure_54 : decode cX11_sure 54 = .ok (.getfield 37, 3) := by decide +kernel
theorem dX11_sure_57 : decode cX11_sure 57 = .ok (.getfield 151, 3) := by decide +kernel
theorem dX11_sure_60 : decode cX11_sure 60 = .ok (.invokevirtual 152, 3) := by decide +kernel
theorem dX11_sure_63 : decode cX11_sure 63 = .ok (.i2l, 1) := by decide +kernel
theorem dX11_sure_64 : decode cX11_sure 64 = .ok (.aload 5, 2) := by decide +kernel
theorem dX11_sure_66 : decode cX11_sure 66 = .ok (.iload 6, 2) := by decide +kernel
theorem dX11_sure_68 : decode cX11_sure 68 = .ok (.invokevirtual 144, 3) := by decide +kernel
theorem dX11_sure_71 : decode cX11_sure 71 = .ok (.i2l, 1) := by decide +kernel
theorem dX11_sure_72 : decode cX11_sure 72 = .ok (.iload 4, 2) := by decide +kernel
theorem dX11_sure_74 : decode cX11_sure 74 = .ok (.invokestatic 147, 3) := by decide +kernel
theorem dX11_sure_77 : decode cX11_sure 77 = .ok (.lreturn, 1) := by decide +kernel
set_option maxRecDepth 10000 in
theorem wX11_sure_0 {g : zG} {I : Nat → Nat → Int32} {P : Nat → Nat → Option Nat} {r : Option Value} {h' : zH} {a0 : Nat} {x1 : Int32} {x2 : Int32} {x3 : Int32} {x4 : Int32} (H : zk g a0 11 ∧ ∃ b1, P a0 0 = some b1 ∧ zk g b1 9 ∧ ∃ (w4 : Option Nat), Cl mX9_hillOf [.ref b1, .int x1] (g, I, P) (some (zov w4)) (g, I, P) ∧ ((w4 = none) → zk g a0 11 ∧ ∃ b10, P a0 4 = some b10 ∧ zk g a0 11 ∧ ∃ b13, P a0 0 = some b13 ∧ zk g b13 9 ∧ ∃ (w16 : Option Nat), Cl mX9_linesOf [.ref b13, .int x2] (g, I, P) (some (zov w16)) (g, I, P) ∧ ((w16 = none) → zk g b10 1 ∧ ∃ (w22 : Int32) (I23 : Nat → Nat → Int32) (P24 : Nat → Nat → Option Nat), Cl mX1_hears [.ref b10, .null, .null, .int x3] (g, I, P) (some (.int w22)) (g, I23, P24) ∧ ((w22 = 0) → r = some (.long (-1)) ∧ h' = (g, I23, P24)) ∧ ((¬ w22 = 0) → r = some (.long (-1)) ∧ h' = (g, I23, P24))) ∧ (∀ b19, w16 = some b19 → zk g b10 1 ∧ ∃ (w29 : Int32) (I30 : Nat → Nat → Int32) (P31 : Nat → Nat → Option Nat), Cl mX1_hears [.ref b10, .null, .ref b19, .int x3] (g, I, P) (some (.int w29)) (g, I30, P31) ∧ ((w29 = 0) → r = some (.long (-1)) ∧ h' = (g, I30, P31)) ∧ ((¬ w29 = 0) → r = some (.long (-1)) ∧ h' = (g, I30, P31)))) ∧ (∀ b7, w4 = some b7 → zk g a0 11 ∧ ∃ b36, P a0 4 = some b36 ∧ zk g a0 11 ∧ ∃ b39, P a0 0 = some b39 ∧ zk g b39 9 ∧ ∃ (w42 : Option Nat), Cl mX9_linesOf [.ref b39, .int x2] (g, I, P) (some (zov w42)) (g, I, P) ∧ ((w42 = none) → zk g b36 1 ∧ ∃ (w48 : Int32) (I49 : Nat → Nat → Int32) (P50 : Nat → Nat → Option Nat), Cl mX1_hears [.ref b36, .ref b7, .null, .int x3] (g, I, P) (some (.int w48)) (g, I49, P50) ∧ ((w48 = 0) → r = some (.long (-1)) ∧ h' = (g, I49, P50)) ∧ ((¬ w48 = 0) → zk g a0 11 ∧ ∃ b55, P50 a0 4 = some b55 ∧ zk g b55 1 ∧ ∃ (w58 : Int32), Cl mX1_heard [.ref b55] (g, I49, P50) (some (.int w58)) (g, I49, P50) ∧ zk g a0 11 ∧ ∃ b61, P50 a0 4 = some b61 ∧ zk g b61 1 ∧ zk g b7 3 ∧ ∃ (w64 : Int32), Cl mX3_lettersTillSure [.ref b7, .int w58, .int (I49 b61 1)] (g, I49, P50) (some (.int w64)) (g, I49, P50) ∧ zk g b7 3 ∧ ∃ (w67 : Int32), Cl mX3_oftenOfAll [.ref b7, .int w58] (g, I49, P50) (some (.int w67)) (g, I49, P50) ∧ ∃ (w70 : Int64), Cl mX11_least [.long w64.toInt64, .long w67.toInt64, .int x4] (g, I49, P50) (some (.long w70)) (g, I49, P50) ∧ r = some (.long w70) ∧ h' = (g, I49, P50))) ∧ (∀ b45, w42 = some b45 → zk g b36 1 ∧ ∃ (w73 : Int32) (I74 : Nat → Nat → Int32) (P75 : Nat → Nat → Option Nat), Cl mX1_hears [.ref b36, .ref b7, .ref b45, .int x3] (g, I, P) (some (.int w73)) (g, I74, P75) ∧ ((w73 = 0) → r = some (.long (-1)) ∧ h' = (g, I74, P75)) ∧ ((¬ w73 = 0) → zk g a0 11 ∧ ∃ b80, P75 a0 4 = some b80 ∧ zk g b80 1 ∧ ∃ (w83 : Int32), Cl mX1_heard [.ref b80] (g, I74, P75) (some (.int w83)) (g, I74, P75) ∧ zk g a0 11 ∧ ∃ b86, P75 a0 4 = some b86 ∧ zk g b86 1 ∧ zk g b7 3 ∧ ∃ (w89 : Int32), Cl mX3_lettersTillSure [.ref b7, .int w83, .int (I74 b86 1)] (g, I74, P75) (some (.int w89)) (g, I74, P75) ∧ zk g b7 3 ∧ ∃ (w92 : Int32), Cl mX3_oftenOfAll [.ref b7, .int w83] (g, I74, P75) (some (.int w92)) (g, I74, P75) ∧ ∃ (w95 : Int64), Cl mX11_least [.long w89.toInt64, .long w92.toInt64, .int x4] (g, I74, P75) (some (.long w95)) (g, I74, P75) ∧ r = some (.long w95) ∧ h' = (g, I74, P75))))) : Zt none mX11_sure 0 0 0 [(0, .ref a0), (1, .int x1), (2, .int x2), (3, .int x3), (4, .int x4)] [] (g, I, P) r h' := by
  refine z_aload_n 0 dX11_sure_0 rfl rfl ?_
  obtain ⟨oe3, b1, e3, H2⟩ := H
  refine z_getP dX11_sure_1 wf_X11_10 (by decide) (by decide) rfl oe3 (fun q => (by cases q.symm.trans e3)) (fun j q => ?_)
  cases q.symm.trans e3
  refine z_iload_n 1 dX11_sure_4 rfl ?_
  obtain ⟨oc5, w4, c5, H6⟩ := H2
  refine z_virt (As := [.int x1]) (st := []) (r1 := (some (zov w4))) (h1 := (g, I, P)) dX11_sure_5 kX9_hillOf wm_X11_87 ⟨by decide, by decide⟩ rfl rfl (Nat.le_of_ble_eq_true rfl) (by decide) (by decide) oc5 c5 ?_
  cases w4 with
  | none =>
    have H8 := H6.1 rfl
    refine z_astore (lv' := [(5, .null), (0, .ref a0), (1, .int x1), (2, .int x2), (3, .int x3), (4, .int x4)]) dX11_sure_8 (by decide) rfl rfl (z_aload_n 1 dX11_sure_10 rfl rfl ?_)
    obtain ⟨oe12, b10, e12, H11⟩ := H8
    refine z_getP dX11_sure_11 wf_X11_37 (by decide) (by decide) rfl oe12 (fun q => (by cases q.symm.trans e12)) (fun j q => ?_)
    cases q.symm.trans e12
    refine z_aload 0 dX11_sure_14 rfl rfl (z_aload_n 1 dX11_sure_16 rfl rfl ?_)
    obtain ⟨oe15, b13, e15, H14⟩ := H11
    refine z_getP dX11_sure_17 wf_X11_10 (by decide) (by decide) rfl oe15 (fun q => (by cases q.symm.trans e15)) (fun j q => ?_)
    cases q.symm.trans e15
    refine z_iload_n 3 dX11_sure_20 rfl ?_
    obtain ⟨oc17, w16, c17, H18⟩ := H14
    refine z_virt (As := [.int x2]) (st := [.null, .ref b10]) (r1 := (some (zov w16))) (h1 := (g, I, P)) dX11_sure_21 kX9_linesOf wm_X11_113 ⟨by decide, by decide⟩ rfl rfl (Nat.le_of_ble_eq_true rfl) (by decide) (by decide) oc17 c17 ?_
    cases w16 with
    | none =>
      have H20 := H18.1 rfl
      refine z_iload_n 4 dX11_sure_24 rfl ?_
      obtain ⟨oc25, w22, I23, P24, c25, H26⟩ := H20
      refine z_virt (As := [.null, .null, .int x3]) (st := []) (r1 := (some (.int w22))) (h1 := (g, I23, P24)) dX11_sure_25 kX1_hears wm_X11_120 ⟨by decide, by decide⟩ rfl rfl (Nat.le_of_ble_eq_true rfl) (by decide) (by decide) oc25 c25 ?_
      refine z_if_eq (t := 36) dX11_sure_28 (by decide) (fun q => ?_) (fun q => ?_)
      · have H27 := H26.1 q
        refine z_ldc2 dX11_sure_36 wk_X11_135 ?_
        obtain ⟨rfl, rfl⟩ := H27
        exact z_lret dX11_sure_39 rfl (by decide) (by decide)
      · have H28 := H26.2 q
        refine z_aload 0 dX11_sure_31 rfl rfl (z_ifnonnullN dX11_sure_33 (z_ldc2 dX11_sure_36 wk_X11_135 ?_))
        obtain ⟨rfl, rfl⟩ := H28
        exact z_lret dX11_sure_39 rfl (by decide) (by decide)
    | some b19 =>
      have H21 := H18.2 b19 rfl
      refine z_iload_n 4 dX11_sure_24 rfl ?_
      obtain ⟨oc32, w29, I30, P31, c32, H33⟩ := H21
      refine z_virt (As := [.null, .ref b19, .int x3]) (st := []) (r1 := (some (.int w29))) (h1 := (g, I30, P31)) dX11_sure_25 kX1_hears wm_X11_120 ⟨by decide, by decide⟩ rfl rfl (Nat.le_of_ble_eq_true rfl) (by decide) (by decide) oc32 c32 ?_
      refine z_if_eq (t := 36) dX11_sure_28 (by decide) (fun q => ?_) (fun q => ?_)
      · have H34 := H33.1 q
        refine z_ldc2 dX11_sure_36 wk_X11_135 ?_
        obtain ⟨rfl, rfl⟩ := H34
        exact z_lret dX11_sure_39 rfl (by decide) (by decide)
      · have H35 := H33.2 q
        refine z_aload 0 dX11_sure_31 rfl rfl (z_ifnonnullN dX11_sure_33 (z_ldc2 dX11_sure_36 wk_X11_135 ?_))
        obtain ⟨rfl, rfl⟩ := H35
        exact z_lret dX11_sure_39 rfl (by decide) (by decide)
  | some b7 =>
    have H9 := H6.2 b7 rfl
    refine z_astore (lv' := [(5, .ref b7), (0, .ref a0), (1, .int x1), (2, .int x2), (3, .int x3), (4, .int x4)]) dX11_sure_8 (by decide) rfl rfl (z_aload_n 1 dX11_sure_10 rfl rfl ?_)
    obtain ⟨oe38, b36, e38, H37⟩ := H9
    refine z_getP dX11_sure_11 wf_X11_37 (by decide) (by decide) rfl oe38 (fun q => (by cases q.symm.trans e38)) (fun j q => ?_)
    cases q.symm.trans e38
    refine z_aload 0 dX11_sure_14 rfl rfl (z_aload_n 1 dX11_sure_16 rfl rfl ?_)
    obtain ⟨oe41, b39, e41, H40⟩ := H37
    refine z_getP dX11_sure_17 wf_X11_10 (by decide) (by decide) rfl oe41 (fun q => (by cases q.symm.trans e41)) (fun j q => ?_)
    cases q.symm.trans e41
    refine z_iload_n 3 dX11_sure_20 rfl ?_
    obtain ⟨oc43, w42, c43, H44⟩ := H40
    refine z_virt (As := [.int x2]) (st := [.ref b7, .ref b36]) (r1 := (some (zov w42))) (h1 := (g, I, P)) dX11_sure_21 kX9_linesOf wm_X11_113 ⟨by decide, by decide⟩ rfl rfl (Nat.le_of_ble_eq_true rfl) (by decide) (by decide) oc43 c43 ?_
    cases w42 with
    | none =>
      have H46 := H44.1 rfl
      refine z_iload_n 4 dX11_sure_24 rfl ?_
      obtain ⟨oc51, w48, I49, P50, c51, H52⟩ := H46
      refine z_virt (As := [.ref b7, .null, .int x3]) (st := []) (r1 := (some (.int w48))) (h1 := (g, I49, P50)) dX11_sure_25 kX1_hears wm_X11_120 ⟨by decide, by decide⟩ rfl rfl (Nat.le_of_ble_eq_true rfl) (by decide) (by decide) oc51 c51 ?_
      refine z_if_eq (t := 36) dX11_sure_28 (by decide) (fun q => ?_) (fun q => ?_)
      · have H53 := H52.1 q
        refine z_ldc2 dX11_sure_36 wk_X11_135 ?_
        obtain ⟨rfl, rfl⟩ := H53
        exact z_lret dX11_sure_39 rfl (by decide) (by decide)
      · have H54 := H52.2 q
        refine z_aload 0 dX11_sure_31 rfl rfl (z_ifnonnullR (t := 40) dX11_sure_33 (by decide) (z_aload_n 1 dX11_sure_40 rfl rfl ?_))
        obtain ⟨oe57, b55, e57, H56⟩ := H54
        refine z_getP dX11_sure_41 wf_X11_37 (by decide) (by decide) rfl oe57 (fun q => (by cases q.symm.trans e57)) (fun j q => ?_)
        cases q.symm.trans e57
        obtain ⟨oc59, w58, c59, H60⟩ := H56
        refine z_virt (As := []) (st := []) (r1 := (some (.int w58))) (h1 := (g, I49, P50)) dX11_sure_44 kX1_heard wm_X11_124 ⟨by decide, by decide⟩ rfl rfl (Nat.le_of_ble_eq_true rfl) (by decide) (by decide) oc59 c59 ?_
        refine z_istore (lv' := [(6, .int w58), (5, .ref b7), (0, .ref a0), (1, .int x1), (2, .int x2), (3, .int x3), (4, .int x4)]) dX11_sure_47 (by decide) rfl (z_aload 1 dX11_sure_49 rfl rfl (z_iload 0 dX11_sure_51 rfl (z_aload_n 2 dX11_sure_53 rfl rfl ?_)))
        obtain ⟨oe63, b61, e63, H62⟩ := H60
        refine z_getP dX11_sure_54 wf_X11_37 (by decide) (by decide) rfl oe63 (fun q => (by cases q.symm.trans e63)) (fun j q => ?_)
        cases q.symm.trans e63
        refine z_getI dX11_sure_57 wf_X11_151 (by decide) (by decide) rfl H62.1 ?_
        obtain ⟨oc65, w64, c65, H66⟩ := H62.2
        refine z_virt (As := [.int w58, .int (I49 b61 1)]) (st := []) (r1 := (some (.int w64))) (h1 := (g, I49, P50)) dX11_sure_60 kX3_lettersTillSure wm_X11_152 ⟨by decide, by decide⟩ rfl rfl (Nat.le_of_ble_eq_true rfl) (by decide) (by decide) oc65 c65 ?_
        refine z_i2l dX11_sure_63 (z_aload 1 dX11_sure_64 rfl rfl (z_iload 0 dX11_sure_66 rfl ?_))
        obtain ⟨oc68, w67, c68, H69⟩ := H66
        refine z_virt (As := [.int w58]) (st := [.long w64.toInt64]) (r1 := (some (.int w67))) (h1 := (g, I49, P50)) dX11_sure_68 kX3_oftenOfAll wm_X11_144 ⟨by decide, by decide⟩ rfl rfl (Nat.le_of_ble_eq_true rfl) (by decide) (by decide) oc68 c68 ?_
        refine z_i2l dX11_sure_71 (z_iload 6 dX11_sure_72 rfl ?_)
        obtain ⟨w70, c71, H72⟩ := H69
        refine z_stat (As := [.long w64.toInt64, .long w67.toInt64, .int x4]) (st := []) (r1 := (some (.long w70))) (h1 := (g, I49, P50)) dX11_sure_74 kX11_least wm_X11_147 ⟨by decide, by decide⟩ rfl rfl (Nat.le_of_ble_eq_true rfl) (by decide) (by decide) c71 ?_
        obtain ⟨rfl, rfl⟩ := H72
        exact z_lret dX11_sure_77 rfl (by decide) (by decide)
    | some b45 =>
      have H47 := H44.2 b45 rfl
      refine z_iload_n 4 dX11_sure_24 rfl ?_
      obtain ⟨oc76, w73, I74, P75, c76, H77⟩ := H47
      refine z_virt (As := [.ref b7, .ref b45, .int x3]) (st := []) (r1 := (some (.int w73))) (h1 := (g, I74, P75)) dX11_sure_25 kX1_hears wm_X11_120 ⟨by decide, by decide⟩ rfl rfl (Nat.le_of_ble_eq_true rfl) (by decide) (by decide) oc76 c76 ?_
      refine z_if_eq (t := 36) dX11_sure_28 (by decide) (fun q => ?_) (fun q => ?_)
      · have H78 := H77.1 q
        refine z_ldc2 dX11_sure_36 wk_X11_135 ?_
        obtain ⟨rfl, rfl⟩ := H78
        exact z_lret dX11_sure_39 rfl (by decide) (by decide)
      · have H79 := H77.2 q
        refine z_aload 0 dX11_sure_31 rfl rfl (z_ifnonnullR (t := 40) dX11_sure_33 (by decide) (z_aload_n 1 dX11_sure_40 rfl rfl ?_))
        obtain ⟨oe82, b80, e82, H81⟩ := H79
        refine z_getP dX11_sure_41 wf_X11_37 (by decide) (by decide) rfl oe82 (fun q => (by cases q.symm.trans e82)) (fun j q => ?_)
        cases q.symm.trans e82
        obtain ⟨oc84, w83, c84, H85⟩ := H81
        refine z_virt (As := []) (st := []) (r1 := (some (.int w83))) (h1 := (g, I74, P75)) dX11_sure_44 kX1_heard wm_X11_124 ⟨by decide, by decide⟩ rfl rfl (Nat.le_of_ble_eq_true rfl) (by decide) (by decide) oc84 c84 ?_
        refine z_istore (lv' := [(6, .int w83), (5, .ref b7), (0, .ref a0), (1, .int x1), (2, .int x2), (3, .int x3), (4, .int x4)]) dX11_sure_47 (by decide) rfl (z_aload 1 dX11_sure_49 rfl rfl (z_iload 0 dX11_sure_51 rfl (z_aload_n 2 dX11_sure_53 rfl rfl ?_)))
        obtain ⟨oe88, b86, e88, H87⟩ := H85
        refine z_getP dX11_sure_54 wf_X11_37 (by decide) (by decide) rfl oe88 (fun q => (by cases q.symm.trans e88)) (fun j q => ?_)
        cases q.symm.trans e88
        refine z_getI dX11_sure_57 wf_X11_151 (by decide) (by decide) rfl H87.1 ?_
        obtain ⟨oc90, w89, c90, H91⟩ := H87.2
        refine z_virt (As := [.int w83, .int (I74 b86 1)]) (st := []) (r1 := (some (.int w89))) (h1 := (g, I74, P75)) dX11_sure_60 kX3_lettersTillSure wm_X11_152 ⟨by decide, by decide⟩ rfl rfl (Nat.le_of_ble_eq_true rfl) (by decide) (by decide) oc90 c90 ?_
        refine z_i2l dX11_sure_63 (z_aload 1 dX11_sure_64 rfl rfl (z_iload 0 dX11_sure_66 rfl ?_))
        obtain ⟨oc93, w92, c93, H94⟩ := H91
        refine z_virt (As := [.int w83]) (st := [.long w89.toInt64]) (r1 := (some (.int w92))) (h1 := (g, I74, P75)) dX11_sure_68 kX3_oftenOfAll wm_X11_144 ⟨by decide, by decide⟩ rfl rfl (Nat.le_of_ble_eq_true rfl) (by decide) (by decide) oc93 c93 ?_
        refine z_i2l dX11_sure_71 (z_iload 6 dX11_sure_72 rfl ?_)
        obtain ⟨w95, c96, H97⟩ := H94
        refine z_stat (As := [.long w89.toInt64, .long w92.toInt64, .int x4]) (st := []) (r1 := (some (.long w95))) (h1 := (g, I74, P75)) dX11_sure_74 kX11_least wm_X11_147 ⟨by decide, by decide⟩ rfl rfl (Nat.le_of_ble_eq_true rfl) (by decide) (by decide) c96 ?_
        obtain ⟨rfl, rfl⟩ := H97
        exact z_lret dX11_sure_77 rfl (by decide) (by decide)
theorem eX11_sure {g : zG} {I : Nat → Nat → Int32} {P : Nat → Nat → Option Nat} {r : Option Value} {h' : zH} {a0 : Nat} {x1 : Int32} {x2 : Int32} {x3 : Int32} {x4 : Int32} (H : Zt none mX11_sure 0 0 0 [(0, .ref a0), (1, .int x1), (2, .int x2), (3, .int x3), (4, .int x4)] [] (g, I, P) r h') : Cl mX11_sure [.ref a0, .int x1, .int x2, .int x3, .int x4] (g, I, P) r h' := Cl.of (by decide) (Nat.le_of_ble_eq_true rfl) H
theorem dX11_reading_0 : decode cX11_reading 0 = .ok (.aload_n 0, 1) := by decide +kernel
theorem dX11_reading_1 : decode cX11_reading 1 = .ok (.getfield 37, 3) := by decide +kernel
theorem dX11_reading_4 : decode cX11_reading 4 = .ok (.aload_n 0, 1) := by decide +kernel
theorem dX11_reading_5 : decode cX11_reading 5 = .ok (.getfield 10, 3) := by decide +kernel
theorem dX11_reading_8 : decode cX11_reading 8 = .ok (.iload_n 1, 1) := by decide +kernel
theorem dX11_reading_9 : decode cX11_reading 9 = .ok (.invokevirtual 87, 3) := by decide +kernel
theorem dX11_reading_12 : decode cX11_reading 12 = .ok (.aload_n 0, 1) := by decide +kernel
theorem dX11_reading_13 : decode cX11_reading 13 = .ok (.getfield 10, 3) := by decide +kernel
theorem dX11_reading_16 : decode cX11_reading 16 = .ok (.iload_n 2, 1) := by decide +kernel
theorem dX11_reading_17 : decode cX11_reading 17 = .ok (.invokevirtual 113, 3) := by decide +kernel
theorem dX11_reading_20 : decode cX11_reading 20 = .ok (.iload_n 3, 1) := by decide +kernel
theorem dX11_reading_21 : decode cX11_reading 21 = .ok (.invokevirtual 120, 3) := by decide +kernel
theorem dX11_reading_24 : decode cX11_reading 24 = .ok (.ifCond .ne 5, 3) := by decide +kernel
theorem dX11_reading_27 : decode cX11_reading 27 = .ok (.iconst (-1), 1) := by decide +kernel
theorem dX11_reading_28 : decode cX11_reading 28 = .ok (.ireturn, 1) := by decide +kernel
theorem dX11_reading_29 : decode cX11_reading 29 = .ok (.iload 4, 2) := by decide +kernel
theorem dX11_reading_31 : decode cX11_reading 31 = .ok (.iconst (-1), 1) := by decide +kernel
theorem dX11_reading_32 : decode cX11_reading 32 = .ok (.if_icmp .ne 13, 3) := by decide +kernel
theorem dX11_reading_35 : decode cX11_reading 35 = .ok (.aload_n 0, 1) := by decide +kernel
theorem dX11_reading_36 : decode cX11_reading 36 = .ok (.getfield 37, 3) := by decide +kernel
theorem dX11_reading_39 : decode cX11_reading 39 = .ok (.invokevirtual 155, 3) := by decide +kernel
theorem dX11_reading_42 : decode cX11_reading 42 = .ok (.goto 12, 3) := by decide +kernel
theorem dX11_reading_45 : decode cX11_reading 45 = .ok (.aload_n 0, 1) := by decide +kernel
theorem dX11_reading_46 : decode cX11_reading 46 = .ok (.getfield 37, 3) := by decide +kernel
theorem dX11_reading_49 : decode cX11_reading 49 = .ok (.iload 4, 2) := by decide +kernel
theorem dX11_reading_51 : decode cX11_reading 51 = .ok (.invokevirtual 158, 3) := by decide +kernel
theorem dX11_reading_54 : decode cX11_reading 54 = .ok (.ireturn, 1) := by decide +kernel
set_option maxRecDepth 10000 in
theorem wX11_reading_0 {g : zG} {I : Nat → Nat → Int32} {P : Nat → Nat → Option Nat} {r : Option Value} {h' : zH} {a0 : Nat} {x1 : Int32} {x2 : Int32} {x3 : Int32} {x4 : Int32} (H : zk g a0 11 ∧ ∃ b1, P a0 4 = some b1 ∧ zk g a0 11 ∧ ∃ b4, P a0 0 = some b4 ∧ zk g b4 9 ∧ ∃ (w7 : Option Nat), Cl mX9_hillOf [.ref b4, .int x1] (g, I, P) (some (zov w7)) (g, I, P) ∧ ((w7 = none) → zk g a0 11 ∧ ∃ b13, P a0 0 = some b13 ∧ zk g b13 9 ∧ ∃ (w16 : Option Nat), Cl mX9_linesOf [.ref b13, .int x2] (g, I, P) (some (zov w16)) (g, I, P) ∧ ((w16 = none) → zk g b1 1 ∧ ∃ (w22 : Int32) (I23 : Nat → Nat → Int32) (P24 : Nat → Nat → Option Nat), Cl mX1_hears [.ref b1, .null, .null, .int x3] (g, I, P) (some (.int w22)) (g, I23, P24) ∧ ((¬ w22 = 0) → ((¬ x4 = (-1)) → zk g a0 11 ∧ ∃ b29, P24 a0 4 = some b29 ∧ zk g b29 1 ∧ ∃ (w32 : Int32) (I33 : Nat → Nat → Int32), Cl mX1_wordOfFirstReading [.ref b29, .int x4] (g, I23, P24) (some (.int w32)) (g, I33, P24) ∧ r = some (.int w32) ∧ h' = (g, I33, P24)) ∧ ((x4 = (-1)) → zk g a0 11 ∧ ∃ b37, P24 a0 4 = some b37 ∧ zk g b37 1 ∧ ∃ (w40 : Int32) (I41 : Nat → Nat → Int32), Cl mX1_readings [.ref b37] (g, I23, P24) (some (.int w40)) (g, I41, P24) ∧ r = some (.int w40) ∧ h' = (g, I41, P24))) ∧ ((w22 = 0) → r = some (.int (-1)) ∧ h' = (g, I23, P24))) ∧ (∀ b19, w16 = some b19 → zk g b1 1 ∧ ∃ (w45 : Int32) (I46 : Nat → Nat → Int32) (P47 : Nat → Nat → Option Nat), Cl mX1_hears [.ref b1, .null, .ref b19, .int x3] (g, I, P) (some (.int w45)) (g, I46, P47) ∧ ((¬ w45 = 0) → ((¬ x4 = (-1)) → zk g a0 11 ∧ ∃ b52, P47 a0 4 = some b52 ∧ zk g b52 1 ∧ ∃ (w55 : Int32) (I56 : Nat → Nat → Int32), Cl mX1_wordOfFirstReading [.ref b52, .int x4] (g, I46, P47) (some (.int w55)) (g, I56, P47) ∧ r = some (.int w55) ∧ h' = (g, I56, P47)) ∧ ((x4 = (-1)) → zk g a0 11 ∧ ∃ b60, P47 a0 4 = some b60 ∧ zk g b60 1 ∧ ∃ (w63 : Int32) (I64 : Nat → Nat → Int32), Cl mX1_readings [.ref b60] (g, I46, P47) (some (.int w63)) (g, I64, P47) ∧ r = some (.int w63) ∧ h' = (g, I64, P47))) ∧ ((w45 = 0) → r = some (.int (-1)) ∧ h' = (g, I46, P47)))) ∧ (∀ b10, w7 = some b10 → zk g a0 11 ∧ ∃ b68, P a0 0 = some b68 ∧ zk g b68 9 ∧ ∃ (w71 : Option Nat), Cl mX9_linesOf [.ref b68, .int x2] (g, I, P) (some (zov w71)) (g, I, P) ∧ ((w71 = none) → zk g b1 1 ∧ ∃ (w77 : Int32) (I78 : Nat → Nat → Int32) (P79 : Nat → Nat → Option Nat), Cl mX1_hears [.ref b1, .ref b10, .null, .int x3] (g, I, P) (some (.int w77)) (g, I78, P79) ∧ ((¬ w77 = 0) → ((¬ x4 = (-1)) → zk g a0 11 ∧ ∃ b84, P79 a0 4 = some b84 ∧ zk g b84 1 ∧ ∃ (w87 : Int32) (I88 : Nat → Nat → Int32), Cl mX1_wordOfFirstReading [.ref b84, .int x4] (g, I78, P79) (some (.int w87)) (g, I88, P79) ∧ r = some (.int w87) ∧ h' = (g, I88, P79)) ∧ ((x4 = (-1)) → zk g a0 11 ∧ ∃ b92, P79 a0 4 = some b92 ∧ zk g b92 1 ∧ ∃ (w95 : Int32) (I96 : Nat → Nat → Int32), Cl mX1_readings [.ref b92] (g, I78, P79) (some (.int w95)) (g, I96, P79) ∧ r = some (.int w95) ∧ h' = (g, I96, P79))) ∧ ((w77 = 0) → r = some (.int (-1)) ∧ h' = (g, I78, P79))) ∧ (∀ b74, w71 = some b74 → zk g b1 1 ∧ ∃ (w100 : Int32) (I101 : Nat → Nat → Int32) (P102 : Nat → Nat → Option Nat), Cl mX1_hears [.ref b1, .ref b10, .ref b74, .int x3] (g, I, P) (some (.int w100)) (g, I101, P102) ∧ ((¬ w100 = 0) → ((¬ x4 = (-1)) → zk g a0 11 ∧ ∃ b107, P102 a0 4 = some b107 ∧ zk g b107 1 ∧ ∃ (w110 : Int32) (I111 : Nat → Nat → Int32), Cl mX1_wordOfFirstReading [.ref b107, .int x4] (g, I101, P102) (some (.int w110)) (g, I111, P102) ∧ r = some (.int w110) ∧ h' = (g, I111, P102)) ∧ ((x4 = (-1)) → zk g a0 11 ∧ ∃ b115, P102 a0 4 = some b115 ∧ zk g b115 1 ∧ ∃ (w118 : Int32) (I119 : Nat → Nat → Int32), Cl mX1_readings [.ref b115] (g, I101, P102) (some (.int w118)) (g, I119, P102) ∧ r = some (.int w118) ∧ h' = (g, I119, P102))) ∧ ((w100 = 0) → r = some (.int (-1)) ∧ h' = (g, I101, P102))))) : Zt none mX11_reading 0 0 0 [(0, .ref a0), (1, .int x1), (2, .int x2), (3, .int x3), (4, .int x4)] [] (g, I, P) r h' := by
  refine z_aload_n 0 dX11_reading_0 rfl rfl ?_
  obtain ⟨oe3, b1, e3, H2⟩ := H
  refine z_getP dX11_reading_1 wf_X11_37 (by decide) (by decide) rfl oe3 (fun q => (by cases q.symm.trans e3)) (fun j q => ?_)
  cases q.symm.trans e3
  refine z_aload_n 0 dX11_reading_4 rfl rfl ?_
  obtain ⟨oe6, b4, e6, H5⟩ := H2
  refine z_getP dX11_reading_5 wf_X11_10 (by decide) (by decide) rfl oe6 (fun q => (by cases q.symm.trans e6)) (fun j q => ?_)
  cases q.symm.trans e6
  refine z_iload_n 1 dX11_reading_8 rfl ?_
  obtain ⟨oc8, w7, c8, H9⟩ := H5
  refine z_virt (As := [.int x1]) (st := [.ref b1]) (r1 := (some (zov w7))) (h1 := (g, I, P)) dX11_reading_9 kX9_hillOf wm_X11_87 ⟨by decide, by decide⟩ rfl rfl (Nat.le_of_ble_eq_true rfl) (by decide) (by decide) oc8 c8 ?_
  cases w7 with
  | none =>
    have H11 := H9.1 rfl
    refine z_aload_n 0 dX11_reading_12 rfl rfl ?_
    obtain ⟨oe15, b13, e15, H14⟩ := H11
    refine z_getP dX11_reading_13 wf_X11_10 (by decide) (by decide) rfl oe15 (fun q => (by cases q.symm.trans e15)) (fun j q => ?_)
    cases q.symm.trans e15
    refine z_iload_n 2 dX11_reading_16 rfl ?_
    obtain ⟨oc17, w16, c17, H18⟩ := H14
    refine z_virt (As := [.int x2]) (st := [.null, .ref b1]) (r1 := (some (zov w16))) (h1 := (g, I, P)) dX11_reading_17 kX9_linesOf wm_X11_113 ⟨by decide, by decide⟩ rfl rfl (Nat.le_of_ble_eq_true rfl) (by decide) (by decide) oc17 c17 ?_
    cases w16 with
    | none =>
      have H20 := H18.1 rfl
      refine z_iload_n 3 dX11_reading_20 rfl ?_
      obtain ⟨oc25, w22, I23, P24, c25, H26⟩ := H20
      refine z_virt (As := [.null, .null, .int x3]) (st := []) (r1 := (some (.int w22))) (h1 := (g, I23, P24)) dX11_reading_21 kX1_hears wm_X11_120 ⟨by decide, by decide⟩ rfl rfl (Nat.le_of_ble_eq_true rfl) (by decide) (by decide) oc25 c25 ?_
      refine z_if_ne (t := 29) dX11_reading_24 (by decide) (fun q => ?_) (fun q => ?_)
      · have H27 := H26.1 q
        refine z_iload 4 dX11_reading_29 rfl (z_iconst (w := (-1)) dX11_reading_31 (by decide) ?_)
        refine z_icmp_ne (t := 45) dX11_reading_32 (by decide) (fun q => ?_) (fun q => ?_)
        · have H28 := H27.1 q
          refine z_aload_n 0 dX11_reading_45 rfl rfl ?_
          obtain ⟨oe31, b29, e31, H30⟩ := H28
          refine z_getP dX11_reading_46 wf_X11_37 (by decide) (by decide) rfl oe31 (fun q => (by cases q.symm.trans e31)) (fun j q => ?_)
          cases q.symm.trans e31
          refine z_iload 4 dX11_reading_49 rfl ?_
          obtain ⟨oc34, w32, I33, c34, H35⟩ := H30
          refine z_virt (As := [.int x4]) (st := []) (r1 := (some (.int w32))) (h1 := (g, I33, P24)) dX11_reading_51 kX1_wordOfFirstReading wm_X11_158 ⟨by decide, by decide⟩ rfl rfl (Nat.le_of_ble_eq_true rfl) (by decide) (by decide) oc34 c34 ?_
          obtain ⟨rfl, rfl⟩ := H35
          exact z_iret dX11_reading_54 rfl (by decide) (by decide)
        · have H36 := H27.2 q
          refine z_aload_n 0 dX11_reading_35 rfl rfl ?_
          obtain ⟨oe39, b37, e39, H38⟩ := H36
          refine z_getP dX11_reading_36 wf_X11_37 (by decide) (by decide) rfl oe39 (fun q => (by cases q.symm.trans e39)) (fun j q => ?_)
          cases q.symm.trans e39
          obtain ⟨oc42, w40, I41, c42, H43⟩ := H38
          refine z_virt (As := []) (st := []) (r1 := (some (.int w40))) (h1 := (g, I41, P24)) dX11_reading_39 kX1_readings wm_X11_155 ⟨by decide, by decide⟩ rfl rfl (Nat.le_of_ble_eq_true rfl) (by decide) (by decide) oc42 c42 ?_
          refine z_goto (t := 54) dX11_reading_42 (by decide) ?_
          obtain ⟨rfl, rfl⟩ := H43
          exact z_iret dX11_reading_54 rfl (by decide) (by decide)
      · have H44 := H26.2 q
        refine z_iconst (w := (-1)) dX11_reading_27 (by decide) ?_
        obtain ⟨rfl, rfl⟩ := H44
        exact z_iret dX11_reading_28 rfl (by decide) (by decide)
    | some b19 =>
      have H21 := H18.2 b19 rfl
      refine z_iload_n 3 dX11_reading_20 rfl ?_
      obtain ⟨oc48, w45, I46, P47, c48, H49⟩ := H21
      refine z_virt (As := [.null, .ref b19, .int x3]) (st := []) (r1 := (some (.int w45))) (h1 := (g, I46, P47)) dX11_reading_21 kX1_hears wm_X11_120 ⟨by decide, by decide⟩ rfl rfl (Nat.le_of_ble_eq_true rfl) (by decide) (by decide) oc48 c48 ?_
      refine z_if_ne (t := 29) dX11_reading_24 (by decide) (fun q => ?_) (fun q => ?_)
      · have H50 := H49.1 q
        refine z_iload 4 dX11_reading_29 rfl (z_iconst (w := (-1)) dX11_reading_31 (by decide) ?_)
        refine z_icmp_ne (t := 45) dX11_reading_32 (by decide) (fun q => ?_) (fun q => ?_)
        · have H51 := H50.1 q
          refine z_aload_n 0 dX11_reading_45 rfl rfl ?_
          obtain ⟨oe54, b52, e54, H53⟩ := H51
          refine z_getP dX11_reading_46 wf_X11_37 (by decide) (by decide) rfl oe54 (fun q => (by cases q.symm.trans e54)) (fun j q => ?_)
          cases q.symm.trans e54
          refine z_iload 4 dX11_reading_49 rfl ?_
          obtain ⟨oc57, w55, I56, c57, H58⟩ := H53
          refine z_virt (As := [.int x4]) (st := []) (r1 := (some (.int w55))) (h1 := (g, I56, P47)) dX11_reading_51 kX1_wordOfFirstReading wm_X11_158 ⟨by decide, by decide⟩ rfl rfl (Nat.le_of_ble_eq_true rfl) (by decide) (by decide) oc57 c57 ?_
          obtain ⟨rfl, rfl⟩ := H58
          exact z_iret dX11_reading_54 rfl (by decide) (by decide)
        · have H59 := H50.2 q
          refine z_aload_n 0 dX11_reading_35 rfl rfl ?_
          obtain ⟨oe62, b60, e62, H61⟩ := H59
          refine z_getP dX11_reading_36 wf_X11_37 (by decide) (by decide) rfl oe62 (fun q => (by cases q.symm.trans e62)) (fun j q => ?_)
          cases q.symm.trans e62
          obtain ⟨oc65, w63, I64, c65, H66⟩ := H61
          refine z_virt (As := []) (st := []) (r1 := (some (.int w63))) (h1 := (g, I64, P47)) dX11_reading_39 kX1_readings wm_X11_155 ⟨by decide, by decide⟩ rfl rfl (Nat.le_of_ble_eq_true rfl) (by decide) (by decide) oc65 c65 ?_
          refine z_goto (t := 54) dX11_reading_42 (by decide) ?_
          obtain ⟨rfl, rfl⟩ := H66
          exact z_iret dX11_reading_54 rfl (by decide) (by decide)
      · have H67 := H49.2 q
        refine z_iconst (w := (-1)) dX11_reading_27 (by decide) ?_
        obtain ⟨rfl, rfl⟩ := H67
        exact z_iret dX11_reading_28 rfl (by decide) (by decide)
  | some b10 =>
    have H12 := H9.2 b10 rfl
    refine z_aload_n 0 dX11_reading_12 rfl rfl ?_
    obtain ⟨oe70, b68, e70, H69⟩ := H12
    refine z_getP dX11_reading_13 wf_X11_10 (by decide) (by decide) rfl oe70 (fun q => (by cases q.symm.trans e70)) (fun j q => ?_)
    cases q.symm.trans e70
    refine z_iload_n 2 dX11_reading_16 rfl ?_
    obtain ⟨oc72, w71, c72, H73⟩ := H69
    refine z_virt (As := [.int x2]) (st := [.ref b10, .ref b1]) (r1 := (some (zov w71))) (h1 := (g, I, P)) dX11_reading_17 kX9_linesOf wm_X11_113 ⟨by decide, by decide⟩ rfl rfl (Nat.le_of_ble_eq_true rfl) (by decide) (by decide) oc72 c72 ?_
    cases w71 with
    | none =>
      have H75 := H73.1 rfl
      refine z_iload_n 3 dX11_reading_20 rfl ?_
      obtain ⟨oc80, w77, I78, P79, c80, H81⟩ := H75
      refine z_virt (As := [.ref b10, .null, .int x3]) (st := []) (r1 := (some (.int w77))) (h1 := (g, I78, P79)) dX11_reading_21 kX1_hears wm_X11_120 ⟨by decide, by decide⟩ rfl rfl (Nat.le_of_ble_eq_true rfl) (by decide) (by decide) oc80 c80 ?_
      refine z_if_ne (t := 29) dX11_reading_24 (by decide) (fun q => ?_) (fun q => ?_)
      · have H82 := H81.1 q
        refine z_iload 4 dX11_reading_29 rfl (z_iconst (w := (-1)) dX11_reading_31 (by decide) ?_)
        refine z_icmp_ne (t := 45) dX11_reading_32 (by decide) (fun q => ?_) (fun q => ?_)
        · have H83 := H82.1 q
          refine z_aload_n 0 dX11_reading_45 rfl rfl ?_
          obtain ⟨oe86, b84, e86, H85⟩ := H83
          refine z_getP dX11_reading_46 wf_X11_37 (by decide) (by decide) rfl oe86 (fun q => (by cases q.symm.trans e86)) (fun j q => ?_)
          cases q.symm.trans e86
          refine z_iload 4 dX11_reading_49 rfl ?_
          obtain ⟨oc89, w87, I88, c89, H90⟩ := H85
          refine z_virt (As := [.int x4]) (st := []) (r1 := (some (.int w87))) (h1 := (g, I88, P79)) dX11_reading_51 kX1_wordOfFirstReading wm_X11_158 ⟨by decide, by decide⟩ rfl rfl (Nat.le_of_ble_eq_true rfl) (by decide) (by decide) oc89 c89 ?_
          obtain ⟨rfl, rfl⟩ := H90
          exact z_iret dX11_reading_54 rfl (by decide) (by decide)
        · have H91 := H82.2 q
          refine z_aload_n 0 dX11_reading_35 rfl rfl ?_
          obtain ⟨oe94, b92, e94, H93⟩ := H91
          refine z_getP dX11_reading_36 wf_X11_37 (by decide) (by decide) rfl oe94 (fun q => (by cases q.symm.trans e94)) (fun j q => ?_)
          cases q.symm.trans e94
          obtain ⟨oc97, w95, I96, c97, H98⟩ := H93
          refine z_virt (As := []) (st := []) (r1 := (some (.int w95))) (h1 := (g, I96, P79)) dX11_reading_39 kX1_readings wm_X11_155 ⟨by decide, by decide⟩ rfl rfl (Nat.le_of_ble_eq_true rfl) (by decide) (by decide) oc97 c97 ?_
          refine z_goto (t := 54) dX11_reading_42 (by decide) ?_
          obtain ⟨rfl, rfl⟩ := H98
          exact z_iret dX11_reading_54 rfl (by decide) (by decide)
      · have H99 := H81.2 q
        refine z_iconst (w := (-1)) dX11_reading_27 (by decide) ?_
        obtain ⟨rfl, rfl⟩ := H99
        exact z_iret dX11_reading_28 rfl (by decide) (by decide)
    | some b74 =>
      have H76 := H73.2 b74 rfl
      refine z_iload_n 3 dX11_reading_20 rfl ?_
      obtain ⟨oc103, w100, I101, P102, c103, H104⟩ := H76
      refine z_virt (As := [.ref b10, .ref b74, .int x3]) (st := []) (r1 := (some (.int w100))) (h1 := (g, I101, P102)) dX11_reading_21 kX1_hears wm_X11_120 ⟨by decide, by decide⟩ rfl rfl (Nat.le_of_ble_eq_true rfl) (by decide) (by decide) oc103 c103 ?_
      refine z_if_ne (t := 29) dX11_reading_24 (by decide) (fun q => ?_) (fun q => ?_)
      · have H105 := H104.1 q
        refine z_iload 4 dX11_reading_29 rfl (z_iconst (w := (-1)) dX11_reading_31 (by decide) ?_)
        refine z_icmp_ne (t := 45) dX11_reading_32 (by decide) (fun q => ?_) (fun q => ?_)
        · have H106 := H105.1 q
          refine z_aload_n 0 dX11_reading_45 rfl rfl ?_
          obtain ⟨oe109, b107, e109, H108⟩ := H106
          refine z_getP dX11_reading_46 wf_X11_37 (by decide) (by decide) rfl oe109 (fun q => (by cases q.symm.trans e109)) (fun j q => ?_)
          cases q.symm.trans e109
          refine z_iload 4 dX11_reading_49 rfl ?_
          obtain ⟨oc112, w110, I111, c112, H113⟩ := H108
          refine z_virt (As := [.int x4]) (st := []) (r1 := (some (.int w110))) (h1 := (g, I111, P102)) dX11_reading_51 kX1_wordOfFirstReading wm_X11_158 ⟨by decide, by decide⟩ rfl rfl (Nat.le_of_ble_eq_true rfl) (by decide) (by decide) oc112 c112 ?_
          obtain ⟨rfl, rfl⟩ := H113
          exact z_iret dX11_reading_54 rfl (by decide) (by decide)
        · have H114 := H105.2 q
          refine z_aload_n 0 dX11_reading_35 rfl rfl ?_
          obtain ⟨oe117, b115, e117, H116⟩ := H114
          refine z_getP dX11_reading_36 wf_X11_37 (by decide) (by decide) rfl oe117 (fun q => (by cases q.symm.trans e117)) (fun j q => ?_)
          cases q.symm.trans e117
          obtain ⟨oc120, w118, I119, c120, H121⟩ := H116
          refine z_virt (As := []) (st := []) (r1 := (some (.int w118))) (h1 := (g, I119, P102)) dX11_reading_39 kX1_readings wm_X11_155 ⟨by decide, by decide⟩ rfl rfl (Nat.le_of_ble_eq_true rfl) (by decide) (by decide) oc120 c120 ?_
          refine z_goto (t := 54) dX11_reading_42 (by decide) ?_
          obtain ⟨rfl, rfl⟩ := H121
          exact z_iret dX11_reading_54 rfl (by decide) (by decide)
      · have H122 := H104.2 q
        refine z_iconst (w := (-1)) dX11_reading_27 (by decide) ?_
        obtain ⟨rfl, rfl⟩ := H122
        exact z_iret dX11_reading_28 rfl (by decide) (by decide)
theorem eX11_reading {g : zG} {I : Nat → Nat → Int32} {P : Nat → Nat → Option Nat} {r : Option Value} {h' : zH} {a0 : Nat} {x1 : Int32} {x2 : Int32} {x3 : Int32} {x4 : Int32} (H : Zt none mX11_reading 0 0 0 [(0, .ref a0), (1, .int x1), (2, .int x2), (3, .int x3), (4, .int x4)] [] (g, I, P) r h') : Cl mX11_reading [.ref a0, .int x1, .int x2, .int x3, .int x4] (g, I, P) r h' := Cl.of (by decide) (Nat.le_of_ble_eq_true rfl) H
theorem dX11_slips_0 : decode cX11_slips 0 = .ok (.iload 4, 2) := by decide +kernel
theorem dX11_slips_2 : decode cX11_slips 2 = .ok (.ifCond .lt 36, 3) := by decide +kernel
theorem dX11_slips_5 : decode cX11_slips 5 = .ok (.iload 4, 2) := by decide +kernel
theorem dX11_slips_7 : decode cX11_slips 7 = .ok (.iconst 3, 1) := by decide +kernel
theorem dX11_slips_8 : decode cX11_slips 8 = .ok (.if_icmp .gt 30, 3) := by decide +kernel
theorem dX11_slips_11 : decode cX11_slips 11 = .ok (.aload_n 0, 1) := by decide +kernel
theorem dX11_slips_12 : decode cX11_slips 12 = .ok (.getfield 37, 3) := by decide +kernel
theorem dX11_slips_15 : decode cX11_slips 15 = .ok (.aload_n 0, 1) := by decide +kernel
theorem dX11_slips_16 : decode cX11_slips 16 = .ok (.getfield 10, 3) := by decide +kernel
theorem dX11_slips_19 : decode cX11_slips 19 = .ok (.iload_n 1, 1) := by decide +kernel
theorem dX11_slips_20 : decode cX11_slips 20 = .ok (.invokevirtual 87, 3) := by decide +kernel
theorem dX11_slips_23 : decode cX11_slips 23 = .ok (.aload_n 0, 1) := by decide +kernel
theorem dX11_slips_24 : decode cX11_slips 24 = .ok (.getfield 10, 3) := by decide +kernel
theorem dX11_slips_27 : decode cX11_slips 27 = .ok (.iload_n 2, 1) := by decide +kernel
theorem dX11_slips_28 : decode cX11_slips 28 = .ok (.invokevirtual 113, 3) := by decide +kernel
theorem dX11_slips_31 : decode cX11_slips 31 = .ok (.iload_n 3, 1) := by decide +kernel
theorem dX11_slips_32 : decode cX11_slips 32 = .ok (.invokevirtual 120, 3) := by decide +kernel
theorem dX11_slips_35 : decode cX11_slips 35 = .ok (.ifCond .ne 5, 3) := by decide +kernel
theorem dX11_slips_38 : decode cX11_slips 38 = .ok (.iconst (-1), 1) := by decide +kernel
theorem dX11_slips_39 : decode cX11_slips 39 = .ok (.ireturn, 1) := by decide +kernel
theorem dX11_slips_40 : decode cX11_slips 40 = .ok (.aload_n 0, 1) := by decide +kernel
theorem dX11_slips_41 : decode cX11_slips 41 = .ok (.getfield 37, 3) := by decide +kernel
theorem dX11_slips_44 : decode cX11_slips 44 = .ok (.iload 4, 2) := by decide +kernel
theorem dX11_slips_46 : decode cX11_slips 46 = .ok (.invokevirtual 161, 3) := by decide +kernel
theorem dX11_slips_49 : decode cX11_slips 49 = .ok (.ireturn, 1) := by decide +kernel
set_option maxRecDepth 10000 in
theorem wX11_slips_0 {g : zG} {I : Nat → Nat → Int32} {P : Nat → Nat → Option Nat} {r : Option Value} {h' : zH} {a0 : Nat} {x1 : Int32} {x2 : Int32} {x3 : Int32} {x4 : Int32} (H : ((x4 < 0) → r = some (.int (-1)) ∧ h' = (g, I, P)) ∧ ((¬ x4 < 0) → ((3 < x4) → r = some (.int (-1)) ∧ h' = (g, I, P)) ∧ ((¬ 3 < x4) → zk g a0 11 ∧ ∃ b5, P a0 4 = some b5 ∧ zk g a0 11 ∧ ∃ b8, P a0 0 = some b8 ∧ zk g b8 9 ∧ ∃ (w11 : Option Nat), Cl mX9_hillOf [.ref b8, .int x1] (g, I, P) (some (zov w11)) (g, I, P) ∧ ((w11 = none) → zk g a0 11 ∧ ∃ b17, P a0 0 = some b17 ∧ zk g b17 9 ∧ ∃ (w20 : Option Nat), Cl mX9_linesOf [.ref b17, .int x2] (g, I, P) (some (zov w20)) (g, I, P) ∧ ((w20 = none) → zk g b5 1 ∧ ∃ (w26 : Int32) (I27 : Nat → Nat → Int32) (P28 : Nat → Nat → Option Nat), Cl mX1_hears [.ref b5, .null, .null, .int x3] (g, I, P) (some (.int w26)) (g, I27, P28) ∧ ((¬ w26 = 0) → zk g a0 11 ∧ ∃ b32, P28 a0 4 = some b32 ∧ zk g b32 1 ∧ ∃ (w35 : Int32) (I36 : Nat → Nat → Int32), Cl mX1_slipsUpTo [.ref b32, .int x4] (g, I27, P28) (some (.int w35)) (g, I36, P28) ∧ r = some (.int w35) ∧ h' = (g, I36, P28)) ∧ ((w26 = 0) → r = some (.int (-1)) ∧ h' = (g, I27, P28))) ∧ (∀ b23, w20 = some b23 → zk g b5 1 ∧ ∃ (w40 : Int32) (I41 : Nat → Nat → Int32) (P42 : Nat → Nat → Option Nat), Cl mX1_hears [.ref b5, .null, .ref b23, .int x3] (g, I, P) (some (.int w40)) (g, I41, P42) ∧ ((¬ w40 = 0) → zk g a0 11 ∧ ∃ b46, P42 a0 4 = some b46 ∧ zk g b46 1 ∧ ∃ (w49 : Int32) (I50 : Nat → Nat → Int32), Cl mX1_slipsUpTo [.ref b46, .int x4] (g, I41, P42) (some (.int w49)) (g, I50, P42) ∧ r = some (.int w49) ∧ h' = (g, I50, P42)) ∧ ((w40 = 0) → r = some (.int (-1)) ∧ h' = (g, I41, P42)))) ∧ (∀ b14, w11 = some b14 → zk g a0 11 ∧ ∃ b54, P a0 0 = some b54 ∧ zk g b54 9 ∧ ∃ (w57 : Option Nat), Cl mX9_linesOf [.ref b54, .int x2] (g, I, P) (some (zov w57)) (g, I, P) ∧ ((w57 = none) → zk g b5 1 ∧ ∃ (w63 : Int32) (I64 : Nat → Nat → Int32) (P65 : Nat → Nat → Option Nat), Cl mX1_hears [.ref b5, .ref b14, .null, .int x3] (g, I, P) (some (.int w63)) (g, I64, P65) ∧ ((¬ w63 = 0) → zk g a0 11 ∧ ∃ b69, P65 a0 4 = some b69 ∧ zk g b69 1 ∧ ∃ (w72 : Int32) (I73 : Nat → Nat → Int32), Cl mX1_slipsUpTo [.ref b69, .int x4] (g, I64, P65) (some (.int w72)) (g, I73, P65) ∧ r = some (.int w72) ∧ h' = (g, I73, P65)) ∧ ((w63 = 0) → r = some (.int (-1)) ∧ h' = (g, I64, P65))) ∧ (∀ b60, w57 = some b60 → zk g b5 1 ∧ ∃ (w77 : Int32) (I78 : Nat → Nat → Int32) (P79 : Nat → Nat → Option Nat), Cl mX1_hears [.ref b5, .ref b14, .ref b60, .int x3] (g, I, P) (some (.int w77)) (g, I78, P79) ∧ ((¬ w77 = 0) → zk g a0 11 ∧ ∃ b83, P79 a0 4 = some b83 ∧ zk g b83 1 ∧ ∃ (w86 : Int32) (I87 : Nat → Nat → Int32), Cl mX1_slipsUpTo [.ref b83, .int x4] (g, I78, P79) (some (.int w86)) (g, I87, P79) ∧ r = some (.int w86) ∧ h' = (g, I87, P79)) ∧ ((w77 = 0) → r = some (.int (-1)) ∧ h' = (g, I78, P79))))))) : Zt none mX11_slips 0 0 0 [(0, .ref a0), (1, .int x1), (2, .int x2), (3, .int x3), (4, .int x4)] [] (g, I, P) r h' := by
  refine z_iload 4 dX11_slips_0 rfl ?_
  refine z_if_lt (t := 38) dX11_slips_2 (by decide) (fun q => ?_) (fun q => ?_)
  · have H1 := H.1 q
    refine z_iconst (w := (-1)) dX11_slips_38 (by decide) ?_
    obtain ⟨rfl, rfl⟩ := H1
    exact z_iret dX11_slips_39 rfl (by decide) (by decide)
  · have H2 := H.2 q
    refine z_iload 4 dX11_slips_5 rfl (z_iconst (w := 3) dX11_slips_7 (by decide) ?_)
    refine z_icmp_gt (t := 38) dX11_slips_8 (by decide) (fun q => ?_) (fun q => ?_)
    · have H3 := H2.1 q
      refine z_iconst (w := (-1)) dX11_slips_38 (by decide) ?_
      obtain ⟨rfl, rfl⟩ := H3
      exact z_iret dX11_slips_39 rfl (by decide) (by decide)
    · have H4 := H2.2 q
      refine z_aload_n 0 dX11_slips_11 rfl rfl ?_
      obtain ⟨oe7, b5, e7, H6⟩ := H4
      refine z_getP dX11_slips_12 wf_X11_37 (by decide) (by decide) rfl oe7 (fun q => (by cases q.symm.trans e7)) (fun j q => ?_)
      cases q.symm.trans e7
      refine z_aload_n 0 dX11_slips_15 rfl rfl ?_
      obtain ⟨oe10, b8, e10, H9⟩ := H6
      refine z_getP dX11_slips_16 wf_X11_10 (by decide) (by decide) rfl oe10 (fun q => (by cases q.symm.trans e10)) (fun j q => ?_)
      cases q.symm.trans e10
      refine z_iload_n 1 dX11_slips_19 rfl ?_
      obtain ⟨oc12, w11, c12, H13⟩ := H9
      refine z_virt (As := [.int x1]) (st := [.ref b5]) (r1 := (some (zov w11))) (h1 := (g, I, P)) dX11_slips_20 kX9_hillOf wm_X11_87 ⟨by decide, by decide⟩ rfl rfl (Nat.le_of_ble_eq_true rfl) (by decide) (by decide) oc12 c12 ?_
      cases w11 with
      | none =>
        have H15 := H13.1 rfl
        refine z_aload_n 0 dX11_slips_23 rfl rfl ?_
        obtain ⟨oe19, b17, e19, H18⟩ := H15
        refine z_getP dX11_slips_24 wf_X11_10 (by decide) (by decide) rfl oe19 (fun q => (by cases q.symm.trans e19)) (fun j q => ?_)
        cases q.symm.trans e19
        refine z_iload_n 2 dX11_slips_27 rfl ?_
        obtain ⟨oc21, w20, c21, H22⟩ := H18
        refine z_virt (As := [.int x2]) (st := [.null, .ref b5]) (r1 := (some (zov w20))) (h1 := (g, I, P)) dX11_slips_28 kX9_linesOf wm_X11_113 ⟨by decide, by decide⟩ rfl rfl (Nat.le_of_ble_eq_true rfl) (by decide) (by decide) oc21 c21 ?_
        cases w20 with
        | none =>
          have H24 := H22.1 rfl
          refine z_iload_n 3 dX11_slips_31 rfl ?_
          obtain ⟨oc29, w26, I27, P28, c29, H30⟩ := H24
          refine z_virt (As := [.null, .null, .int x3]) (st := []) (r1 := (some (.int w26))) (h1 := (g, I27, P28)) dX11_slips_32 kX1_hears wm_X11_120 ⟨by decide, by decide⟩ rfl rfl (Nat.le_of_ble_eq_true rfl) (by decide) (by decide) oc29 c29 ?_
          refine z_if_ne (t := 40) dX11_slips_35 (by decide) (fun q => ?_) (fun q => ?_)
          · have H31 := H30.1 q
            refine z_aload_n 0 dX11_slips_40 rfl rfl ?_
            obtain ⟨oe34, b32, e34, H33⟩ := H31
            refine z_getP dX11_slips_41 wf_X11_37 (by decide) (by decide) rfl oe34 (fun q => (by cases q.symm.trans e34)) (fun j q => ?_)
            cases q.symm.trans e34
            refine z_iload 4 dX11_slips_44 rfl ?_
            obtain ⟨oc37, w35, I36, c37, H38⟩ := H33
            refine z_virt (As := [.int x4]) (st := []) (r1 := (some (.int w35))) (h1 := (g, I36, P28)) dX11_slips_46 kX1_slipsUpTo wm_X11_161 ⟨by decide, by decide⟩ rfl rfl (Nat.le_of_ble_eq_true rfl) (by decide) (by decide) oc37 c37 ?_
            obtain ⟨rfl, rfl⟩ := H38
            exact z_iret dX11_slips_49 rfl (by decide) (by decide)
          · have H39 := H30.2 q
            refine z_iconst (w := (-1)) dX11_slips_38 (by decide) ?_
            obtain ⟨rfl, rfl⟩ := H39
            exact z_iret dX11_slips_39 rfl (by decide) (by decide)
        | some b23 =>
          have H25 := H22.2 b23 rfl
          refine z_iload_n 3 dX11_slips_31 rfl ?_
          obtain ⟨oc43, w40, I41, P42, c43, H44⟩ := H25
          refine z_virt (As := [.null, .ref b23, .int x3]) (st := []) (r1 := (some (.int w40))) (h1 := (g, I41, P42)) dX11_slips_32 kX1_hears wm_X11_120 ⟨by decide, by decide⟩ rfl rfl (Nat.le_of_ble_eq_true rfl) (by decide) (by decide) oc43 c43 ?_
          refine z_if_ne (t := 40) dX11_slips_35 (by decide) (fun q => ?_) (fun q => ?_)
          · have H45 := H44.1 q
            refine z_aload_n 0 dX11_slips_40 rfl rfl ?_
            obtain ⟨oe48, b46, e48, H47⟩ := H45
            refine z_getP dX11_slips_41 wf_X11_37 (by decide) (by decide) rfl oe48 (fun q => (by cases q.symm.trans e48)) (fun j q => ?_)
            cases q.symm.trans e48
            refine z_iload 4 dX11_slips_44 rfl ?_
            obtain ⟨oc51, w49, I50, c51, H52⟩ := H47
            refine z_virt (As := [.int x4]) (st := []) (r1 := (some (.int w49))) (h1 := (g, I50, P42)) dX11_slips_46 kX1_slipsUpTo wm_X11_161 ⟨by decide, by decide⟩ rfl rfl (Nat.le_of_ble_eq_true rfl) (by decide) (by decide) oc51 c51 ?_
            obtain ⟨rfl, rfl⟩ := H52
            exact z_iret dX11_slips_49 rfl (by decide) (by decide)
          · have H53 := H44.2 q
            refine z_iconst (w := (-1)) dX11_slips_38 (by decide) ?_
            obtain ⟨rfl, rfl⟩ := H53
            exact z_iret dX11_slips_39 rfl (by decide) (by decide)
      | some b14 =>
        have H16 := H13.2 b14 rfl
        refine z_aload_n 0 dX11_slips_23 rfl rfl ?_
        obtain ⟨oe56, b54, e56, H55⟩ := H16
        refine z_getP dX11_slips_24 wf_X11_10 (by decide) (by decide) rfl oe56 (fun q => (by cases q.symm.trans e56)) (fun j q => ?_)
        cases q.symm.trans e56
        refine z_iload_n 2 dX11_slips_27 rfl ?_
        obtain ⟨oc58, w57, c58, H59⟩ := H55
        refine z_virt (As := [.int x2]) (st := [.ref b14, .ref b5]) (r1 := (some (zov w57))) (h1 := (g, I, P)) dX11_slips_28 kX9_linesOf wm_X11_113 ⟨by decide, by decide⟩ rfl rfl (Nat.le_of_ble_eq_true rfl) (by decide) (by decide) oc58 c58 ?_
        cases w57 with
        | none =>
          have H61 := H59.1 rfl
          refine z_iload_n 3 dX11_slips_31 rfl ?_
          obtain ⟨oc66, w63, I64, P65, c66, H67⟩ := H61
          refine z_virt (As := [.ref b14, .null, .int x3]) (st := []) (r1 := (some (.int w63))) (h1 := (g, I64, P65)) dX11_slips_32 kX1_hears wm_X11_120 ⟨by decide, by decide⟩ rfl rfl (Nat.le_of_ble_eq_true rfl) (by decide) (by decide) oc66 c66 ?_
          refine z_if_ne (t := 40) dX11_slips_35 (by decide) (fun q => ?_) (fun q => ?_)
          · have H68 := H67.1 q
            refine z_aload_n 0 dX11_slips_40 rfl rfl ?_
            obtain ⟨oe71, b69, e71, H70⟩ := H68
            refine z_getP dX11_slips_41 wf_X11_37 (by decide) (by decide) rfl oe71 (fun q => (by cases q.symm.trans e71)) (fun j q => ?_)
            cases q.symm.trans e71
            refine z_iload 4 dX11_slips_44 rfl ?_
            obtain ⟨oc74, w72, I73, c74, H75⟩ := H70
            refine z_virt (As := [.int x4]) (st := []) (r1 := (some (.int w72))) (h1 := (g, I73, P65)) dX11_slips_46 kX1_slipsUpTo wm_X11_161 ⟨by decide, by decide⟩ rfl rfl (Nat.le_of_ble_eq_true rfl) (by decide) (by decide) oc74 c74 ?_
            obtain ⟨rfl, rfl⟩ := H75
            exact z_iret dX11_slips_49 rfl (by decide) (by decide)
          · have H76 := H67.2 q
            refine z_iconst (w := (-1)) dX11_slips_38 (by decide) ?_
            obtain ⟨rfl, rfl⟩ := H76
            exact z_iret dX11_slips_39 rfl (by decide) (by decide)
        | some b60 =>
          have H62 := H59.2 b60 rfl
          refine z_iload_n 3 dX11_slips_31 rfl ?_
          obtain ⟨oc80, w77, I78, P79, c80, H81⟩ := H62
          refine z_virt (As := [.ref b14, .ref b60, .int x3]) (st := []) (r1 := (some (.int w77))) (h1 := (g, I78, P79)) dX11_slips_32 kX1_hears wm_X11_120 ⟨by decide, by decide⟩ rfl rfl (Nat.le_of_ble_eq_true rfl) (by decide) (by decide) oc80 c80 ?_
          refine z_if_ne (t := 40) dX11_slips_35 (by decide) (fun q => ?_) (fun q => ?_)
          · have H82 := H81.1 q
            refine z_aload_n 0 dX11_slips_40 rfl rfl ?_
            obtain ⟨oe85, b83, e85, H84⟩ := H82
            refine z_getP dX11_slips_41 wf_X11_37 (by decide) (by decide) rfl oe85 (fun q => (by cases q.symm.trans e85)) (fun j q => ?_)
            cases q.symm.trans e85
            refine z_iload 4 dX11_slips_44 rfl ?_
            obtain ⟨oc88, w86, I87, c88, H89⟩ := H84
            refine z_virt (As := [.int x4]) (st := []) (r1 := (some (.int w86))) (h1 := (g, I87, P79)) dX11_slips_46 kX1_slipsUpTo wm_X11_161 ⟨by decide, by decide⟩ rfl rfl (Nat.le_of_ble_eq_true rfl) (by decide) (by decide) oc88 c88 ?_
            obtain ⟨rfl, rfl⟩ := H89
            exact z_iret dX11_slips_49 rfl (by decide) (by decide)
          · have H90 := H81.2 q
            refine z_iconst (w := (-1)) dX11_slips_38 (by decide) ?_
            obtain ⟨rfl, rfl⟩ := H90
            exact z_iret dX11_slips_39 rfl (by decide) (by decide)
theorem eX11_slips {g : zG} {I : Nat → Nat → Int32} {P : Nat → Nat → Option Nat} {r : Option Value} {h' : zH} {a0 : Nat} {x1 : Int32} {x2 : Int32} {x3 : Int32} {x4 : Int32} (H : Zt none mX11_slips 0 0 0 [(0, .ref a0), (1, .int x1), (2, .int x2), (3, .int x3), (4, .int x4)] [] (g, I, P) r h') : Cl mX11_slips [.ref a0, .int x1, .int x2, .int x3, .int x4] (g, I, P) r h' := Cl.of (by decide) (Nat.le_of_ble_eq_true rfl) H
theorem dX11_asked_0 : decode cX11_asked 0 = .ok (.aload_n 0, 1) := by decide +kernel
theorem dX11_asked_1 : decode cX11_asked 1 = .ok (.getfield 10, 3) := by decide +kernel
theorem dX11_asked_4 : decode cX11_asked 4 = .ok (.iload_n 1, 1) := by decide +kernel
theorem dX11_asked_5 : decode cX11_asked 5 = .ok (.invokevirtual 87, 3) := by decide +kernel
theorem dX11_asked_8 : decode cX11_asked 8 = .ok (.astore 4, 2) := by decide +kernel
theorem dX11_asked_10 : decode cX11_asked 10 = .ok (.aload 4, 2) := by decide +kernel
theorem dX11_asked_12 : decode cX11_asked 12 = .ok (.ifnull 13, 3) := by decide +kernel
theorem dX11_asked_15 : decode cX11_asked 15 = .ok (.iload_n 2, 1) := by decide +kernel
theorem dX11_asked_16 : decode cX11_asked 16 = .ok (.ifCond .lt 9, 3) := by decide +kernel
theorem dX11_asked_19 : decode cX11_asked 19 = .ok (.iload_n 2, 1) := by decide +kernel
theorem dX11_asked_20 : decode cX11_asked 20 = .ok (.bipush 6, 2) := by decide +kernel
theorem dX11_asked_22 : decode cX11_asked 22 = .ok (.if_icmp .lt 7, 3) := by decide +kernel
theorem dX11_asked_25 : decode cX11_asked 25 = .ok (.ldc2_w 135, 3) := by decide +kernel
theorem dX11_asked_28 : decode cX11_asked 28 = .ok (.lreturn, 1) := by decide +kernel
theorem dX11_asked_29 : decode cX11_asked 29 = .ok (.aload 4, 2) := by decide +kernel
theorem dX11_asked_31 : decode cX11_asked 31 = .ok (.getfield 164, 3) := by decide +kernel
theorem dX11_asked_34 : decode cX11_asked 34 = .ok (.iload_n 2, 1) := by decide +kernel
theorem dX11_asked_35 : decode cX11_asked 35 = .ok (.invokestatic 167, 3) := by decide +kernel
theorem dX11_asked_38 : decode cX11_asked 38 = .ok (.istore 5, 2) := by decide +kernel
theorem dX11_asked_40 : decode cX11_asked 40 = .ok (.aload 4, 2) := by decide +kernel
theorem dX11_asked_42 : decode cX11_asked 42 = .ok (.iload 5, 2) := by decide +kernel
theorem dX11_asked_44 : decode cX11_asked 44 = .ok (.iconst 0, 1) := by decide +kernel
theorem dX11_asked_45 : decode cX11_asked 45 = .ok (.invokevirtual 152, 3) := by decide +kernel
theorem dX11_asked_48 : decode cX11_asked 48 = .ok (.i2l, 1) := by decide +kernel
theorem dX11_asked_49 : decode cX11_asked 49 = .ok (.aload 4, 2) := by decide +kernel
theorem dX11_asked_51 : decode cX11_asked 51 = .ok (.iload 5, 2) := by decide +kernel
theorem dX11_asked_53 : decode cX11_asked 53 = .ok (.invokevirtual 144, 3) := by decide +kernel
theorem dX11_asked_56 : decode cX11_asked 56 = .ok (.i2l, 1) := by decide +kernel
theorem dX11_asked_57 : decode cX11_asked 57 = .ok (.iload_n 3, 1) := by decide +kernel
theorem dX11_asked_58 : decode cX11_asked 58 = .ok (.invokestatic 147, 3) := by decide +kernel
theorem dX11_asked_61 : decode cX11_asked 61 = .ok (.lreturn, 1) := by decide +kernel
set_option maxRecDepth 10000 in
theorem wX11_asked_0 {g : zG} {I : Nat → Nat → Int32} {P : Nat → Nat → Option Nat} {r : Option Value} {h' : zH} {a0 : Nat} {x1 : Int32} {x2 : Int32} {x3 : Int32} (H : zk g a0 11 ∧ ∃ b1, P a0 0 = some b1 ∧ zk g b1 9 ∧ ∃ (w4 : Option Nat), Cl mX9_hillOf [.ref b1, .int x1] (g, I, P) (some (zov w4)) (g, I, P) ∧ ((w4 = none) → r = some (.long (-1)) ∧ h' = (g, I, P)) ∧ (∀ b7, w4 = some b7 → ((x2 < 0) → r = some (.long (-1)) ∧ h' = (g, I, P)) ∧ ((¬ x2 < 0) → ((x2 < 6) → zk g b7 3 ∧ ∃ b13, P b7 8 = some b13 ∧ ∃ (w16 : Int32), Cl mX11_got [.ref b13, .int x2] (g, I, P) (some (.int w16)) (g, I, P) ∧ zk g b7 3 ∧ ∃ (w19 : Int32), Cl mX3_lettersTillSure [.ref b7, .int w16, .int 0] (g, I, P) (some (.int w19)) (g, I, P) ∧ zk g b7 3 ∧ ∃ (w22 : Int32), Cl mX3_oftenOfAll [.ref b7, .int w16] (g, I, P) (some (.int w22)) (g, I, P) ∧ ∃ (w25 : Int64), Cl mX11_least [.long w19.toInt64, .long w22.toInt64, .int x3] (g, I, P) (some (.long w25)) (g, I, P) ∧ r = some (.long w25) ∧ h' = (g, I, P)) ∧ ((¬ x2 < 6) → r = some (.long (-1)) ∧ h' = (g, I, P))))) : Zt none mX11_asked 0 0 0 [(0, .ref a0), (1, .int x1), (2, .int x2), (3, .int x3)] [] (g, I, P) r h' := by
  refine z_aload_n 0 dX11_asked_0 rfl rfl ?_
  obtain ⟨oe3, b1, e3, H2⟩ := H
  refine z_getP dX11_asked_1 wf_X11_10 (by decide) (by decide) rfl oe3 (fun q => (by cases q.symm.trans e3)) (fun j q => ?_)
  cases q.symm.trans e3
  refine z_iload_n 1 dX11_asked_4 rfl ?_
  obtain ⟨oc5, w4, c5, H6⟩ := H2
  refine z_virt (As := [.int x1]) (st := []) (r1 := (some (zov w4))) (h1 := (g, I, P)) dX11_asked_5 kX9_hillOf wm_X11_87 ⟨by decide, by decide⟩ rfl rfl (Nat.le_of_ble_eq_true rfl) (by decide) (by decide) oc5 c5 ?_
  cases w4 with
  | none =>
    have H8 := H6.1 rfl
    refine z_astore (lv' := [(4, .null), (0, .ref a0), (1, .int x1), (2, .int x2), (3, .int x3)]) dX11_asked_8 (by decide) rfl rfl (z_aload 0 dX11_asked_10 rfl rfl (z_ifnullN (t := 25) dX11_asked_12 (by decide) (z_ldc2 dX11_asked_25 wk_X11_135 ?_)))
    obtain ⟨rfl, rfl⟩ := H8
    exact z_lret dX11_asked_28 rfl (by decide) (by decide)
  | some b7 =>
    have H9 := H6.2 b7 rfl
    refine z_astore (lv' := [(4, .ref b7), (0, .ref a0), (1, .int x1), (2, .int x2), (3, .int x3)]) dX11_asked_8 (by decide) rfl rfl (z_aload 0 dX11_asked_10 rfl rfl (z_ifnullR dX11_asked_12 (z_iload_n 3 dX11_asked_15 rfl ?_)))
    refine z_if_lt (t := 25) dX11_asked_16 (by decide) (fun q => ?_) (fun q => ?_)
    · have H10 := H9.1 q
      refine z_ldc2 dX11_asked_25 wk_X11_135 ?_
      obtain ⟨rfl, rfl⟩ := H10
      exact z_lret dX11_asked_28 rfl (by decide) (by decide)
    · have H11 := H9.2 q
      refine z_iload_n 3 dX11_asked_19 rfl (z_bipush (w := 6) dX11_asked_20 (by decide) ?_)
      refine z_icmp_lt (t := 29) dX11_asked_22 (by decide) (fun q => ?_) (fun q => ?_)
      · have H12 := H11.1 q
        refine z_aload 0 dX11_asked_29 rfl rfl ?_
        obtain ⟨oe15, b13, e15, H14⟩ := H12
        refine z_getP dX11_asked_31 wf_X11_164 (by decide) (by decide) rfl oe15 (fun q => (by cases q.symm.trans e15)) (fun j q => ?_)
        cases q.symm.trans e15
        refine z_iload_n 3 dX11_asked_34 rfl ?_
        obtain ⟨w16, c17, H18⟩ := H14
        refine z_stat (As := [.ref b13, .int x2]) (st := []) (r1 := (some (.int w16))) (h1 := (g, I, P)) dX11_asked_35 kX11_got wm_X11_167 ⟨by decide, by decide⟩ rfl rfl (Nat.le_of_ble_eq_true rfl) (by decide) (by decide) c17 ?_
        refine z_istore (lv' := [(5, .int w16), (4, .ref b7), (0, .ref a0), (1, .int x1), (2, .int x2), (3, .int x3)]) dX11_asked_38 (by decide) rfl (z_aload 1 dX11_asked_40 rfl rfl (z_iload 0 dX11_asked_42 rfl (z_iconst (w := 0) dX11_asked_44 (by decide) ?_)))
        obtain ⟨oc20, w19, c20, H21⟩ := H18
        refine z_virt (As := [.int w16, .int 0]) (st := []) (r1 := (some (.int w19))) (h1 := (g, I, P)) dX11_asked_45 kX3_lettersTillSure wm_X11_152 ⟨by decide, by decide⟩ rfl rfl (Nat.le_of_ble_eq_true rfl) (by decide) (by decide) oc20 c20 ?_
        refine z_i2l dX11_asked_48 (z_aload 1 dX11_asked_49 rfl rfl (z_iload 0 dX11_asked_51 rfl ?_))
        obtain ⟨oc23, w22, c23, H24⟩ := H21
        refine z_virt (As := [.int w16]) (st := [.long w19.toInt64]) (r1 := (some (.int w22))) (h1 := (g, I, P)) dX11_asked_53 kX3_oftenOfAll wm_X11_144 ⟨by decide, by decide⟩ rfl rfl (Nat.le_of_ble_eq_true rfl) (by decide) (by decide) oc23 c23 ?_
        refine z_i2l dX11_asked_56 (z_iload_n 5 dX11_asked_57 rfl ?_)
        obtain ⟨w25, c26, H27⟩ := H24
        refine z_stat (As := [.long w19.toInt64, .long w22.toInt64, .int x3]) (st := []) (r1 := (some (.long w25))) (h1 := (g, I, P)) dX11_asked_58 kX11_least wm_X11_147 ⟨by decide, by decide⟩ rfl rfl (Nat.le_of_ble_eq_true rfl) (by decide) (by decide) c26 ?_
        obtain ⟨rfl, rfl⟩ := H27
        exact z_lret dX11_asked_61 rfl (by decide) (by decide)
      · have H28 := H11.2 q
        refine z_ldc2 dX11_asked_25 wk_X11_135 ?_
        obtain ⟨rfl, rfl⟩ := H28
        exact z_lret dX11_asked_28 rfl (by decide) (by decide)
theorem eX11_asked {g : zG} {I : Nat → Nat → Int32} {P : Nat → Nat → Option Nat} {r : Option Value} {h' : zH} {a0 : Nat} {x1 : Int32} {x2 : Int32} {x3 : Int32} (H : Zt none mX11_asked 0 0 0 [(0, .ref a0), (1, .int x1), (2, .int x2), (3, .int x3)] [] (g, I, P) r h') : Cl mX11_asked [.ref a0, .int x1, .int x2, .int x3] (g, I, P) r h' := Cl.of (by decide) (Nat.le_of_ble_eq_true rfl) H
theorem dX11_soonest_0 : decode cX11_soonest 0 = .ok (.aload_n 0, 1) := by decide +kernel
theorem dX11_soonest_1 : decode cX11_soonest 1 = .ok (.getfield 10, 3) := by decide +kernel
theorem dX11_soonest_4 : decode cX11_soonest 4 = .ok (.iload_n 1, 1) := by decide +kernel
theorem dX11_soonest_5 : decode cX11_soonest 5 = .ok (.invokevirtual 87, 3) := by decide +kernel
theorem dX11_soonest_8 : decode cX11_soonest 8 = .ok (.astore_n 2, 1) := by decide +kernel
theorem dX11_soonest_9 : decode cX11_soonest 9 = .ok (.aload_n 2, 1) := by decide +kernel
theorem dX11_soonest_10 : decode cX11_soonest 10 = .ok (.ifnonnull 7, 3) := by decide +kernel
theorem dX11_soonest_13 : decode cX11_soonest 13 = .ok (.iconst (-1), 1) := by decide +kernel
theorem dX11_soonest_14 : decode cX11_soonest 14 = .ok (.goto 7, 3) := by decide +kernel
theorem dX11_soonest_17 : decode cX11_soonest 17 = .ok (.aload_n 2, 1) := by decide +kernel
theorem dX11_soonest_18 : decode cX11_soonest 18 = .ok (.invokevirtual 171, 3) := by decide +kernel
theorem dX11_soonest_21 : decode cX11_soonest 21 = .ok (.ireturn, 1) := by decide +kernel
set_option maxRecDepth 10000 in
theorem wX11_soonest_0 {g : zG} {I : Nat → Nat → Int32} {P : Nat → Nat → Option Nat} {r : Option Value} {h' : zH} {a0 : Nat} {x1 : Int32} (H : zk g a0 11 ∧ ∃ b1, P a0 0 = some b1 ∧ zk g b1 9 ∧ ∃ (w4 : Option Nat), Cl mX9_hillOf [.ref b1, .int x1] (g, I, P) (some (zov w4)) (g, I, P) ∧ ((w4 = none) → r = some (.int (-1)) ∧ h' = (g, I, P)) ∧ (∀ b7, w4 = some b7 → zk g b7 3 ∧ ∃ (w10 : Int32), Cl mX3_soonestAnswered [.ref b7] (g, I, P) (some (.int w10)) (g, I, P) ∧ r = some (.int w10) ∧ h' = (g, I, P))) : Zt none mX11_soonest 0 0 0 [(0, .ref a0), (1, .int x1)] [] (g, I, P) r h' := by
  refine z_aload_n 0 dX11_soonest_0 rfl rfl ?_
  obtain ⟨oe3, b1, e3, H2⟩ := H
  refine z_getP dX11_soonest_1 wf_X11_10 (by decide) (by decide) rfl oe3 (fun q => (by cases q.symm.trans e3)) (fun j q => ?_)
  cases q.symm.trans e3
  refine z_iload_n 1 dX11_soonest_4 rfl ?_
  obtain ⟨oc5, w4, c5, H6⟩ := H2
  refine z_virt (As := [.int x1]) (st := []) (r1 := (some (zov w4))) (h1 := (g, I, P)) dX11_soonest_5 kX9_hillOf wm_X11_87 ⟨by decide, by decide⟩ rfl rfl (Nat.le_of_ble_eq_true rfl) (by decide) (by decide) oc5 c5 ?_
  cases w4 with
  | none =>
    have H8 := H6.1 rfl
    refine z_astore_n (lv' := [(2, .null), (0, .ref a0), (1, .int x1)]) dX11_soonest_8 (by decide) rfl rfl (z_aload_n 0 dX11_soonest_9 rfl rfl (z_ifnonnullN dX11_soonest_10 (z_iconst (w := (-1)) dX11_soonest_13 (by decide) (z_goto (t := 21) dX11_soonest_14 (by decide) ?_))))
    obtain ⟨rfl, rfl⟩ := H8
    exact z_iret dX11_soonest_21 rfl (by decide) (by decide)
  | some b7 =>
    have H9 := H6.2 b7 rfl
    refine z_astore_n (lv' := [(2, .ref b7), (0, .ref a0), (1, .int x1)]) dX11_soonest_8 (by decide) rfl rfl (z_aload_n 0 dX11_soonest_9 rfl rfl (z_ifnonnullR (t := 17) dX11_soonest_10 (by decide) (z_aload_n 0 dX11_soonest_17 rfl rfl ?_)))
    obtain ⟨oc11, w10, c11, H12⟩ := H9
    refine z_virt (As := []) (st := []) (r1 := (some (.int w10))) (h1 := (g, I, P)) dX11_soonest_18 kX3_soonestAnswered wm_X11_171 ⟨by decide, by decide⟩ rfl rfl (Nat.le_of_ble_eq_true rfl) (by decide) (by decide) oc11 c11 ?_
    obtain ⟨rfl, rfl⟩ := H12
    exact z_iret dX11_soonest_21 rfl (by decide) (by decide)
theorem eX11_soonest {g : zG} {I : Nat → Nat → Int32} {P : Nat → Nat → Option Nat} {r : Option Value} {h' : zH} {a0 : Nat} {x1 : Int32} (H : Zt none mX11_soonest 0 0 0 [(0, .ref a0), (1, .int x1)] [] (g, I, P) r h') : Cl mX11_soonest [.ref a0, .int x1] (g, I, P) r h' := Cl.of (by decide) (Nat.le_of_ble_eq_true rfl) H
theorem dX11_sentences_0 : decode cX11_sentences 0 = .ok (.aload_n 0, 1) := by decide +kernel
theorem dX11_sentences_1 : decode cX11_sentences 1 = .ok (.getfield 10, 3) := by decide +kernel
theorem dX11_sentences_4 : decode cX11_sentences 4 = .ok (.iload_n 1, 1) := by decide +kernel
theorem dX11_sentences_5 : decode cX11_sentences 5 = .ok (.invokevirtual 87, 3) := by decide +kernel
theorem dX11_sentences_8 : decode cX11_sentences 8 = .ok (.astore_n 3, 1) := by decide +kernel
theorem dX11_sentences_9 : decode cX11_sentences 9 = .ok (.aload_n 3, 1) := by decide +kernel
theorem dX11_sentences_10 : decode cX11_sentences 10 = .ok (.ifnull 13, 3) := by decide +kernel
theorem dX11_sentences_13 : decode cX11_sentences 13 = .ok (.iload_n 2, 1) := by decide +kernel
theorem dX11_sentences_14 : decode cX11_sentences 14 = .ok (.ifCond .lt 9, 3) := by decide +kernel
theorem dX11_sentences_17 : decode cX11_sentences 17 = .ok (.iload_n 2, 1) := by decide +kernel
theorem dX11_sentences_18 : decode cX11_sentences 18 = .ok (.bipush 6, 2) := by decide +kernel
theorem dX11_sentences_20 : decode cX11_sentences 20 = .ok (.if_icmp .le 7, 3) := by decide +kernel
theorem dX11_sentences_23 : decode cX11_sentences 23 = .ok (.iconst (-1), 1) := by decide +kernel
theorem dX11_sentences_24 : decode cX11_sentences 24 = .ok (.goto 12, 3) := by decide +kernel
theorem dX11_sentences_27 : decode cX11_sentences 27 = .ok (.aload_n 0, 1) := by decide +kernel
theorem dX11_sentences_28 : decode cX11_sentences 28 = .ok (.getfield 44, 3) := by decide +kernel
theorem dX11_sentences_31 : decode cX11_sentences 31 = .ok (.aload_n 3, 1) := by decide +kernel
theorem dX11_sentences_32 : decode cX11_sentences 32 = .ok (.iload_n 2, 1) := by decide +kernel
theorem dX11_sentences_33 : decode cX11_sentences 33 = .ok (.invokevirtual 174, 3) := by decide +kernel
theorem dX11_sentences_36 : decode cX11_sentences 36 = .ok (.ireturn, 1) := by decide +kernel
set_option maxRecDepth 10000 in
theorem wX11_sentences_0 {g : zG} {I : Nat → Nat → Int32} {P : Nat → Nat → Option Nat} {r : Option Value} {h' : zH} {a0 : Nat} {x1 : Int32} {x2 : Int32} (H : zk g a0 11 ∧ ∃ b1, P a0 0 = some b1 ∧ zk g b1 9 ∧ ∃ (w4 : Option Nat), Cl mX9_hillOf [.ref b1, .int x1] (g, I, P) (some (zov w4)) (g, I, P) ∧ ((w4 = none) → r = some (.int (-1)) ∧ h' = (g, I, P)) ∧ (∀ b7, w4 = some b7 → ((x2 < 0) → r = some (.int (-1)) ∧ h' = (g, I, P)) ∧ ((¬ x2 < 0) → ((x2 ≤ 6) → zk g a0 11 ∧ ∃ b13, P a0 5 = some b13 ∧ zk g b13 10 ∧ ∃ (w16 : Int32) (I17 : Nat → Nat → Int32), Cl mX10_rowsOf [.ref b13, .ref b7, .int x2] (g, I, P) (some (.int w16)) (g, I17, P) ∧ r = some (.int w16) ∧ h' = (g, I17, P)) ∧ ((¬ x2 ≤ 6) → r = some (.int (-1)) ∧ h' = (g, I, P))))) : Zt none mX11_sentences 0 0 0 [(0, .ref a0), (1, .int x1), (2, .int x2)] [] (g, I, P) r h' := by
  refine z_aload_n 0 dX11_sentences_0 rfl rfl ?_
  obtain ⟨oe3, b1, e3, H2⟩ := H
  refine z_getP dX11_sentences_1 wf_X11_10 (by decide) (by decide) rfl oe3 (fun q => (by cases q.symm.trans e3)) (fun j q => ?_)
  cases q.symm.trans e3
  refine z_iload_n 1 dX11_sentences_4 rfl ?_
  obtain ⟨oc5, w4, c5, H6⟩ := H2
  refine z_virt (As := [.int x1]) (st := []) (r1 := (some (zov w4))) (h1 := (g, I, P)) dX11_sentences_5 kX9_hillOf wm_X11_87 ⟨by decide, by decide⟩ rfl rfl (Nat.le_of_ble_eq_true rfl) (by decide) (by decide) oc5 c5 ?_
  cases w4 with
  | none =>
    have H8 := H6.1 rfl
    refine z_astore_n (lv' := [(3, .null), (0, .ref a0), (1, .int x1), (2, .int x2)]) dX11_sentences_8 (by decide) rfl rfl (z_aload_n 0 dX11_sentences_9 rfl rfl (z_ifnullN (t := 23) dX11_sentences_10 (by decide) (z_iconst (w := (-1)) dX11_sentences_23 (by decide) (z_goto (t := 36) dX11_sentences_24 (by decide) ?_))))
    obtain ⟨rfl, rfl⟩ := H8
    exact z_iret dX11_sentences_36 rfl (by decide) (by decide)
  | some b7 =>
    have H9 := H6.2 b7 rfl
    refine z_astore_n (lv' := [(3, .ref b7), (0, .ref a0), (1, .int x1), (2, .int x2)]) dX11_sentences_8 (by decide) rfl rfl (z_aload_n 0 dX11_sentences_9 rfl rfl (z_ifnullR dX11_sentences_10 (z_iload_n 3 dX11_sentences_13 rfl ?_)))
    refine z_if_lt (t := 23) dX11_sentences_14 (by decide) (fun q => ?_) (fun q => ?_)
    · have H10 := H9.1 q
      refine z_iconst (w := (-1)) dX11_sentences_23 (by decide) (z_goto (t := 36) dX11_sentences_24 (by decide) ?_)
      obtain ⟨rfl, rfl⟩ := H10
      exact z_iret dX11_sentences_36 rfl (by decide) (by decide)
    · have H11 := H9.2 q
      refine z_iload_n 3 dX11_sentences_17 rfl (z_bipush (w := 6) dX11_sentences_18 (by decide) ?_)
      refine z_icmp_le (t := 27) dX11_sentences_20 (by decide) (fun q => ?_) (fun q => ?_)
      · have H12 := H11.1 q
        refine z_aload_n 1 dX11_sentences_27 rfl rfl ?_
        obtain ⟨oe15, b13, e15, H14⟩ := H12
        refine z_getP dX11_sentences_28 wf_X11_44 (by decide) (by decide) rfl oe15 (fun q => (by cases q.symm.trans e15)) (fun j q => ?_)
        cases q.symm.trans e15
        refine z_aload_n 0 dX11_sentences_31 rfl rfl (z_iload_n 3 dX11_sentences_32 rfl ?_)
        obtain ⟨oc18, w16, I17, c18, H19⟩ := H14
        refine z_virt (As := [.ref b7, .int x2]) (st := []) (r1 := (some (.int w16))) (h1 := (g, I17, P)) dX11_sentences_33 kX10_rowsOf wm_X11_174 ⟨by decide, by decide⟩ rfl rfl (Nat.le_of_ble_eq_true rfl) (by decide) (by decide) oc18 c18 ?_
        obtain ⟨rfl, rfl⟩ := H19
        exact z_iret dX11_sentences_36 rfl (by decide) (by decide)
      · have H20 := H11.2 q
        refine z_iconst (w := (-1)) dX11_sentences_23 (by decide) (z_goto (t := 36) dX11_sentences_24 (by decide) ?_)
        obtain ⟨rfl, rfl⟩ := H20
        exact z_iret dX11_sentences_36 rfl (by decide) (by decide)
theorem eX11_sentences {g : zG} {I : Nat → Nat → Int32} {P : Nat → Nat → Option Nat} {r : Option Value} {h' : zH} {a0 : Nat} {x1 : Int32} {x2 : Int32} (H : Zt none mX11_sentences 0 0 0 [(0, .ref a0), (1, .int x1), (2, .int x2)] [] (g, I, P) r h') : Cl mX11_sentences [.ref a0, .int x1, .int x2] (g, I, P) r h' := Cl.of (by decide) (Nat.le_of_ble_eq_true rfl) H
theorem dX11_twice_0 : decode cX11_twice 0 = .ok (.aload_n 0, 1) := by decide +kernel
theorem dX11_twice_1 : decode cX11_twice 1 = .ok (.getfield 10, 3) := by decide +kernel
theorem dX11_twice_4 : decode cX11_twice 4 = .ok (.iload_n 1, 1) := by decide +kernel
theorem dX11_twice_5 : decode cX11_twice 5 = .ok (.invokevirtual 87, 3) := by decide +kernel
theorem dX11_twice_8 : decode cX11_twice 8 = .ok (.astore_n 2, 1) := by decide +kernel
theorem dX11_twice_9 : decode cX11_twice 9 = .ok (.aload_n 2, 1) := by decide +kernel
theorem dX11_twice_10 : decode cX11_twice 10 = .ok (.ifnonnull 7, 3) := by decide +kernel
theorem dX11_twice_13 : decode cX11_twice 13 = .ok (.iconst (-1), 1) := by decide +kernel
theorem dX11_twice_14 : decode cX11_twice 14 = .ok (.goto 11, 3) := by decide +kernel
theorem dX11_twice_17 : decode cX11_twice 17 = .ok (.aload_n 0, 1) := by decide +kernel
theorem dX11_twice_18 : decode cX11_twice 18 = .ok (.getfield 44, 3) := by decide +kernel
theorem dX11_twice_21 : decode cX11_twice 21 = .ok (.aload_n 2, 1) := by decide +kernel
theorem dX11_twice_22 : decode cX11_twice 22 = .ok (.invokevirtual 178, 3) := by decide +kernel
theorem dX11_twice_25 : decode cX11_twice 25 = .ok (.ireturn, 1) := by decide +kernel
set_option maxRecDepth 10000 in
theorem wX11_twice_0 {g : zG} {I : Nat → Nat → Int32} {P : Nat → Nat → Option Nat} {r : Option Value} {h' : zH} {a0 : Nat} {x1 : Int32} (H : zk g a0 11 ∧ ∃ b1, P a0 0 = some b1 ∧ zk g b1 9 ∧ ∃ (w4 : Option Nat), Cl mX9_hillOf [.ref b1, .int x1] (g, I, P) (some (zov w4)) (g, I, P) ∧ ((w4 = none) → r = some (.int (-1)) ∧ h' = (g, I, P)) ∧ (∀ b7, w4 = some b7 → zk g a0 11 ∧ ∃ b10, P a0 5 = some b10 ∧ zk g b10 10 ∧ ∃ (w13 : Int32) (I14 : Nat → Nat → Int32), Cl mX10_shortestReadTwice [.ref b10, .ref b7] (g, I, P) (some (.int w13)) (g, I14, P) ∧ r = some (.int w13) ∧ h' = (g, I14, P))) : Zt none mX11_twice 0 0 0 [(0, .ref a0), (1, .int x1)] [] (g, I, P) r h' := by
  refine z_aload_n 0 dX11_twice_0 rfl rfl ?_
  obtain ⟨oe3, b1, e3, H2⟩ := H
  refine z_getP dX11_twice_1 wf_X11_10 (by decide) (by decide) rfl oe3 (fun q => (by cases q.symm.trans e3)) (fun j q => ?_)
  cases q.symm.trans e3
  refine z_iload_n 1 dX11_twice_4 rfl ?_
  obtain ⟨oc5, w4, c5, H6⟩ := H2
  refine z_virt (As := [.int x1]) (st := []) (r1 := (some (zov w4))) (h1 := (g, I, P)) dX11_twice_5 kX9_hillOf wm_X11_87 ⟨by decide, by decide⟩ rfl rfl (Nat.le_of_ble_eq_true rfl) (by decide) (by decide) oc5 c5 ?_
  cases w4 with
  | none =>
    have H8 := H6.1 rfl
    refine z_astore_n (lv' := [(2, .null), (0, .ref a0), (1, .int x1)]) dX11_twice_8 (by decide) rfl rfl (z_aload_n 0 dX11_twice_9 rfl rfl (z_ifnonnullN dX11_twice_10 (z_iconst (w := (-1)) dX11_twice_13 (by decide) (z_goto (t := 25) dX11_twice_14 (by decide) ?_))))
    obtain ⟨rfl, rfl⟩ := H8
    exact z_iret dX11_twice_25 rfl (by decide) (by decide)
  | some b7 =>
    have H9 := H6.2 b7 rfl
    refine z_astore_n (lv' := [(2, .ref b7), (0, .ref a0), (1, .int x1)]) dX11_twice_8 (by decide) rfl rfl (z_aload_n 0 dX11_twice_9 rfl rfl (z_ifnonnullR (t := 17) dX11_twice_10 (by decide) (z_aload_n 1 dX11_twice_17 rfl rfl ?_)))
    obtain ⟨oe12, b10, e12, H11⟩ := H9
    refine z_getP dX11_twice_18 wf_X11_44 (by decide) (by decide) rfl oe12 (fun q => (by cases q.symm.trans e12)) (fun j q => ?_)
    cases q.symm.trans e12
    refine z_aload_n 0 dX11_twice_21 rfl rfl ?_
    obtain ⟨oc15, w13, I14, c15, H16⟩ := H11
    refine z_virt (As := [.ref b7]) (st := []) (r1 := (some (.int w13))) (h1 := (g, I14, P)) dX11_twice_22 kX10_shortestReadTwice wm_X11_178 ⟨by decide, by decide⟩ rfl rfl (Nat.le_of_ble_eq_true rfl) (by decide) (by decide) oc15 c15 ?_
    obtain ⟨rfl, rfl⟩ := H16
    exact z_iret dX11_twice_25 rfl (by decide) (by decide)
theorem eX11_twice {g : zG} {I : Nat → Nat → Int32} {P : Nat → Nat → Option Nat} {r : Option Value} {h' : zH} {a0 : Nat} {x1 : Int32} (H : Zt none mX11_twice 0 0 0 [(0, .ref a0), (1, .int x1)] [] (g, I, P) r h') : Cl mX11_twice [.ref a0, .int x1] (g, I, P) r h' := Cl.of (by decide) (Nat.le_of_ble_eq_true rfl) H
theorem dX11_ghost_0 : decode cX11_ghost 0 = .ok (.aload_n 0, 1) := by decide +kernel
theorem dX11_ghost_1 : decode cX11_ghost 1 = .ok (.getfield 10, 3) := by decide +kernel
theorem dX11_ghost_4 : decode cX11_ghost 4 = .ok (.iload_n 1, 1) := by decide +kernel
theorem dX11_ghost_5 : decode cX11_ghost 5 = .ok (.invokevirtual 87, 3) := by decide +kernel
theorem dX11_ghost_8 : decode cX11_ghost 8 = .ok (.astore_n 3, 1) := by decide +kernel
theorem dX11_ghost_9 : decode cX11_ghost 9 = .ok (.aload_n 3, 1) := by decide +kernel
theorem dX11_ghost_10 : decode cX11_ghost 10 = .ok (.ifnonnull 6, 3) := by decide +kernel
theorem dX11_ghost_13 : decode cX11_ghost 13 = .ok (.bipush (-2), 2) := by decide +kernel
theorem dX11_ghost_15 : decode cX11_ghost 15 = .ok (.ireturn, 1) := by decide +kernel
theorem dX11_ghost_16 : decode cX11_ghost 16 = .ok (.aload_n 3, 1) := by decide +kernel
theorem dX11_ghost_17 : decode cX11_ghost 17 = .ok (.iconst 0, 1) := by decide +kernel
theorem dX11_ghost_18 : decode cX11_ghost 18 = .ok (.iconst 0, 1) := by decide +kernel
theorem dX11_ghost_19 : decode cX11_ghost 19 = .ok (.invokestatic 182, 3) := by decide +kernel
theorem dX11_ghost_22 : decode cX11_ghost 22 = .ok (.istore 4, 2) := by decide +kernel
theorem dX11_ghost_24 : decode cX11_ghost 24 = .ok (.iload_n 2, 1) := by decide +kernel
theorem dX11_ghost_25 : decode cX11_ghost 25 = .ok (.ifCond .eq 8, 3) := by decide +kernel
theorem dX11_ghost_28 : decode cX11_ghost 28 = .ok (.iload 4, 2) := by decide +kernel
theorem dX11_ghost_30 : decode cX11_ghost 30 = .ok (.goto 14, 3) := by decide +kernel
theorem dX11_ghost_33 : decode cX11_ghost 33 = .ok (.iload 4, 2) := by decide +kernel
theorem dX11_ghost_35 : decode cX11_ghost 35 = .ok (.iconst (-1), 1) := by decide +kernel
theorem dX11_ghost_36 : decode cX11_ghost 36 = .ok (.if_icmp .ne 7, 3) := by decide +kernel
theorem dX11_ghost_39 : decode cX11_ghost 39 = .ok (.iconst 0, 1) := by decide +kernel
theorem dX11_ghost_40 : decode cX11_ghost 40 = .ok (.goto 4, 3) := by decide +kernel
theorem dX11_ghost_43 : decode cX11_ghost 43 = .ok (.iconst 1, 1) := by decide +kernel
theorem dX11_ghost_44 : decode cX11_ghost 44 = .ok (.ireturn, 1) := by decide +kernel
set_option maxRecDepth 10000 in
theorem wX11_ghost_0 {g : zG} {I : Nat → Nat → Int32} {P : Nat → Nat → Option Nat} {r : Option Value} {h' : zH} {a0 : Nat} {x1 : Int32} {x2 : Int32} (H : zk g a0 11 ∧ ∃ b1, P a0 0 = some b1 ∧ zk g b1 9 ∧ ∃ (w4 : Option Nat), Cl mX9_hillOf [.ref b1, .int x1] (g, I, P) (some (zov w4)) (g, I, P) ∧ ((w4 = none) → r = some (.int (-2)) ∧ h' = (g, I, P)) ∧ (∀ b7, w4 = some b7 → ∃ (w10 : Int32), Cl (mX11_winningLetter 7) [.ref b7, .int 0, .int 0] (g, I, P) (some (.int w10)) (g, I, P) ∧ ((x2 = 0) → ((¬ w10 = (-1)) → r = some (.int 1) ∧ h' = (g, I, P)) ∧ ((w10 = (-1)) → r = some (.int 0) ∧ h' = (g, I, P))) ∧ ((¬ x2 = 0) → r = some (.int w10) ∧ h' = (g, I, P)))) : Zt none mX11_ghost 0 0 0 [(0, .ref a0), (1, .int x1), (2, .int x2)] [] (g, I, P) r h' := by
  refine z_aload_n 0 dX11_ghost_0 rfl rfl ?_
  obtain ⟨oe3, b1, e3, H2⟩ := H
  refine z_getP dX11_ghost_1 wf_X11_10 (by decide) (by decide) rfl oe3 (fun q => (by cases q.symm.trans e3)) (fun j q => ?_)
  cases q.symm.trans e3
  refine z_iload_n 1 dX11_ghost_4 rfl ?_
  obtain ⟨oc5, w4, c5, H6⟩ := H2
  refine z_virt (As := [.int x1]) (st := []) (r1 := (some (zov w4))) (h1 := (g, I, P)) dX11_ghost_5 kX9_hillOf wm_X11_87 ⟨by decide, by decide⟩ rfl rfl (Nat.le_of_ble_eq_true rfl) (by decide) (by decide) oc5 c5 ?_
  cases w4 with
  | none =>
    have H8 := H6.1 rfl
    refine z_astore_n (lv' := [(3, .null), (0, .ref a0), (1, .int x1), (2, .int x2)]) dX11_ghost_8 (by decide) rfl rfl (z_aload_n 0 dX11_ghost_9 rfl rfl (z_ifnonnullN dX11_ghost_10 (z_bipush (w := (-2)) dX11_ghost_13 (by decide) ?_)))
    obtain ⟨rfl, rfl⟩ := H8
    exact z_iret dX11_ghost_15 rfl (by decide) (by decide)
  | some b7 =>
    have H9 := H6.2 b7 rfl
    refine z_astore_n (lv' := [(3, .ref b7), (0, .ref a0), (1, .int x1), (2, .int x2)]) dX11_ghost_8 (by decide) rfl rfl (z_aload_n 0 dX11_ghost_9 rfl rfl (z_ifnonnullR (t := 16) dX11_ghost_10 (by decide) (z_aload_n 0 dX11_ghost_16 rfl rfl (z_iconst (w := 0) dX11_ghost_17 (by decide) (z_iconst (w := 0) dX11_ghost_18 (by decide) ?_)))))
    obtain ⟨w10, c11, H12⟩ := H9
    refine z_stat (As := [.ref b7, .int 0, .int 0]) (st := []) (r1 := (some (.int w10))) (h1 := (g, I, P)) dX11_ghost_19 (kX11_winningLetter _) wm_X11_182 ⟨by decide, by decide⟩ rfl rfl (Nat.le_of_ble_eq_true rfl) (by decide) (by decide) c11 ?_
    refine z_istore (lv' := [(4, .int w10), (3, .ref b7), (0, .ref a0), (1, .int x1), (2, .int x2)]) dX11_ghost_22 (by decide) rfl (z_iload_n 4 dX11_ghost_24 rfl ?_)
    refine z_if_eq (t := 33) dX11_ghost_25 (by decide) (fun q => ?_) (fun q => ?_)
    · have H13 := H12.1 q
      refine z_iload 0 dX11_ghost_33 rfl (z_iconst (w := (-1)) dX11_ghost_35 (by decide) ?_)
      refine z_icmp_ne (t := 43) dX11_ghost_36 (by decide) (fun q => ?_) (fun q => ?_)
      · have H14 := H13.1 q
        refine z_iconst (w := 1) dX11_ghost_43 (by decide) ?_
        obtain ⟨rfl, rfl⟩ := H14
        exact z_iret dX11_ghost_44 rfl (by decide) (by decide)
      · have H15 := H13.2 q
        refine z_iconst (w := 0) dX11_ghost_39 (by decide) (z_goto (t := 44) dX11_ghost_40 (by decide) ?_)
        obtain ⟨rfl, rfl⟩ := H15
        exact z_iret dX11_ghost_44 rfl (by decide) (by decide)
    · have H16 := H12.2 q
      refine z_iload 0 dX11_ghost_28 rfl (z_goto (t := 44) dX11_ghost_30 (by decide) ?_)
      obtain ⟨rfl, rfl⟩ := H16
      exact z_iret dX11_ghost_44 rfl (by decide) (by decide)
theorem eX11_ghost {g : zG} {I : Nat → Nat → Int32} {P : Nat → Nat → Option Nat} {r : Option Value} {h' : zH} {a0 : Nat} {x1 : Int32} {x2 : Int32} (H : Zt none mX11_ghost 0 0 0 [(0, .ref a0), (1, .int x1), (2, .int x2)] [] (g, I, P) r h') : Cl mX11_ghost [.ref a0, .int x1, .int x2] (g, I, P) r h' := Cl.of (by decide) (Nat.le_of_ble_eq_true rfl) H
theorem dX11_fact_0 : decode cX11_fact 0 = .ok (.aload_n 0, 1) := by decide +kernel
theorem dX11_fact_1 : decode cX11_fact 1 = .ok (.getfield 10, 3) := by decide +kernel
theorem dX11_fact_4 : decode cX11_fact 4 = .ok (.iload_n 1, 1) := by decide +kernel
theorem dX11_fact_5 : decode cX11_fact 5 = .ok (.invokevirtual 186, 3) := by decide +kernel
theorem dX11_fact_8 : decode cX11_fact 8 = .ok (.astore 4, 2) := by decide +kernel
theorem dX11_fact_10 : decode cX11_fact 10 = .ok (.aload 4, 2) := by decide +kernel
theorem dX11_fact_12 : decode cX11_fact 12 = .ok (.ifnonnull 8, 3) := by decide +kernel
theorem dX11_fact_15 : decode cX11_fact 15 = .ok (.bipush (-2), 2) := by decide +kernel
theorem dX11_fact_17 : decode cX11_fact 17 = .ok (.goto 10, 3) := by decide +kernel
theorem dX11_fact_20 : decode cX11_fact 20 = .ok (.aload 4, 2) := by decide +kernel
theorem dX11_fact_22 : decode cX11_fact 22 = .ok (.iload_n 2, 1) := by decide +kernel
theorem dX11_fact_23 : decode cX11_fact 23 = .ok (.iload_n 3, 1) := by decide +kernel
theorem dX11_fact_24 : decode cX11_fact 24 = .ok (.invokevirtual 190, 3) := by decide +kernel
theorem dX11_fact_27 : decode cX11_fact 27 = .ok (.ireturn, 1) := by decide +kernel
set_option maxRecDepth 10000 in
theorem wX11_fact_0 {g : zG} {I : Nat → Nat → Int32} {P : Nat → Nat → Option Nat} {r : Option Value} {h' : zH} {a0 : Nat} {x1 : Int32} {x2 : Int32} {x3 : Int32} (H : zk g a0 11 ∧ ∃ b1, P a0 0 = some b1 ∧ zk g b1 9 ∧ ∃ (w4 : Option Nat), Cl mX9_logOf [.ref b1, .int x1] (g, I, P) (some (zov w4)) (g, I, P) ∧ ((w4 = none) → r = some (.int (-2)) ∧ h' = (g, I, P)) ∧ (∀ b7, w4 = some b7 → zk g b7 5 ∧ ∃ (w10 : Int32), Cl mX5_look [.ref b7, .int x2, .int x3] (g, I, P) (some (.int w10)) (g, I, P) ∧ r = some (.int w10) ∧ h' = (g, I, P))) : Zt none mX11_fact 0 0 0 [(0, .ref a0), (1, .int x1), (2, .int x2), (3, .int x3)] [] (g, I, P) r h' := by
  refine z_aload_n 0 dX11_fact_0 rfl rfl ?_
  obtain ⟨oe3, b1, e3, H2⟩ := H
  refine z_getP dX11_fact_1 wf_X11_10 (by decide) (by decide) rfl oe3 (fun q => (by cases q.symm.trans e3)) (fun j q => ?_)
  cases q.symm.trans e3
  refine z_iload_n 1 dX11_fact_4 rfl ?_
  obtain ⟨oc5, w4, c5, H6⟩ := H2
  refine z_virt (As := [.int x1]) (st := []) (r1 := (some (zov w4))) (h1 := (g, I, P)) dX11_fact_5 kX9_logOf wm_X11_186 ⟨by decide, by decide⟩ rfl rfl (Nat.le_of_ble_eq_true rfl) (by decide) (by decide) oc5 c5 ?_
  cases w4 with
  | none =>
    have H8 := H6.1 rfl
    refine z_astore (lv' := [(4, .null), (0, .ref a0), (1, .int x1), (2, .int x2), (3, .int x3)]) dX11_fact_8 (by decide) rfl rfl (z_aload 0 dX11_fact_10 rfl rfl (z_ifnonnullN dX11_fact_12 (z_bipush (w := (-2)) dX11_fact_15 (by decide) (z_goto (t := 27) dX11_fact_17 (by decide) ?_))))
    obtain ⟨rfl, rfl⟩ := H8
    exact z_iret dX11_fact_27 rfl (by decide) (by decide)
  | some b7 =>
    have H9 := H6.2 b7 rfl
    refine z_astore (lv' := [(4, .ref b7), (0, .ref a0), (1, .int x1), (2, .int x2), (3, .int x3)]) dX11_fact_8 (by decide) rfl rfl (z_aload 0 dX11_fact_10 rfl rfl (z_ifnonnullR (t := 20) dX11_fact_12 (by decide) (z_aload 0 dX11_fact_20 rfl rfl (z_iload_n 3 dX11_fact_22 rfl (z_iload_n 4 dX11_fact_23 rfl ?_)))))
    obtain ⟨oc11, w10, c11, H12⟩ := H9
    refine z_virt (As := [.int x2, .int x3]) (st := []) (r1 := (some (.int w10))) (h1 := (g, I, P)) dX11_fact_24 kX5_look wm_X11_190 ⟨by decide, by decide⟩ rfl rfl (Nat.le_of_ble_eq_true rfl) (by decide) (by decide) oc11 c11 ?_
    obtain ⟨rfl, rfl⟩ := H12
    exact z_iret dX11_fact_27 rfl (by decide) (by decide)
theorem eX11_fact {g : zG} {I : Nat → Nat → Int32} {P : Nat → Nat → Option Nat} {r : Option Value} {h' : zH} {a0 : Nat} {x1 : Int32} {x2 : Int32} {x3 : Int32} (H : Zt none mX11_fact 0 0 0 [(0, .ref a0), (1, .int x1), (2, .int x2), (3, .int x3)] [] (g, I, P) r h') : Cl mX11_fact [.ref a0, .int x1, .int x2, .int x3] (g, I, P) r h' := Cl.of (by decide) (Nat.le_of_ble_eq_true rfl) H
theorem dX11_forged_0 : decode cX11_forged 0 = .ok (.aload_n 0, 1) := by decide +kernel
theorem dX11_forged_1 : decode cX11_forged 1 = .ok (.getfield 10, 3) := by decide +kernel
theorem dX11_forged_4 : decode cX11_forged 4 = .ok (.iload_n 1, 1) := by decide +kernel
theorem dX11_forged_5 : decode cX11_forged 5 = .ok (.invokevirtual 186, 3) := by decide +kernel
theorem dX11_forged_8 : decode cX11_forged 8 = .ok (.astore_n 3, 1) := by decide +kernel
theorem dX11_forged_9 : decode cX11_forged 9 = .ok (.aload_n 3, 1) := by decide +kernel
theorem dX11_forged_10 : decode cX11_forged 10 = .ok (.ifnonnull 6, 3) := by decide +kernel
theorem dX11_forged_13 : decode cX11_forged 13 = .ok (.bipush (-2), 2) := by decide +kernel
theorem dX11_forged_15 : decode cX11_forged 15 = .ok (.ireturn, 1) := by decide +kernel
theorem dX11_forged_16 : decode cX11_forged 16 = .ok (.aload_n 0, 1) := by decide +kernel
theorem dX11_forged_17 : decode cX11_forged 17 = .ok (.getfield 51, 3) := by decide +kernel
theorem dX11_forged_20 : decode cX11_forged 20 = .ok (.aload_n 3, 1) := by decide +kernel
theorem dX11_forged_21 : decode cX11_forged 21 = .ok (.invokevirtual 193, 3) := by decide +kernel
theorem dX11_forged_24 : decode cX11_forged 24 = .ok (.aload_n 0, 1) := by decide +kernel
theorem dX11_forged_25 : decode cX11_forged 25 = .ok (.getfield 51, 3) := by decide +kernel
theorem dX11_forged_28 : decode cX11_forged 28 = .ok (.iload_n 2, 1) := by decide +kernel
theorem dX11_forged_29 : decode cX11_forged 29 = .ok (.invokevirtual 197, 3) := by decide +kernel
theorem dX11_forged_32 : decode cX11_forged 32 = .ok (.ireturn, 1) := by decide +kernel
set_option maxRecDepth 10000 in
theorem wX11_forged_0 {g : zG} {I : Nat → Nat → Int32} {P : Nat → Nat → Option Nat} {r : Option Value} {h' : zH} {a0 : Nat} {x1 : Int32} {x2 : Int32} (H : zk g a0 11 ∧ ∃ b1, P a0 0 = some b1 ∧ zk g b1 9 ∧ ∃ (w4 : Option Nat), Cl mX9_logOf [.ref b1, .int x1] (g, I, P) (some (zov w4)) (g, I, P) ∧ ((w4 = none) → r = some (.int (-2)) ∧ h' = (g, I, P)) ∧ (∀ b7, w4 = some b7 → zk g a0 11 ∧ ∃ b10, P a0 6 = some b10 ∧ zk g b10 7 ∧ ∃ (I13 : Nat → Nat → Int32) (P14 : Nat → Nat → Option Nat), Cl mX7_weigh [.ref b10, .ref b7] (g, I, P) none (g, I13, P14) ∧ zk g a0 11 ∧ ∃ b17, P14 a0 6 = some b17 ∧ zk g b17 7 ∧ ∃ (w20 : Int32), Cl mX7_judge [.ref b17, .int x2] (g, I13, P14) (some (.int w20)) (g, I13, P14) ∧ r = some (.int w20) ∧ h' = (g, I13, P14))) : Zt none mX11_forged 0 0 0 [(0, .ref a0), (1, .int x1), (2, .int x2)] [] (g, I, P) r h' := by
  refine z_aload_n 0 dX11_forged_0 rfl rfl ?_
  obtain ⟨oe3, b1, e3, H2⟩ := H
  refine z_getP dX11_forged_1 wf_X11_10 (by decide) (by decide) rfl oe3 (fun q => (by cases q.symm.trans e3)) (fun j q => ?_)
  cases q.symm.trans e3
  refine z_iload_n 1 dX11_forged_4 rfl ?_
  obtain ⟨oc5, w4, c5, H6⟩ := H2
  refine z_virt (As := [.int x1]) (st := []) (r1 := (some (zov w4))) (h1 := (g, I, P)) dX11_forged_5 kX9_logOf wm_X11_186 ⟨by decide, by decide⟩ rfl rfl (Nat.le_of_ble_eq_true rfl) (by decide) (by decide) oc5 c5 ?_
  cases w4 with
  | none =>
    have H8 := H6.1 rfl
    refine z_astore_n (lv' := [(3, .null), (0, .ref a0), (1, .int x1), (2, .int x2)]) dX11_forged_8 (by decide) rfl rfl (z_aload_n 0 dX11_forged_9 rfl rfl (z_ifnonnullN dX11_forged_10 (z_bipush (w := (-2)) dX11_forged_13 (by decide) ?_)))
    obtain ⟨rfl, rfl⟩ := H8
    exact z_iret dX11_forged_15 rfl (by decide) (by decide)
  | some b7 =>
    have H9 := H6.2 b7 rfl
    refine z_astore_n (lv' := [(3, .ref b7), (0, .ref a0), (1, .int x1), (2, .int x2)]) dX11_forged_8 (by decide) rfl rfl (z_aload_n 0 dX11_forged_9 rfl rfl (z_ifnonnullR (t := 16) dX11_forged_10 (by decide) (z_aload_n 1 dX11_forged_16 rfl rfl ?_)))
    obtain ⟨oe12, b10, e12, H11⟩ := H9
    refine z_getP dX11_forged_17 wf_X11_51 (by decide) (by decide) rfl oe12 (fun q => (by cases q.symm.trans e12)) (fun j q => ?_)
    cases q.symm.trans e12
    refine z_aload_n 0 dX11_forged_20 rfl rfl ?_
    obtain ⟨oc15, I13, P14, c15, H16⟩ := H11
    refine z_virt (As := [.ref b7]) (st := []) (r1 := none) (h1 := (g, I13, P14)) dX11_forged_21 kX7_weigh wm_X11_193 ⟨by decide, by decide⟩ rfl rfl (Nat.le_of_ble_eq_true rfl) (by decide) (by decide) oc15 c15 ?_
    refine z_aload_n 1 dX11_forged_24 rfl rfl ?_
    obtain ⟨oe19, b17, e19, H18⟩ := H16
    refine z_getP dX11_forged_25 wf_X11_51 (by decide) (by decide) rfl oe19 (fun q => (by cases q.symm.trans e19)) (fun j q => ?_)
    cases q.symm.trans e19
    refine z_iload_n 3 dX11_forged_28 rfl ?_
    obtain ⟨oc21, w20, c21, H22⟩ := H18
    refine z_virt (As := [.int x2]) (st := []) (r1 := (some (.int w20))) (h1 := (g, I13, P14)) dX11_forged_29 kX7_judge wm_X11_197 ⟨by decide, by decide⟩ rfl rfl (Nat.le_of_ble_eq_true rfl) (by decide) (by decide) oc21 c21 ?_
    obtain ⟨rfl, rfl⟩ := H22
    exact z_iret dX11_forged_32 rfl (by decide) (by decide)
theorem eX11_forged {g : zG} {I : Nat → Nat → Int32} {P : Nat → Nat → Option Nat} {r : Option Value} {h' : zH} {a0 : Nat} {x1 : Int32} {x2 : Int32} (H : Zt none mX11_forged 0 0 0 [(0, .ref a0), (1, .int x1), (2, .int x2)] [] (g, I, P) r h') : Cl mX11_forged [.ref a0, .int x1, .int x2] (g, I, P) r h' := Cl.of (by decide) (Nat.le_of_ble_eq_true rfl) H
theorem dX11_chance_0 : decode cX11_chance 0 = .ok (.iload_n 1, 1) := by decide +kernel
theorem dX11_chance_1 : decode cX11_chance 1 = .ok (.iconst 1, 1) := by decide +kernel
theorem dX11_chance_2 : decode cX11_chance 2 = .ok (.if_icmp .lt 29, 3) := by decide +kernel
theorem dX11_chance_5 : decode cX11_chance 5 = .ok (.iload_n 1, 1) := by decide +kernel
theorem dX11_chance_6 : decode cX11_chance 6 = .ok (.bipush 12, 2) := by decide +kernel
theorem dX11_chance_8 : decode cX11_chance 8 = .ok (.if_icmp .gt 23, 3) := by decide +kernel
theorem dX11_chance_11 : decode cX11_chance 11 = .ok (.iload_n 2, 1) := by decide +kernel
theorem dX11_chance_12 : decode cX11_chance 12 = .ok (.ifCond .lt 19, 3) := by decide +kernel
theorem dX11_chance_15 : decode cX11_chance 15 = .ok (.iload_n 2, 1) := by decide +kernel
theorem dX11_chance_16 : decode cX11_chance 16 = .ok (.bipush 9, 2) := by decide +kernel
theorem dX11_chance_18 : decode cX11_chance 18 = .ok (.if_icmp .gt 13, 3) := by decide +kernel
theorem dX11_chance_21 : decode cX11_chance 21 = .ok (.iload_n 3, 1) := by decide +kernel
theorem dX11_chance_22 : decode cX11_chance 22 = .ok (.ifCond .lt 9, 3) := by decide +kernel
theorem dX11_chance_25 : decode cX11_chance 25 = .ok (.iload_n 3, 1) := by decide +kernel
theorem dX11_chance_26 : decode cX11_chance 26 = .ok (.bipush 10, 2) := by decide +kernel
theorem dX11_chance_28 : decode cX11_chance 28 = .ok (.if_icmp .le 7, 3) := by decide +kernel
theorem dX11_chance_31 : decode cX11_chance 31 = .ok (.ldc2_w 135, 3) := by decide +kernel
theorem dX11_chance_34 : decode cX11_chance 34 = .ok (.lreturn, 1) := by decide +kernel
theorem dX11_chance_35 : decode cX11_chance 35 = .ok (.lconst 1, 1) := by decide +kernel
theorem dX11_chance_36 : decode cX11_chance 36 = .ok (.lstore 5, 2) := by decide +kernel
theorem dX11_chance_38 : decode cX11_chance 38 = .ok (.iconst 0, 1) := by decide +kernel
theorem dX11_chance_39 : decode cX11_chance 39 = .ok (.istore 7, 2) := by decide +kernel
theorem dX11_chance_41 : decode cX11_chance 41 = .ok (.iload 7, 2) := by decide +kernel
theorem dX11_chance_43 : decode cX11_chance 43 = .ok (.iload_n 2, 1) := by decide +kernel
theorem dX11_chance_44 : decode cX11_chance 44 = .ok (.if_icmp .ge 17, 3) := by decide +kernel
theorem dX11_chance_47 : decode cX11_chance 47 = .ok (.lload 5, 2) := by decide +kernel
theorem dX11_chance_49 : decode cX11_chance 49 = .ok (.ldc2_w 200, 3) := by decide +kernel
theorem dX11_chance_52 : decode cX11_chance 52 = .ok (.lmul, 1) := by decide +kernel
theorem dX11_chance_53 : decode cX11_chance 53 = .ok (.lstore 5, 2) := by decide +kernel
theorem dX11_chance_55 : decode cX11_chance 55 = .ok (.iinc 7 1, 3) := by decide +kernel
theorem dX11_chance_58 : decode cX11_chance 58 = .ok (.goto (-17), 3) := by decide +kernel
theorem dX11_chance_61 : decode cX11_chance 61 = .ok (.lconst 0, 1) := by decide +kernel
theorem dX11_chance_62 : decode cX11_chance 62 = .ok (.lstore 7, 2) := by decide +kernel
theorem dX11_chance_64 : decode cX11_chance 64 = .ok (.iload_n 1, 1) := by decide +kernel
theorem dX11_chance_65 : decode cX11_chance 65 = .ok (.istore 9, 2) := by decide +kernel
theorem dX11_chance_67 : decode cX11_chance 67 = .ok (.iload 9, 2) := by decide +kernel
theorem dX11_chance_69 : decode cX11_chance 69 = .ok (.iload_n 2, 1) := by decide +kernel
theorem dX11_chance_70 : decode cX11_chance 70 = .ok (.if_icmp .gt 21, 3) := by decide +kernel
theorem dX11_chance_73 : decode cX11_chance 73 = .ok (.lload 7, 2) := by decide +kernel
theorem dX11_chance_75 : decode cX11_chance 75 = .ok (.iload 9, 2) := by decide +kernel
theorem dX11_chance_77 : decode cX11_chance 77 = .ok (.iload_n 2, 1) := by decide +kernel
theorem dX11_chance_78 : decode cX11_chance 78 = .ok (.iload_n 3, 1) := by decide +kernel
theorem dX11_chance_79 : decode cX11_chance 79 = .ok (.invokestatic 202, 3) := by decide +kernel
theorem dX11_chance_82 : decode cX11_chance 82 = .ok (.ladd, 1) := by decide +kernel
theorem dX11_chance_83 : decode cX11_chance 83 = .ok (.lstore 7, 2) := by decide +kernel
theorem dX11_chance_85 : decode cX11_chance 85 = .ok (.iinc 9 1, 3) := by decide +kernel
theorem dX11_chance_88 : decode cX11_chance 88 = .ok (.goto (-21), 3) := by decide +kernel
theorem dX11_chance_91 : decode cX11_chance 91 = .ok (.lload 7, 2) := by decide +kernel
theorem dX11_chance_93 : decode cX11_chance 93 = .ok (.lload 5, 2) := by decide +kernel
theorem dX11_chance_95 : decode cX11_chance 95 = .ok (.iload 4, 2) := by decide +kernel
theorem dX11_chance_97 : decode cX11_chance 97 = .ok (.invokestatic 147, 3) := by decide +kernel
theorem dX11_chance_100 : decode cX11_chance 100 = .ok (.lreturn, 1) := by decide +kernel
set_option maxRecDepth 10000 in
theorem wX11_chance_0 {g : zG} {I : Nat → Nat → Int32} {P : Nat → Nat → Option Nat} {r : Option Value} {h' : zH} {a0 : Nat} {x1 : Int32} {x2 : Int32} {x3 : Int32} {x4 : Int32} (H : ((x1 < 1) → r = some (.long (-1)) ∧ h' = (g, I, P)) ∧ ((¬ x1 < 1) → ((12 < x1) → r = some (.long (-1)) ∧ h' = (g, I, P)) ∧ ((¬ 12 < x1) → ((x2 < 0) → r = some (.long (-1)) ∧ h' = (g, I, P)) ∧ ((¬ x2 < 0) → ((9 < x2) → r = some (.long (-1)) ∧ h' = (g, I, P)) ∧ ((¬ 9 < x2) → ((x3 < 0) → r = some (.long (-1)) ∧ h' = (g, I, P)) ∧ ((¬ x3 < 0) → ((x3 ≤ 10) → Zt none mX11_chance 0 0 41 [(1, .int x1), (2, .int x2), (3, .int x3), (4, .int x4), (5, .long 1), (7, .int 0)] [] (g, I, P) r h') ∧ ((¬ x3 ≤ 10) → r = some (.long (-1)) ∧ h' = (g, I, P)))))))) : Zt none mX11_chance 0 0 0 [(0, .ref a0), (1, .int x1), (2, .int x2), (3, .int x3), (4, .int x4)] [] (g, I, P) r h' := by
  refine z_iload_n 1 dX11_chance_0 rfl (z_iconst (w := 1) dX11_chance_1 (by decide) ?_)
  refine z_icmp_lt (t := 31) dX11_chance_2 (by decide) (fun q => ?_) (fun q => ?_)
  · have H1 := H.1 q
    refine z_ldc2 dX11_chance_31 wk_X11_135 ?_
    obtain ⟨rfl, rfl⟩ := H1
    exact z_lret dX11_chance_34 rfl (by decide) (by decide)
  · have H2 := H.2 q
    refine z_iload_n 1 dX11_chance_5 rfl (z_bipush (w := 12) dX11_chance_6 (by decide) ?_)
    refine z_icmp_gt (t := 31) dX11_chance_8 (by decide) (fun q => ?_) (fun q => ?_)
    · have H3 := H2.1 q
      refine z_ldc2 dX11_chance_31 wk_X11_135 ?_
      obtain ⟨rfl, rfl⟩ := H3
      exact z_lret dX11_chance_34 rfl (by decide) (by decide)
    · have H4 := H2.2 q
      refine z_iload_n 2 dX11_chance_11 rfl ?_
      refine z_if_lt (t := 31) dX11_chance_12 (by decide) (fun q => ?_) (fun q => ?_)
      · have H5 := H4.1 q
        refine z_ldc2 dX11_chance_31 wk_X11_135 ?_
        obtain ⟨rfl, rfl⟩ := H5
        exact z_lret dX11_chance_34 rfl (by decide) (by decide)
      · have H6 := H4.2 q
        refine z_iload_n 2 dX11_chance_15 rfl (z_bipush (w := 9) dX11_chance_16 (by decide) ?_)
        refine z_icmp_gt (t := 31) dX11_chance_18 (by decide) (fun q => ?_) (fun q => ?_)
        · have H7 := H6.1 q
          refine z_ldc2 dX11_chance_31 wk_X11_135 ?_
          obtain ⟨rfl, rfl⟩ := H7
          exact z_lret dX11_chance_34 rfl (by decide) (by decide)
        · have H8 := H6.2 q
          refine z_iload_n 3 dX11_chance_21 rfl ?_
          refine z_if_lt (t := 31) dX11_chance_22 (by decide) (fun q => ?_) (fun q => ?_)
          · have H9 := H8.1 q
            refine z_ldc2 dX11_chance_31 wk_X11_135 ?_
            obtain ⟨rfl, rfl⟩ := H9
            exact z_lret dX11_chance_34 rfl (by decide) (by decide)
          · have H10 := H8.2 q
            refine z_iload_n 3 dX11_chance_25 rfl (z_bipush (w := 10) dX11_chance_26 (by decide) ?_)
            refine z_icmp_le (t := 35) dX11_chance_28 (by decide) (fun q => ?_) (fun q => ?_)
            · have H11 := H10.1 q
              refine z_lconst (w := 1) dX11_chance_35 (by decide) (z_lstore (lv' := [(5, .long 1), (0, .ref a0), (1, .int x1), (2, .int x2), (3, .int x3), (4, .int x4)]) dX11_chance_36 (by decide) rfl (z_iconst (w := 0) dX11_chance_38 (by decide) (z_istore (lv' := [(7, .int 0), (5, .long 1), (0, .ref a0), (1, .int x1), (2, .int x2), (3, .int x3), (4, .int x4)]) dX11_chance_39 (by decide) rfl ?_)))
              exact z_less [3, 4, 5, 6, 1, 0] rfl H11
            · have H12 := H10.2 q
              refine z_ldc2 dX11_chance_31 wk_X11_135 ?_
              obtain ⟨rfl, rfl⟩ := H12
              exact z_lret dX11_chance_34 rfl (by decide) (by decide)
theorem eX11_chance {g : zG} {I : Nat → Nat → Int32} {P : Nat → Nat → Option Nat} {r : Option Value} {h' : zH} {a0 : Nat} {x1 : Int32} {x2 : Int32} {x3 : Int32} {x4 : Int32} (H : Zt none mX11_chance 0 0 0 [(0, .ref a0), (1, .int x1), (2, .int x2), (3, .int x3), (4, .int x4)] [] (g, I, P) r h') : Cl mX11_chance [.ref a0, .int x1, .int x2, .int x3, .int x4] (g, I, P) r h' := Cl.of (by decide) (Nat.le_of_ble_eq_true rfl) H
set_option maxRecDepth 10000 in
theorem wX11_chance_41 {g : zG} {I : Nat → Nat → Int32} {P : Nat → Nat → Option Nat} {r : Option Value} {h' : zH} {x1 : Int32} {x2 : Int32} {x3 : Int32} {x4 : Int32} {l5 : Int64} {x7 : Int32} (H : ((x2 ≤ x7) → Zt none mX11_chance 0 0 67 [(2, .int x2), (3, .int x3), (4, .int x4), (5, .long l5), (7, .long 0), (9, .int x1)] [] (g, I, P) r h') ∧ ((¬ x2 ≤ x7) → Zt none mX11_chance 0 0 41 [(1, .int x1), (2, .int x2), (3, .int x3), (4, .int x4), (5, .long (l5 * 10)), (7, .int (x7 + 1))] [] (g, I, P) r h')) : Zt none mX11_chance 0 0 41 [(1, .int x1), (2, .int x2), (3, .int x3), (4, .int x4), (5, .long l5), (7, .int x7)] [] (g, I, P) r h' := by
  refine z_iload 5 dX11_chance_41 rfl (z_iload_n 1 dX11_chance_43 rfl ?_)
  refine z_icmp_ge (t := 61) dX11_chance_44 (by decide) (fun q => ?_) (fun q => ?_)
  · have H1 := H.1 q
    refine z_lconst (w := 0) dX11_chance_61 (by decide) (z_lstore (lv' := [(7, .long 0), (1, .int x1), (2, .int x2), (3, .int x3), (4, .int x4), (5, .long l5)]) dX11_chance_62 (by decide) rfl (z_iload_n 1 dX11_chance_64 rfl (z_istore (lv' := [(9, .int x1), (7, .long 0), (1, .int x1), (2, .int x2), (3, .int x3), (4, .int x4), (5, .long l5)]) dX11_chance_65 (by decide) rfl ?_)))
    exact z_less [3, 4, 5, 6, 1, 0] rfl H1
  · have H2 := H.2 q
    refine z_lload 4 dX11_chance_47 rfl (z_ldc2 dX11_chance_49 wk_X11_200 (z_lmul dX11_chance_52 (z_lstore (lv' := [(5, .long (l5 * 10)), (1, .int x1), (2, .int x2), (3, .int x3), (4, .int x4), (7, .int x7)]) dX11_chance_53 (by decide) rfl (z_iinc (y := x7 + 1) (lv' := [(7, .int (x7 + 1)), (5, .long (l5 * 10)), (1, .int x1), (2, .int x2), (3, .int x3), (4, .int x4)]) 5 dX11_chance_55 rfl rfl (by decide) rfl (z_goto (t := 41) dX11_chance_58 (by decide) ?_)))))
    exact z_less [2, 3, 4, 5, 1, 0] rfl H2
set_option maxRecDepth 10000 in
theorem wX11_chance_67 {g : zG} {I : Nat → Nat → Int32} {P : Nat → Nat → Option Nat} {r : Option Value} {h' : zH} {x2 : Int32} {x3 : Int32} {x4 : Int32} {l5 : Int64} {l7 : Int64} {x9 : Int32} (H : ((x2 < x9) → ∃ (w2 : Int64), Cl mX11_least [.long l7, .long l5, .int x4] (g, I, P) (some (.long w2)) (g, I, P) ∧ r = some (.long w2) ∧ h' = (g, I, P)) ∧ ((¬ x2 < x9) → ∃ (w6 : Int64), Cl mX11_waysOfExactly [.int x9, .int x2, .int x3] (g, I, P) (some (.long w6)) (g, I, P) ∧ Zt none mX11_chance 0 0 67 [(2, .int x2), (3, .int x3), (4, .int x4), (5, .long l5), (7, .long (l7 + w6)), (9, .int (x9 + 1))] [] (g, I, P) r h')) : Zt none mX11_chance 0 0 67 [(2, .int x2), (3, .int x3), (4, .int x4), (5, .long l5), (7, .long l7), (9, .int x9)] [] (g, I, P) r h' := by
  refine z_iload 5 dX11_chance_67 rfl (z_iload_n 0 dX11_chance_69 rfl ?_)
  refine z_icmp_gt (t := 91) dX11_chance_70 (by decide) (fun q => ?_) (fun q => ?_)
  · have H1 := H.1 q
    refine z_lload 4 dX11_chance_91 rfl (z_lload 3 dX11_chance_93 rfl (z_iload 2 dX11_chance_95 rfl ?_))
    obtain ⟨w2, c3, H4⟩ := H1
    refine z_stat (As := [.long l7, .long l5, .int x4]) (st := []) (r1 := (some (.long w2))) (h1 := (g, I, P)) dX11_chance_97 kX11_least wm_X11_147 ⟨by decide, by decide⟩ rfl rfl (Nat.le_of_ble_eq_true rfl) (by decide) (by decide) c3 ?_
    obtain ⟨rfl, rfl⟩ := H4
    exact z_lret dX11_chance_100 rfl (by decide) (by decide)
  · have H5 := H.2 q
    refine z_lload 4 dX11_chance_73 rfl (z_iload 5 dX11_chance_75 rfl (z_iload_n 0 dX11_chance_77 rfl (z_iload_n 1 dX11_chance_78 rfl ?_)))
    obtain ⟨w6, c7, H8⟩ := H5
    refine z_stat (As := [.int x9, .int x2, .int x3]) (st := [.long l7]) (r1 := (some (.long w6))) (h1 := (g, I, P)) dX11_chance_79 kX11_waysOfExactly wm_X11_202 ⟨by decide, by decide⟩ rfl rfl (Nat.le_of_ble_eq_true rfl) (by decide) (by decide) c7 ?_
    refine z_ladd dX11_chance_82 (z_lstore (lv' := [(7, .long (l7 + w6)), (2, .int x2), (3, .int x3), (4, .int x4), (5, .long l5), (9, .int x9)]) dX11_chance_83 (by decide) rfl (z_iinc (y := x9 + 1) (lv' := [(9, .int (x9 + 1)), (7, .long (l7 + w6)), (2, .int x2), (3, .int x3), (4, .int x4), (5, .long l5)]) 5 dX11_chance_85 rfl rfl (by decide) rfl (z_goto (t := 67) dX11_chance_88 (by decide) ?_)))
    exact z_less [2, 3, 4, 5, 1, 0] rfl H8
theorem dX11_drawn_0 : decode cX11_drawn 0 = .ok (.aload_n 0, 1) := by decide +kernel
theorem dX11_drawn_1 : decode cX11_drawn 1 = .ok (.getfield 10, 3) := by decide +kernel
theorem dX11_drawn_4 : decode cX11_drawn 4 = .ok (.iload_n 1, 1) := by decide +kernel
theorem dX11_drawn_5 : decode cX11_drawn 5 = .ok (.invokevirtual 87, 3) := by decide +kernel
theorem dX11_drawn_8 : decode cX11_drawn 8 = .ok (.astore 5, 2) := by decide +kernel
theorem dX11_drawn_10 : decode cX11_drawn 10 = .ok (.aload 5, 2) := by decide +kernel
theorem dX11_drawn_12 : decode cX11_drawn 12 = .ok (.ifnull 13, 3) := by decide +kernel
theorem dX11_drawn_15 : decode cX11_drawn 15 = .ok (.iload_n 3, 1) := by decide +kernel
theorem dX11_drawn_16 : decode cX11_drawn 16 = .ok (.ifCond .lt 9, 3) := by decide +kernel
theorem dX11_drawn_19 : decode cX11_drawn 19 = .ok (.iload_n 3, 1) := by decide +kernel
theorem dX11_drawn_20 : decode cX11_drawn 20 = .ok (.bipush 60, 2) := by decide +kernel
theorem dX11_drawn_22 : decode cX11_drawn 22 = .ok (.if_icmp .le 6, 3) := by decide +kernel
theorem dX11_drawn_25 : decode cX11_drawn 25 = .ok (.bipush (-2), 2) := by decide +kernel
theorem dX11_drawn_27 : decode cX11_drawn 27 = .ok (.ireturn, 1) := by decide +kernel
theorem dX11_drawn_28 : decode cX11_drawn 28 = .ok (.aload_n 0, 1) := by decide +kernel
theorem dX11_drawn_29 : decode cX11_drawn 29 = .ok (.getfield 30, 3) := by decide +kernel
theorem dX11_drawn_32 : decode cX11_drawn 32 = .ok (.aload 5, 2) := by decide +kernel
theorem dX11_drawn_34 : decode cX11_drawn 34 = .ok (.iload_n 2, 1) := by decide +kernel
theorem dX11_drawn_35 : decode cX11_drawn 35 = .ok (.iload_n 3, 1) := by decide +kernel
theorem dX11_drawn_36 : decode cX11_drawn 36 = .ok (.invokevirtual 206, 3) := by decide +kernel
theorem dX11_drawn_39 : decode cX11_drawn 39 = .ok (.aload_n 0, 1) := by decide +kernel
theorem dX11_drawn_40 : decode cX11_drawn 40 = .ok (.getfield 30, 3) := by decide +kernel
theorem dX11_drawn_43 : decode cX11_drawn 43 = .ok (.iload 4, 2) := by decide +kernel
theorem dX11_drawn_45 : decode cX11_drawn 45 = .ok (.invokevirtual 112, 3) := by decide +kernel
theorem dX11_drawn_48 : decode cX11_drawn 48 = .ok (.ireturn, 1) := by decide +kernel
set_option maxRecDepth 10000 in
theorem wX11_drawn_0 {g : zG} {I : Nat → Nat → Int32} {P : Nat → Nat → Option Nat} {r : Option Value} {h' : zH} {a0 : Nat} {x1 : Int32} {x2 : Int32} {x3 : Int32} {x4 : Int32} (H : zk g a0 11 ∧ ∃ b1, P a0 0 = some b1 ∧ zk g b1 9 ∧ ∃ (w4 : Option Nat), Cl mX9_hillOf [.ref b1, .int x1] (g, I, P) (some (zov w4)) (g, I, P) ∧ ((w4 = none) → r = some (.int (-2)) ∧ h' = (g, I, P)) ∧ (∀ b7, w4 = some b7 → ((x3 < 0) → r = some (.int (-2)) ∧ h' = (g, I, P)) ∧ ((¬ x3 < 0) → ((x3 ≤ 60) → zk g a0 11 ∧ ∃ b13, P a0 3 = some b13 ∧ zk g b13 2 ∧ ∃ (I16 : Nat → Nat → Int32) (P17 : Nat → Nat → Option Nat), Cl mX2_draw [.ref b13, .ref b7, .int x2, .int x3] (g, I, P) none (g, I16, P17) ∧ zk g a0 11 ∧ ∃ b20, P17 a0 3 = some b20 ∧ zk g b20 2 ∧ ∃ (w23 : Int32), Cl mX2_look [.ref b20, .int x4] (g, I16, P17) (some (.int w23)) (g, I16, P17) ∧ r = some (.int w23) ∧ h' = (g, I16, P17)) ∧ ((¬ x3 ≤ 60) → r = some (.int (-2)) ∧ h' = (g, I, P))))) : Zt none mX11_drawn 0 0 0 [(0, .ref a0), (1, .int x1), (2, .int x2), (3, .int x3), (4, .int x4)] [] (g, I, P) r h' := by
  refine z_aload_n 0 dX11_drawn_0 rfl rfl ?_
  obtain ⟨oe3, b1, e3, H2⟩ := H
  refine z_getP dX11_drawn_1 wf_X11_10 (by decide) (by decide) rfl oe3 (fun q => (by cases q.symm.trans e3)) (fun j q => ?_)
  cases q.symm.trans e3
  refine z_iload_n 1 dX11_drawn_4 rfl ?_
  obtain ⟨oc5, w4, c5, H6⟩ := H2
  refine z_virt (As := [.int x1]) (st := []) (r1 := (some (zov w4))) (h1 := (g, I, P)) dX11_drawn_5 kX9_hillOf wm_X11_87 ⟨by decide, by decide⟩ rfl rfl (Nat.le_of_ble_eq_true rfl) (by decide) (by decide) oc5 c5 ?_
  cases w4 with
  | none =>
    have H8 := H6.1 rfl
    refine z_astore (lv' := [(5, .null), (0, .ref a0), (1, .int x1), (2, .int x2), (3, .int x3), (4, .int x4)]) dX11_drawn_8 (by decide) rfl rfl (z_aload 0 dX11_drawn_10 rfl rfl (z_ifnullN (t := 25) dX11_drawn_12 (by decide) (z_bipush (w := (-2)) dX11_drawn_25 (by decide) ?_)))
    obtain ⟨rfl, rfl⟩ := H8
    exact z_iret dX11_drawn_27 rfl (by decide) (by decide)
  | some b7 =>
    have H9 := H6.2 b7 rfl
    refine z_astore (lv' := [(5, .ref b7), (0, .ref a0), (1, .int x1), (2, .int x2), (3, .int x3), (4, .int x4)]) dX11_drawn_8 (by decide) rfl rfl (z_aload 0 dX11_drawn_10 rfl rfl (z_ifnullR dX11_drawn_12 (z_iload_n 4 dX11_drawn_15 rfl ?_)))
    refine z_if_lt (t := 25) dX11_drawn_16 (by decide) (fun q => ?_) (fun q => ?_)
    · have H10 := H9.1 q
      refine z_bipush (w := (-2)) dX11_drawn_25 (by decide) ?_
      obtain ⟨rfl, rfl⟩ := H10
      exact z_iret dX11_drawn_27 rfl (by decide) (by decide)
    · have H11 := H9.2 q
      refine z_iload_n 4 dX11_drawn_19 rfl (z_bipush (w := 60) dX11_drawn_20 (by decide) ?_)
      refine z_icmp_le (t := 28) dX11_drawn_22 (by decide) (fun q => ?_) (fun q => ?_)
      · have H12 := H11.1 q
        refine z_aload_n 1 dX11_drawn_28 rfl rfl ?_
        obtain ⟨oe15, b13, e15, H14⟩ := H12
        refine z_getP dX11_drawn_29 wf_X11_30 (by decide) (by decide) rfl oe15 (fun q => (by cases q.symm.trans e15)) (fun j q => ?_)
        cases q.symm.trans e15
        refine z_aload 0 dX11_drawn_32 rfl rfl (z_iload_n 3 dX11_drawn_34 rfl (z_iload_n 4 dX11_drawn_35 rfl ?_))
        obtain ⟨oc18, I16, P17, c18, H19⟩ := H14
        refine z_virt (As := [.ref b7, .int x2, .int x3]) (st := []) (r1 := none) (h1 := (g, I16, P17)) dX11_drawn_36 kX2_draw wm_X11_206 ⟨by decide, by decide⟩ rfl rfl (Nat.le_of_ble_eq_true rfl) (by decide) (by decide) oc18 c18 ?_
        refine z_aload_n 1 dX11_drawn_39 rfl rfl ?_
        obtain ⟨oe22, b20, e22, H21⟩ := H19
        refine z_getP dX11_drawn_40 wf_X11_30 (by decide) (by decide) rfl oe22 (fun q => (by cases q.symm.trans e22)) (fun j q => ?_)
        cases q.symm.trans e22
        refine z_iload 5 dX11_drawn_43 rfl ?_
        obtain ⟨oc24, w23, c24, H25⟩ := H21
        refine z_virt (As := [.int x4]) (st := []) (r1 := (some (.int w23))) (h1 := (g, I16, P17)) dX11_drawn_45 kX2_look wm_X11_112 ⟨by decide, by decide⟩ rfl rfl (Nat.le_of_ble_eq_true rfl) (by decide) (by decide) oc24 c24 ?_
        obtain ⟨rfl, rfl⟩ := H25
        exact z_iret dX11_drawn_48 rfl (by decide) (by decide)
      · have H26 := H11.2 q
        refine z_bipush (w := (-2)) dX11_drawn_25 (by decide) ?_
        obtain ⟨rfl, rfl⟩ := H26
        exact z_iret dX11_drawn_27 rfl (by decide) (by decide)
theorem eX11_drawn {g : zG} {I : Nat → Nat → Int32} {P : Nat → Nat → Option Nat} {r : Option Value} {h' : zH} {a0 : Nat} {x1 : Int32} {x2 : Int32} {x3 : Int32} {x4 : Int32} (H : Zt none mX11_drawn 0 0 0 [(0, .ref a0), (1, .int x1), (2, .int x2), (3, .int x3), (4, .int x4)] [] (g, I, P) r h') : Cl mX11_drawn [.ref a0, .int x1, .int x2, .int x3, .int x4] (g, I, P) r h' := Cl.of (by decide) (Nat.le_of_ble_eq_true rfl) H
theorem dX11_next_0 : decode cX11_next 0 = .ok (.aload_n 0, 1) := by decide +kernel
theorem dX11_next_1 : decode cX11_next 1 = .ok (.getfield 37, 3) := by decide +kernel
theorem dX11_next_4 : decode cX11_next 4 = .ok (.aload_n 0, 1) := by decide +kernel
theorem dX11_next_5 : decode cX11_next 5 = .ok (.getfield 10, 3) := by decide +kernel
theorem dX11_next_8 : decode cX11_next 8 = .ok (.iload_n 1, 1) := by decide +kernel
theorem dX11_next_9 : decode cX11_next 9 = .ok (.invokevirtual 87, 3) := by decide +kernel
theorem dX11_next_12 : decode cX11_next 12 = .ok (.aload_n 0, 1) := by decide +kernel
theorem dX11_next_13 : decode cX11_next 13 = .ok (.getfield 10, 3) := by decide +kernel
theorem dX11_next_16 : decode cX11_next 16 = .ok (.iload_n 2, 1) := by decide +kernel
theorem dX11_next_17 : decode cX11_next 17 = .ok (.invokevirtual 113, 3) := by decide +kernel
theorem dX11_next_20 : decode cX11_next 20 = .ok (.iload_n 3, 1) := by decide +kernel
theorem dX11_next_21 : decode cX11_next 21 = .ok (.invokevirtual 120, 3) := by decide +kernel
theorem dX11_next_24 : decode cX11_next 24 = .ok (.ifCond .ne 6, 3) := by decide +kernel
theorem dX11_next_27 : decode cX11_next 27 = .ok (.bipush (-2), 2) := by decide +kernel
theorem dX11_next_29 : decode cX11_next 29 = .ok (.ireturn, 1) := by decide +kernel
theorem dX11_next_30 : decode cX11_next 30 = .ok (.iload 4, 2) := by decide +kernel
theorem dX11_next_32 : decode cX11_next 32 = .ok (.tableswitch 52 0 2 #[28, 36, 44], 28) := by decide +kernel
theorem dX11_next_60 : decode cX11_next 60 = .ok (.aload_n 0, 1) := by decide +kernel
theorem dX11_next_61 : decode cX11_next 61 = .ok (.getfield 37, 3) := by decide +kernel
theorem dX11_next_64 : decode cX11_next 64 = .ok (.invokevirtual 210, 3) := by decide +kernel
theorem dX11_next_67 : decode cX11_next 67 = .ok (.ireturn, 1) := by decide +kernel
theorem dX11_next_68 : decode cX11_next 68 = .ok (.aload_n 0, 1) := by decide +kernel
theorem dX11_next_69 : decode cX11_next 69 = .ok (.getfield 37, 3) := by decide +kernel
theorem dX11_next_72 : decode cX11_next 72 = .ok (.invokevirtual 213, 3) := by decide +kernel
theorem dX11_next_75 : decode cX11_next 75 = .ok (.ireturn, 1) := by decide +kernel
theorem dX11_next_76 : decode cX11_next 76 = .ok (.aload_n 0, 1) := by decide +kernel
theorem dX11_next_77 : decode cX11_next 77 = .ok (.getfield 37, 3) := by decide +kernel
theorem dX11_next_80 : decode cX11_next 80 = .ok (.invokevirtual 216, 3) := by decide +kernel
theorem dX11_next_83 : decode cX11_next 83 = .ok (.ireturn, 1) := by decide +kernel
theorem dX11_next_84 : decode cX11_next 84 = .ok (.bipush (-2), 2) := by decide +kernel
theorem dX11_next_86 : decode cX11_next 86 = .ok (.ireturn, 1) := by decide +kernel
set_option maxRecDepth 10000 in
theorem wX11_next_0 {g : zG} {I : Nat → Nat → Int32} {P : Nat → Nat → Option Nat} {r : Option Value} {h' : zH} {a0 : Nat} {x1 : Int32} {x2 : Int32} {x3 : Int32} {x4 : Int32} (H : zk g a0 11 ∧ ∃ b1, P a0 4 = some b1 ∧ zk g a0 11 ∧ ∃ b4, P a0 0 = some b4 ∧ zk g b4 9 ∧ ∃ (w7 : Option Nat), Cl mX9_hillOf [.ref b4, .int x1] (g, I, P) (some (zov w7)) (g, I, P) ∧ ((w7 = none) → zk g a0 11 ∧ ∃ b13, P a0 0 = some b13 ∧ zk g b13 9 ∧ ∃ (w16 : Option Nat), Cl mX9_linesOf [.ref b13, .int x2] (g, I, P) (some (zov w16)) (g, I, P) ∧ ((w16 = none) → zk g b1 1 ∧ ∃ (w22 : Int32) (I23 : Nat → Nat → Int32) (P24 : Nat → Nat → Option Nat), Cl mX1_hears [.ref b1, .null, .null, .int x3] (g, I, P) (some (.int w22)) (g, I23, P24) ∧ ((¬ w22 = 0) → ((x4 = 0) → zk g a0 11 ∧ ∃ b30, P24 a0 4 = some b30 ∧ zk g b30 1 ∧ ∃ (w33 : Int32), Cl mX1_lettersBehind [.ref b30] (g, I23, P24) (some (.int w33)) (g, I23, P24) ∧ r = some (.int w33) ∧ h' = (g, I23, P24)) ∧ ((x4 = 1) → zk g a0 11 ∧ ∃ b38, P24 a0 4 = some b38 ∧ zk g b38 1 ∧ ∃ (w41 : Int32), Cl mX1_keenest [.ref b38] (g, I23, P24) (some (.int w41)) (g, I23, P24) ∧ r = some (.int w41) ∧ h' = (g, I23, P24)) ∧ ((x4 = 2) → zk g a0 11 ∧ ∃ b46, P24 a0 4 = some b46 ∧ zk g b46 1 ∧ ∃ (w49 : Int32) (I50 : Nat → Nat → Int32), Cl mX1_mended [.ref b46] (g, I23, P24) (some (.int w49)) (g, I50, P24) ∧ r = some (.int w49) ∧ h' = (g, I50, P24)) ∧ (¬ x4 = 0 → ¬ x4 = 1 → ¬ x4 = 2 → r = some (.int (-2)) ∧ h' = (g, I23, P24))) ∧ ((w22 = 0) → r = some (.int (-2)) ∧ h' = (g, I23, P24))) ∧ (∀ b19, w16 = some b19 → zk g b1 1 ∧ ∃ (w55 : Int32) (I56 : Nat → Nat → Int32) (P57 : Nat → Nat → Option Nat), Cl mX1_hears [.ref b1, .null, .ref b19, .int x3] (g, I, P) (some (.int w55)) (g, I56, P57) ∧ ((¬ w55 = 0) → ((x4 = 0) → zk g a0 11 ∧ ∃ b63, P57 a0 4 = some b63 ∧ zk g b63 1 ∧ ∃ (w66 : Int32), Cl mX1_lettersBehind [.ref b63] (g, I56, P57) (some (.int w66)) (g, I56, P57) ∧ r = some (.int w66) ∧ h' = (g, I56, P57)) ∧ ((x4 = 1) → zk g a0 11 ∧ ∃ b71, P57 a0 4 = some b71 ∧ zk g b71 1 ∧ ∃ (w74 : Int32), Cl mX1_keenest [.ref b71] (g, I56, P57) (some (.int w74)) (g, I56, P57) ∧ r = some (.int w74) ∧ h' = (g, I56, P57)) ∧ ((x4 = 2) → zk g a0 11 ∧ ∃ b79, P57 a0 4 = some b79 ∧ zk g b79 1 ∧ ∃ (w82 : Int32) (I83 : Nat → Nat → Int32), Cl mX1_mended [.ref b79] (g, I56, P57) (some (.int w82)) (g, I83, P57) ∧ r = some (.int w82) ∧ h' = (g, I83, P57)) ∧ (¬ x4 = 0 → ¬ x4 = 1 → ¬ x4 = 2 → r = some (.int (-2)) ∧ h' = (g, I56, P57))) ∧ ((w55 = 0) → r = some (.int (-2)) ∧ h' = (g, I56, P57)))) ∧ (∀ b10, w7 = some b10 → zk g a0 11 ∧ ∃ b88, P a0 0 = some b88 ∧ zk g b88 9 ∧ ∃ (w91 : Option Nat), Cl mX9_linesOf [.ref b88, .int x2] (g, I, P) (some (zov w91)) (g, I, P) ∧ ((w91 = none) → zk g b1 1 ∧ ∃ (w97 : Int32) (I98 : Nat → Nat → Int32) (P99 : Nat → Nat → Option Nat), Cl mX1_hears [.ref b1, .ref b10, .null, .int x3] (g, I, P) (some (.int w97)) (g, I98, P99) ∧ ((¬ w97 = 0) → ((x4 = 0) → zk g a0 11 ∧ ∃ b105, P99 a0 4 = some b105 ∧ zk g b105 1 ∧ ∃ (w108 : Int32), Cl mX1_lettersBehind [.ref b105] (g, I98, P99) (some (.int w108)) (g, I98, P99) ∧ r = some (.int w108) ∧ h' = (g, I98, P99)) ∧ ((x4 = 1) → zk g a0 11 ∧ ∃ b113, P99 a0 4 = some b113 ∧ zk g b113 1 ∧ ∃ (w116 : Int32), Cl mX1_keenest [.ref b113] (g, I98, P99) (some (.int w116)) (g, I98, P99) ∧ r = some (.int w116) ∧ h' = (g, I98, P99)) ∧ ((x4 = 2) → zk g a0 11 ∧ ∃ b121, P99 a0 4 = some b121 ∧ zk g b121 1 ∧ ∃ (w124 : Int32) (I125 : Nat → Nat → Int32), Cl mX1_mended [.ref b121] (g, I98, P99) (some (.int w124)) (g, I125, P99) ∧ r = some (.int w124) ∧ h' = (g, I125, P99)) ∧ (¬ x4 = 0 → ¬ x4 = 1 → ¬ x4 = 2 → r = some (.int (-2)) ∧ h' = (g, I98, P99))) ∧ ((w97 = 0) → r = some (.int (-2)) ∧ h' = (g, I98, P99))) ∧ (∀ b94, w91 = some b94 → zk g b1 1 ∧ ∃ (w130 : Int32) (I131 : Nat → Nat → Int32) (P132 : Nat → Nat → Option Nat), Cl mX1_hears [.ref b1, .ref b10, .ref b94, .int x3] (g, I, P) (some (.int w130)) (g, I131, P132) ∧ ((¬ w130 = 0) → ((x4 = 0) → zk g a0 11 ∧ ∃ b138, P132 a0 4 = some b138 ∧ zk g b138 1 ∧ ∃ (w141 : Int32), Cl mX1_lettersBehind [.ref b138] (g, I131, P132) (some (.int w141)) (g, I131, P132) ∧ r = some (.int w141) ∧ h' = (g, I131, P132)) ∧ ((x4 = 1) → zk g a0 11 ∧ ∃ b146, P132 a0 4 = some b146 ∧ zk g b146 1 ∧ ∃ (w149 : Int32), Cl mX1_keenest [.ref b146] (g, I131, P132) (some (.int w149)) (g, I131, P132) ∧ r = some (.int w149) ∧ h' = (g, I131, P132)) ∧ ((x4 = 2) → zk g a0 11 ∧ ∃ b154, P132 a0 4 = some b154 ∧ zk g b154 1 ∧ ∃ (w157 : Int32) (I158 : Nat → Nat → Int32), Cl mX1_mended [.ref b154] (g, I131, P132) (some (.int w157)) (g, I158, P132) ∧ r = some (.int w157) ∧ h' = (g, I158, P132)) ∧ (¬ x4 = 0 → ¬ x4 = 1 → ¬ x4 = 2 → r = some (.int (-2)) ∧ h' = (g, I131, P132))) ∧ ((w130 = 0) → r = some (.int (-2)) ∧ h' = (g, I131, P132))))) : Zt none mX11_next 0 0 0 [(0, .ref a0), (1, .int x1), (2, .int x2), (3, .int x3), (4, .int x4)] [] (g, I, P) r h' := by
  refine z_aload_n 0 dX11_next_0 rfl rfl ?_
  obtain ⟨oe3, b1, e3, H2⟩ := H
  refine z_getP dX11_next_1 wf_X11_37 (by decide) (by decide) rfl oe3 (fun q => (by cases q.symm.trans e3)) (fun j q => ?_)
  cases q.symm.trans e3
  refine z_aload_n 0 dX11_next_4 rfl rfl ?_
  obtain ⟨oe6, b4, e6, H5⟩ := H2
  refine z_getP dX11_next_5 wf_X11_10 (by decide) (by decide) rfl oe6 (fun q => (by cases q.symm.trans e6)) (fun j q => ?_)
  cases q.symm.trans e6
  refine z_iload_n 1 dX11_next_8 rfl ?_
  obtain ⟨oc8, w7, c8, H9⟩ := H5
  refine z_virt (As := [.int x1]) (st := [.ref b1]) (r1 := (some (zov w7))) (h1 := (g, I, P)) dX11_next_9 kX9_hillOf wm_X11_87 ⟨by decide, by decide⟩ rfl rfl (Nat.le_of_ble_eq_true rfl) (by decide) (by decide) oc8 c8 ?_
  cases w7 with
  | none =>
    have H11 := H9.1 rfl
    refine z_aload_n 0 dX11_next_12 rfl rfl ?_
    obtain ⟨oe15, b13, e15, H14⟩ := H11
    refine z_getP dX11_next_13 wf_X11_10 (by decide) (by decide) rfl oe15 (fun q => (by cases q.symm.trans e15)) (fun j q => ?_)
    cases q.symm.trans e15
    refine z_iload_n 2 dX11_next_16 rfl ?_
    obtain ⟨oc17, w16, c17, H18⟩ := H14
    refine z_virt (As := [.int x2]) (st := [.null, .ref b1]) (r1 := (some (zov w16))) (h1 := (g, I, P)) dX11_next_17 kX9_linesOf wm_X11_113 ⟨by decide, by decide⟩ rfl rfl (Nat.le_of_ble_eq_true rfl) (by decide) (by decide) oc17 c17 ?_
    cases w16 with
    | none =>
      have H20 := H18.1 rfl
      refine z_iload_n 3 dX11_next_20 rfl ?_
      obtain ⟨oc25, w22, I23, P24, c25, H26⟩ := H20
      refine z_virt (As := [.null, .null, .int x3]) (st := []) (r1 := (some (.int w22))) (h1 := (g, I23, P24)) dX11_next_21 kX1_hears wm_X11_120 ⟨by decide, by decide⟩ rfl rfl (Nat.le_of_ble_eq_true rfl) (by decide) (by decide) oc25 c25 ?_
      refine z_if_ne (t := 30) dX11_next_24 (by decide) (fun q => ?_) (fun q => ?_)
      · have H27 := H26.1 q
        refine z_iload 4 dX11_next_30 rfl ?_
        by_cases q28 : x4 = 0
        · have H29 := H27.1 q28
          have eq28 : (x4 : Int32).toInt = 0 := by rw [q28]; decide
          refine z_tableIn (off := 28) (t := 60) dX11_next_32 (by rw [eq28]; decide) (by rw [eq28]; decide) (by rw [eq28]; rfl) (by decide) ?_
          refine z_aload_n 0 dX11_next_60 rfl rfl ?_
          obtain ⟨oe32, b30, e32, H31⟩ := H29
          refine z_getP dX11_next_61 wf_X11_37 (by decide) (by decide) rfl oe32 (fun q => (by cases q.symm.trans e32)) (fun j q => ?_)
          cases q.symm.trans e32
          obtain ⟨oc34, w33, c34, H35⟩ := H31
          refine z_virt (As := []) (st := []) (r1 := (some (.int w33))) (h1 := (g, I23, P24)) dX11_next_64 kX1_lettersBehind wm_X11_210 ⟨by decide, by decide⟩ rfl rfl (Nat.le_of_ble_eq_true rfl) (by decide) (by decide) oc34 c34 ?_
          obtain ⟨rfl, rfl⟩ := H35
          exact z_iret dX11_next_67 rfl (by decide) (by decide)
        by_cases q36 : x4 = 1
        · have H37 := H27.2.1 q36
          have eq36 : (x4 : Int32).toInt = 1 := by rw [q36]; decide
          refine z_tableIn (off := 36) (t := 68) dX11_next_32 (by rw [eq36]; decide) (by rw [eq36]; decide) (by rw [eq36]; rfl) (by decide) ?_
          refine z_aload_n 0 dX11_next_68 rfl rfl ?_
          obtain ⟨oe40, b38, e40, H39⟩ := H37
          refine z_getP dX11_next_69 wf_X11_37 (by decide) (by decide) rfl oe40 (fun q => (by cases q.symm.trans e40)) (fun j q => ?_)
          cases q.symm.trans e40
          obtain ⟨oc42, w41, c42, H43⟩ := H39
          refine z_virt (As := []) (st := []) (r1 := (some (.int w41))) (h1 := (g, I23, P24)) dX11_next_72 kX1_keenest wm_X11_213 ⟨by decide, by decide⟩ rfl rfl (Nat.le_of_ble_eq_true rfl) (by decide) (by decide) oc42 c42 ?_
          obtain ⟨rfl, rfl⟩ := H43
          exact z_iret dX11_next_75 rfl (by decide) (by decide)
        by_cases q44 : x4 = 2
        · have H45 := H27.2.2.1 q44
          have eq44 : (x4 : Int32).toInt = 2 := by rw [q44]; decide
          refine z_tableIn (off := 44) (t := 76) dX11_next_32 (by rw [eq44]; decide) (by rw [eq44]; decide) (by rw [eq44]; rfl) (by decide) ?_
          refine z_aload_n 0 dX11_next_76 rfl rfl ?_
          obtain ⟨oe48, b46, e48, H47⟩ := H45
          refine z_getP dX11_next_77 wf_X11_37 (by decide) (by decide) rfl oe48 (fun q => (by cases q.symm.trans e48)) (fun j q => ?_)
          cases q.symm.trans e48
          obtain ⟨oc51, w49, I50, c51, H52⟩ := H47
          refine z_virt (As := []) (st := []) (r1 := (some (.int w49))) (h1 := (g, I50, P24)) dX11_next_80 kX1_mended wm_X11_216 ⟨by decide, by decide⟩ rfl rfl (Nat.le_of_ble_eq_true rfl) (by decide) (by decide) oc51 c51 ?_
          obtain ⟨rfl, rfl⟩ := H52
          exact z_iret dX11_next_83 rfl (by decide) (by decide)
        have H53 := H27.2.2.2 q28 q36 q44
        have nq28 := lv_neT q28 (show (0 : Int32).toInt = 0 by decide)
        have nq36 := lv_neT q36 (show (1 : Int32).toInt = 1 by decide)
        have nq44 := lv_neT q44 (show (2 : Int32).toInt = 2 by decide)
        refine z_tableOut (t := 84) dX11_next_32 (by omega) (by decide) ?_
        refine z_bipush (w := (-2)) dX11_next_84 (by decide) ?_
        obtain ⟨rfl, rfl⟩ := H53
        exact z_iret dX11_next_86 rfl (by decide) (by decide)
      · have H54 := H26.2 q
        refine z_bipush (w := (-2)) dX11_next_27 (by decide) ?_
        obtain ⟨rfl, rfl⟩ := H54
        exact z_iret dX11_next_29 rfl (by decide) (by decide)
    | some b19 =>
      have H21 := H18.2 b19 rfl
      refine z_iload_n 3 dX11_next_20 rfl ?_
      obtain ⟨oc58, w55, I56, P57, c58, H59⟩ := H21
      refine z_virt (As := [.null, .ref b19, .int x3]) (st := []) (r1 := (some (.int w55))) (h1 := (g, I56, P57)) dX11_next_21 kX1_hears wm_X11_120 ⟨by decide, by decide⟩ rfl rfl (Nat.le_of_ble_eq_true rfl) (by decide) (by decide) oc58 c58 ?_
      refine z_if_ne (t := 30) dX11_next_24 (by decide) (fun q => ?_) (fun q => ?_)
      · have H60 := H59.1 q
        refine z_iload 4 dX11_next_30 rfl ?_
        by_cases q61 : x4 = 0
        · have H62 := H60.1 q61
          have eq61 : (x4 : Int32).toInt = 0 := by rw [q61]; decide
          refine z_tableIn (off := 28) (t := 60) dX11_next_32 (by rw [eq61]; decide) (by rw [eq61]; decide) (by rw [eq61]; rfl) (by decide) ?_
          refine z_aload_n 0 dX11_next_60 rfl rfl ?_
          obtain ⟨oe65, b63, e65, H64⟩ := H62
          refine z_getP dX11_next_61 wf_X11_37 (by decide) (by decide) rfl oe65 (fun q => (by cases q.symm.trans e65)) (fun j q => ?_)
          cases q.symm.trans e65
          obtain ⟨oc67, w66, c67, H68⟩ := H64
          refine z_virt (As := []) (st := []) (r1 := (some (.int w66))) (h1 := (g, I56, P57)) dX11_next_64 kX1_lettersBehind wm_X11_210 ⟨by decide, by decide⟩ rfl rfl (Nat.le_of_ble_eq_true rfl) (by decide) (by decide) oc67 c67 ?_
          obtain ⟨rfl, rfl⟩ := H68
          exact z_iret dX11_next_67 rfl (by decide) (by decide)
        by_cases q69 : x4 = 1
        · have H70 := H60.2.1 q69
          have eq69 : (x4 : Int32).toInt = 1 := by rw [q69]; decide
          refine z_tableIn (off := 36) (t := 68) dX11_next_32 (by rw [eq69]; decide) (by rw [eq69]; decide) (by rw [eq69]; rfl) (by decide) ?_
          refine z_aload_n 0 dX11_next_68 rfl rfl ?_
          obtain ⟨oe73, b71, e73, H72⟩ := H70
          refine z_getP dX11_next_69 wf_X11_37 (by decide) (by decide) rfl oe73 (fun q => (by cases q.symm.trans e73)) (fun j q => ?_)
          cases q.symm.trans e73
          obtain ⟨oc75, w74, c75, H76⟩ := H72
          refine z_virt (As := []) (st := []) (r1 := (some (.int w74))) (h1 := (g, I56, P57)) dX11_next_72 kX1_keenest wm_X11_213 ⟨by decide, by decide⟩ rfl rfl (Nat.le_of_ble_eq_true rfl) (by decide) (by decide) oc75 c75 ?_
          obtain ⟨rfl, rfl⟩ := H76
          exact z_iret dX11_next_75 rfl (by decide) (by decide)
        by_cases q77 : x4 = 2
        · have H78 := H60.2.2.1 q77
          have eq77 : (x4 : Int32).toInt = 2 := by rw [q77]; decide
          refine z_tableIn (off := 44) (t := 76) dX11_next_32 (by rw [eq77]; decide) (by rw [eq77]; decide) (by rw [eq77]; rfl) (by decide) ?_
          refine z_aload_n 0 dX11_next_76 rfl rfl ?_
          obtain ⟨oe81, b79, e81, H80⟩ := H78
          refine z_getP dX11_next_77 wf_X11_37 (by decide) (by decide) rfl oe81 (fun q => (by cases q.symm.trans e81)) (fun j q => ?_)
          cases q.symm.trans e81
          obtain ⟨oc84, w82, I83, c84, H85⟩ := H80
          refine z_virt (As := []) (st := []) (r1 := (some (.int w82))) (h1 := (g, I83, P57)) dX11_next_80 kX1_mended wm_X11_216 ⟨by decide, by decide⟩ rfl rfl (Nat.le_of_ble_eq_true rfl) (by decide) (by decide) oc84 c84 ?_
          obtain ⟨rfl, rfl⟩ := H85
          exact z_iret dX11_next_83 rfl (by decide) (by decide)
        have H86 := H60.2.2.2 q61 q69 q77
        have nq61 := lv_neT q61 (show (0 : Int32).toInt = 0 by decide)
        have nq69 := lv_neT q69 (show (1 : Int32).toInt = 1 by decide)
        have nq77 := lv_neT q77 (show (2 : Int32).toInt = 2 by decide)
        refine z_tableOut (t := 84) dX11_next_32 (by omega) (by decide) ?_
        refine z_bipush (w := (-2)) dX11_next_84 (by decide) ?_
        obtain ⟨rfl, rfl⟩ := H86
        exact z_iret dX11_next_86 rfl (by decide) (by decide)
      · have H87 := H59.2 q
        refine z_bipush (w := (-2)) dX11_next_27 (by decide) ?_
        obtain ⟨rfl, rfl⟩ := H87
        exact z_iret dX11_next_29 rfl (by decide) (by decide)
  | some b10 =>
    have H12 := H9.2 b10 rfl
    refine z_aload_n 0 dX11_next_12 rfl rfl ?_
    obtain ⟨oe90, b88, e90, H89⟩ := H12
    refine z_getP dX11_next_13 wf_X11_10 (by decide) (by decide) rfl oe90 (fun q => (by cases q.symm.trans e90)) (fun j q => ?_)
    cases q.symm.trans e90
    refine z_iload_n 2 dX11_next_16 rfl ?_
    obtain ⟨oc92, w91, c92, H93⟩ := H89
    refine z_virt (As := [.int x2]) (st := [.ref b10, .ref b1]) (r1 := (some (zov w91))) (h1 := (g, I, P)) dX11_next_17 kX9_linesOf wm_X11_113 ⟨by decide, by decide⟩ rfl rfl (Nat.le_of_ble_eq_true rfl) (by decide) (by decide) oc92 c92 ?_
    cases w91 with
    | none =>
      have H95 := H93.1 rfl
      refine z_iload_n 3 dX11_next_20 rfl ?_
      obtain ⟨oc100, w97, I98, P99, c100, H101⟩ := H95
      refine z_virt (As := [.ref b10, .null, .int x3]) (st := []) (r1 := (some (.int w97))) (h1 := (g, I98, P99)) dX11_next_21 kX1_hears wm_X11_120 ⟨by decide, by decide⟩ rfl rfl (Nat.le_of_ble_eq_true rfl) (by decide) (by decide) oc100 c100 ?_
      refine z_if_ne (t := 30) dX11_next_24 (by decide) (fun q => ?_) (fun q => ?_)
      · have H102 := H101.1 q
        refine z_iload 4 dX11_next_30 rfl ?_
        by_cases q103 : x4 = 0
        · have H104 := H102.1 q103
          have eq103 : (x4 : Int32).toInt = 0 := by rw [q103]; decide
          refine z_tableIn (off := 28) (t := 60) dX11_next_32 (by rw [eq103]; decide) (by rw [eq103]; decide) (by rw [eq103]; rfl) (by decide) ?_
          refine z_aload_n 0 dX11_next_60 rfl rfl ?_
          obtain ⟨oe107, b105, e107, H106⟩ := H104
          refine z_getP dX11_next_61 wf_X11_37 (by decide) (by decide) rfl oe107 (fun q => (by cases q.symm.trans e107)) (fun j q => ?_)
          cases q.symm.trans e107
          obtain ⟨oc109, w108, c109, H110⟩ := H106
          refine z_virt (As := []) (st := []) (r1 := (some (.int w108))) (h1 := (g, I98, P99)) dX11_next_64 kX1_lettersBehind wm_X11_210 ⟨by decide, by decide⟩ rfl rfl (Nat.le_of_ble_eq_true rfl) (by decide) (by decide) oc109 c109 ?_
          obtain ⟨rfl, rfl⟩ := H110
          exact z_iret dX11_next_67 rfl (by decide) (by decide)
        by_cases q111 : x4 = 1
        · have H112 := H102.2.1 q111
          have eq111 : (x4 : Int32).toInt = 1 := by rw [q111]; decide
          refine z_tableIn (off := 36) (t := 68) dX11_next_32 (by rw [eq111]; decide) (by rw [eq111]; decide) (by rw [eq111]; rfl) (by decide) ?_
          refine z_aload_n 0 dX11_next_68 rfl rfl ?_
          obtain ⟨oe115, b113, e115, H114⟩ := H112
          refine z_getP dX11_next_69 wf_X11_37 (by decide) (by decide) rfl oe115 (fun q => (by cases q.symm.trans e115)) (fun j q => ?_)
          cases q.symm.trans e115
          obtain ⟨oc117, w116, c117, H118⟩ := H114
          refine z_virt (As := []) (st := []) (r1 := (some (.int w116))) (h1 := (g, I98, P99)) dX11_next_72 kX1_keenest wm_X11_213 ⟨by decide, by decide⟩ rfl rfl (Nat.le_of_ble_eq_true rfl) (by decide) (by decide) oc117 c117 ?_
          obtain ⟨rfl, rfl⟩ := H118
          exact z_iret dX11_next_75 rfl (by decide) (by decide)
        by_cases q119 : x4 = 2
        · have H120 := H102.2.2.1 q119
          have eq119 : (x4 : Int32).toInt = 2 := by rw [q119]; decide
          refine z_tableIn (off := 44) (t := 76) dX11_next_32 (by rw [eq119]; decide) (by rw [eq119]; decide) (by rw [eq119]; rfl) (by decide) ?_
          refine z_aload_n 0 dX11_next_76 rfl rfl ?_
          obtain ⟨oe123, b121, e123, H122⟩ := H120
          refine z_getP dX11_next_77 wf_X11_37 (by decide) (by decide) rfl oe123 (fun q => (by cases q.symm.trans e123)) (fun j q => ?_)
          cases q.symm.trans e123
          obtain ⟨oc126, w124, I125, c126, H127⟩ := H122
          refine z_virt (As := []) (st := []) (r1 := (some (.int w124))) (h1 := (g, I125, P99)) dX11_next_80 kX1_mended wm_X11_216 ⟨by decide, by decide⟩ rfl rfl (Nat.le_of_ble_eq_true rfl) (by decide) (by decide) oc126 c126 ?_
          obtain ⟨rfl, rfl⟩ := H127
          exact z_iret dX11_next_83 rfl (by decide) (by decide)
        have H128 := H102.2.2.2 q103 q111 q119
        have nq103 := lv_neT q103 (show (0 : Int32).toInt = 0 by decide)
        have nq111 := lv_neT q111 (show (1 : Int32).toInt = 1 by decide)
        have nq119 := lv_neT q119 (show (2 : Int32).toInt = 2 by decide)
        refine z_tableOut (t := 84) dX11_next_32 (by omega) (by decide) ?_
        refine z_bipush (w := (-2)) dX11_next_84 (by decide) ?_
        obtain ⟨rfl, rfl⟩ := H128
        exact z_iret dX11_next_86 rfl (by decide) (by decide)
      · have H129 := H101.2 q
        refine z_bipush (w := (-2)) dX11_next_27 (by decide) ?_
        obtain ⟨rfl, rfl⟩ := H129
        exact z_iret dX11_next_29 rfl (by decide) (by decide)
    | some b94 =>
      have H96 := H93.2 b94 rfl
      refine z_iload_n 3 dX11_next_20 rfl ?_
      obtain ⟨oc133, w130, I131, P132, c133, H134⟩ := H96
      refine z_virt (As := [.ref b10, .ref b94, .int x3]) (st := []) (r1 := (some (.int w130))) (h1 := (g, I131, P132)) dX11_next_21 kX1_hears wm_X11_120 ⟨by decide, by decide⟩ rfl rfl (Nat.le_of_ble_eq_true rfl) (by decide) (by decide) oc133 c133 ?_
      refine z_if_ne (t := 30) dX11_next_24 (by decide) (fun q => ?_) (fun q => ?_)
      · have H135 := H134.1 q
        refine z_iload 4 dX11_next_30 rfl ?_
        by_cases q136 : x4 = 0
        · have H137 := H135.1 q136
          have eq136 : (x4 : Int32).toInt = 0 := by rw [q136]; decide
          refine z_tableIn (off := 28) (t := 60) dX11_next_32 (by rw [eq136]; decide) (by rw [eq136]; decide) (by rw [eq136]; rfl) (by decide) ?_
          refine z_aload_n 0 dX11_next_60 rfl rfl ?_
          obtain ⟨oe140, b138, e140, H139⟩ := H137
          refine z_getP dX11_next_61 wf_X11_37 (by decide) (by decide) rfl oe140 (fun q => (by cases q.symm.trans e140)) (fun j q => ?_)
          cases q.symm.trans e140
          obtain ⟨oc142, w141, c142, H143⟩ := H139
          refine z_virt (As := []) (st := []) (r1 := (some (.int w141))) (h1 := (g, I131, P132)) dX11_next_64 kX1_lettersBehind wm_X11_210 ⟨by decide, by decide⟩ rfl rfl (Nat.le_of_ble_eq_true rfl) (by decide) (by decide) oc142 c142 ?_
          obtain ⟨rfl, rfl⟩ := H143
          exact z_iret dX11_next_67 rfl (by decide) (by decide)
        by_cases q144 : x4 = 1
        · have H145 := H135.2.1 q144
          have eq144 : (x4 : Int32).toInt = 1 := by rw [q144]; decide
          refine z_tableIn (off := 36) (t := 68) dX11_next_32 (by rw [eq144]; decide) (by rw [eq144]; decide) (by rw [eq144]; rfl) (by decide) ?_
          refine z_aload_n 0 dX11_next_68 rfl rfl ?_
          obtain ⟨oe148, b146, e148, H147⟩ := H145
          refine z_getP dX11_next_69 wf_X11_37 (by decide) (by decide) rfl oe148 (fun q => (by cases q.symm.trans e148)) (fun j q => ?_)
          cases q.symm.trans e148
          obtain ⟨oc150, w149, c150, H151⟩ := H147
          refine z_virt (As := []) (st := []) (r1 := (some (.int w149))) (h1 := (g, I131, P132)) dX11_next_72 kX1_keenest wm_X11_213 ⟨by decide, by decide⟩ rfl rfl (Nat.le_of_ble_eq_true rfl) (by decide) (by decide) oc150 c150 ?_
          obtain ⟨rfl, rfl⟩ := H151
          exact z_iret dX11_next_75 rfl (by decide) (by decide)
        by_cases q152 : x4 = 2
        · have H153 := H135.2.2.1 q152
          have eq152 : (x4 : Int32).toInt = 2 := by rw [q152]; decide
          refine z_tableIn (off := 44) (t := 76) dX11_next_32 (by rw [eq152]; decide) (by rw [eq152]; decide) (by rw [eq152]; rfl) (by decide) ?_
          refine z_aload_n 0 dX11_next_76 rfl rfl ?_
          obtain ⟨oe156, b154, e156, H155⟩ := H153
          refine z_getP dX11_next_77 wf_X11_37 (by decide) (by decide) rfl oe156 (fun q => (by cases q.symm.trans e156)) (fun j q => ?_)
          cases q.symm.trans e156
          obtain ⟨oc159, w157, I158, c159, H160⟩ := H155
          refine z_virt (As := []) (st := []) (r1 := (some (.int w157))) (h1 := (g, I158, P132)) dX11_next_80 kX1_mended wm_X11_216 ⟨by decide, by decide⟩ rfl rfl (Nat.le_of_ble_eq_true rfl) (by decide) (by decide) oc159 c159 ?_
          obtain ⟨rfl, rfl⟩ := H160
          exact z_iret dX11_next_83 rfl (by decide) (by decide)
        have H161 := H135.2.2.2 q136 q144 q152
        have nq136 := lv_neT q136 (show (0 : Int32).toInt = 0 by decide)
        have nq144 := lv_neT q144 (show (1 : Int32).toInt = 1 by decide)
        have nq152 := lv_neT q152 (show (2 : Int32).toInt = 2 by decide)
        refine z_tableOut (t := 84) dX11_next_32 (by omega) (by decide) ?_
        refine z_bipush (w := (-2)) dX11_next_84 (by decide) ?_
        obtain ⟨rfl, rfl⟩ := H161
        exact z_iret dX11_next_86 rfl (by decide) (by decide)
      · have H162 := H134.2 q
        refine z_bipush (w := (-2)) dX11_next_27 (by decide) ?_
        obtain ⟨rfl, rfl⟩ := H162
        exact z_iret dX11_next_29 rfl (by decide) (by decide)
theorem eX11_next {g : zG} {I : Nat → Nat → Int32} {P : Nat → Nat → Option Nat} {r : Option Value} {h' : zH} {a0 : Nat} {x1 : Int32} {x2 : Int32} {x3 : Int32} {x4 : Int32} (H : Zt none mX11_next 0 0 0 [(0, .ref a0), (1, .int x1), (2, .int x2), (3, .int x3), (4, .int x4)] [] (g, I, P) r h') : Cl mX11_next [.ref a0, .int x1, .int x2, .int x3, .int x4] (g, I, P) r h' := Cl.of (by decide) (Nat.le_of_ble_eq_true rfl) H
theorem dX11_echo_0 : decode cX11_echo 0 = .ok (.aload_n 0, 1) := by decide +kernel
theorem dX11_echo_1 : decode cX11_echo 1 = .ok (.getfield 10, 3) := by decide +kernel
theorem dX11_echo_4 : decode cX11_echo 4 = .ok (.iload_n 1, 1) := by decide +kernel
theorem dX11_echo_5 : decode cX11_echo 5 = .ok (.invokevirtual 113, 3) := by decide +kernel
theorem dX11_echo_8 : decode cX11_echo 8 = .ok (.astore 5, 2) := by decide +kernel
theorem dX11_echo_10 : decode cX11_echo 10 = .ok (.aload 5, 2) := by decide +kernel
theorem dX11_echo_12 : decode cX11_echo 12 = .ok (.ifnull 21, 3) := by decide +kernel
theorem dX11_echo_15 : decode cX11_echo 15 = .ok (.aload 5, 2) := by decide +kernel
theorem dX11_echo_17 : decode cX11_echo 17 = .ok (.iload_n 2, 1) := by decide +kernel
theorem dX11_echo_18 : decode cX11_echo 18 = .ok (.invokevirtual 219, 3) := by decide +kernel
theorem dX11_echo_21 : decode cX11_echo 21 = .ok (.ifCond .eq 12, 3) := by decide +kernel
theorem dX11_echo_24 : decode cX11_echo 24 = .ok (.aload 5, 2) := by decide +kernel
theorem dX11_echo_26 : decode cX11_echo 26 = .ok (.iload_n 3, 1) := by decide +kernel
theorem dX11_echo_27 : decode cX11_echo 27 = .ok (.invokevirtual 219, 3) := by decide +kernel
theorem dX11_echo_30 : decode cX11_echo 30 = .ok (.ifCond .ne 6, 3) := by decide +kernel
theorem dX11_echo_33 : decode cX11_echo 33 = .ok (.bipush (-2), 2) := by decide +kernel
theorem dX11_echo_35 : decode cX11_echo 35 = .ok (.ireturn, 1) := by decide +kernel
theorem dX11_echo_36 : decode cX11_echo 36 = .ok (.aload 5, 2) := by decide +kernel
theorem dX11_echo_38 : decode cX11_echo 38 = .ok (.iload_n 2, 1) := by decide +kernel
theorem dX11_echo_39 : decode cX11_echo 39 = .ok (.iload_n 3, 1) := by decide +kernel
theorem dX11_echo_40 : decode cX11_echo 40 = .ok (.iload 4, 2) := by decide +kernel
theorem dX11_echo_42 : decode cX11_echo 42 = .ok (.invokevirtual 222, 3) := by decide +kernel
theorem dX11_echo_45 : decode cX11_echo 45 = .ok (.ireturn, 1) := by decide +kernel
set_option maxRecDepth 10000 in
theorem wX11_echo_0 {g : zG} {I : Nat → Nat → Int32} {P : Nat → Nat → Option Nat} {r : Option Value} {h' : zH} {a0 : Nat} {x1 : Int32} {x2 : Int32} {x3 : Int32} {x4 : Int32} (H : zk g a0 11 ∧ ∃ b1, P a0 0 = some b1 ∧ zk g b1 9 ∧ ∃ (w4 : Option Nat), Cl mX9_linesOf [.ref b1, .int x1] (g, I, P) (some (zov w4)) (g, I, P) ∧ ((w4 = none) → r = some (.int (-2)) ∧ h' = (g, I, P)) ∧ (∀ b7, w4 = some b7 → zk g b7 4 ∧ ∃ (w10 : Int32), Cl mX4_hasLine [.ref b7, .int x2] (g, I, P) (some (.int w10)) (g, I, P) ∧ ((w10 = 0) → r = some (.int (-2)) ∧ h' = (g, I, P)) ∧ ((¬ w10 = 0) → zk g b7 4 ∧ ∃ (w15 : Int32), Cl mX4_hasLine [.ref b7, .int x3] (g, I, P) (some (.int w15)) (g, I, P) ∧ ((¬ w15 = 0) → zk g b7 4 ∧ ∃ (w19 : Int32), Cl mX4_longestInBoth [.ref b7, .int x2, .int x3, .int x4] (g, I, P) (some (.int w19)) (g, I, P) ∧ r = some (.int w19) ∧ h' = (g, I, P)) ∧ ((w15 = 0) → r = some (.int (-2)) ∧ h' = (g, I, P))))) : Zt none mX11_echo 0 0 0 [(0, .ref a0), (1, .int x1), (2, .int x2), (3, .int x3), (4, .int x4)] [] (g, I, P) r h' := by
  refine z_aload_n 0 dX11_echo_0 rfl rfl ?_
  obtain ⟨oe3, b1, e3, H2⟩ := H
  refine z_getP dX11_echo_1 wf_X11_10 (by decide) (by decide) rfl oe3 (fun q => (by cases q.symm.trans e3)) (fun j q => ?_)
  cases q.symm.trans e3
  refine z_iload_n 1 dX11_echo_4 rfl ?_
  obtain ⟨oc5, w4, c5, H6⟩ := H2
  refine z_virt (As := [.int x1]) (st := []) (r1 := (some (zov w4))) (h1 := (g, I, P)) dX11_echo_5 kX9_linesOf wm_X11_113 ⟨by decide, by decide⟩ rfl rfl (Nat.le_of_ble_eq_true rfl) (by decide) (by decide) oc5 c5 ?_
  cases w4 with
  | none =>
    have H8 := H6.1 rfl
    refine z_astore (lv' := [(5, .null), (0, .ref a0), (1, .int x1), (2, .int x2), (3, .int x3), (4, .int x4)]) dX11_echo_8 (by decide) rfl rfl (z_aload 0 dX11_echo_10 rfl rfl (z_ifnullN (t := 33) dX11_echo_12 (by decide) (z_bipush (w := (-2)) dX11_echo_33 (by decide) ?_)))
    obtain ⟨rfl, rfl⟩ := H8
    exact z_iret dX11_echo_35 rfl (by decide) (by decide)
  | some b7 =>
    have H9 := H6.2 b7 rfl
    refine z_astore (lv' := [(5, .ref b7), (0, .ref a0), (1, .int x1), (2, .int x2), (3, .int x3), (4, .int x4)]) dX11_echo_8 (by decide) rfl rfl (z_aload 0 dX11_echo_10 rfl rfl (z_ifnullR dX11_echo_12 (z_aload 0 dX11_echo_15 rfl rfl (z_iload_n 3 dX11_echo_17 rfl ?_))))
    obtain ⟨oc11, w10, c11, H12⟩ := H9
    refine z_virt (As := [.int x2]) (st := []) (r1 := (some (.int w10))) (h1 := (g, I, P)) dX11_echo_18 kX4_hasLine wm_X11_219 ⟨by decide, by decide⟩ rfl rfl (Nat.le_of_ble_eq_true rfl) (by decide) (by decide) oc11 c11 ?_
    refine z_if_eq (t := 33) dX11_echo_21 (by decide) (fun q => ?_) (fun q => ?_)
    · have H13 := H12.1 q
      refine z_bipush (w := (-2)) dX11_echo_33 (by decide) ?_
      obtain ⟨rfl, rfl⟩ := H13
      exact z_iret dX11_echo_35 rfl (by decide) (by decide)
    · have H14 := H12.2 q
      refine z_aload 0 dX11_echo_24 rfl rfl (z_iload_n 4 dX11_echo_26 rfl ?_)
      obtain ⟨oc16, w15, c16, H17⟩ := H14
      refine z_virt (As := [.int x3]) (st := []) (r1 := (some (.int w15))) (h1 := (g, I, P)) dX11_echo_27 kX4_hasLine wm_X11_219 ⟨by decide, by decide⟩ rfl rfl (Nat.le_of_ble_eq_true rfl) (by decide) (by decide) oc16 c16 ?_
      refine z_if_ne (t := 36) dX11_echo_30 (by decide) (fun q => ?_) (fun q => ?_)
      · have H18 := H17.1 q
        refine z_aload 0 dX11_echo_36 rfl rfl (z_iload_n 3 dX11_echo_38 rfl (z_iload_n 4 dX11_echo_39 rfl (z_iload 5 dX11_echo_40 rfl ?_)))
        obtain ⟨oc20, w19, c20, H21⟩ := H18
        refine z_virt (As := [.int x2, .int x3, .int x4]) (st := []) (r1 := (some (.int w19))) (h1 := (g, I, P)) dX11_echo_42 kX4_longestInBoth wm_X11_222 ⟨by decide, by decide⟩ rfl rfl (Nat.le_of_ble_eq_true rfl) (by decide) (by decide) oc20 c20 ?_
        obtain ⟨rfl, rfl⟩ := H21
        exact z_iret dX11_echo_45 rfl (by decide) (by decide)
      · have H22 := H17.2 q
        refine z_bipush (w := (-2)) dX11_echo_33 (by decide) ?_
        obtain ⟨rfl, rfl⟩ := H22
        exact z_iret dX11_echo_35 rfl (by decide) (by decide)
theorem eX11_echo {g : zG} {I : Nat → Nat → Int32} {P : Nat → Nat → Option Nat} {r : Option Value} {h' : zH} {a0 : Nat} {x1 : Int32} {x2 : Int32} {x3 : Int32} {x4 : Int32} (H : Zt none mX11_echo 0 0 0 [(0, .ref a0), (1, .int x1), (2, .int x2), (3, .int x3), (4, .int x4)] [] (g, I, P) r h') : Cl mX11_echo [.ref a0, .int x1, .int x2, .int x3, .int x4] (g, I, P) r h' := Cl.of (by decide) (Nat.le_of_ble_eq_true rfl) H
theorem dX11_alike_0 : decode cX11_alike 0 = .ok (.aload_n 0, 1) := by decide +kernel
theorem dX11_alike_1 : decode cX11_alike 1 = .ok (.getfield 10, 3) := by decide +kernel
theorem dX11_alike_4 : decode cX11_alike 4 = .ok (.iload_n 1, 1) := by decide +kernel
theorem dX11_alike_5 : decode cX11_alike 5 = .ok (.invokevirtual 87, 3) := by decide +kernel
theorem dX11_alike_8 : decode cX11_alike 8 = .ok (.astore 5, 2) := by decide +kernel
theorem dX11_alike_10 : decode cX11_alike 10 = .ok (.aload 5, 2) := by decide +kernel
theorem dX11_alike_12 : decode cX11_alike 12 = .ok (.ifnull 21, 3) := by decide +kernel
theorem dX11_alike_15 : decode cX11_alike 15 = .ok (.aload 5, 2) := by decide +kernel
theorem dX11_alike_17 : decode cX11_alike 17 = .ok (.iload_n 2, 1) := by decide +kernel
theorem dX11_alike_18 : decode cX11_alike 18 = .ok (.invokevirtual 131, 3) := by decide +kernel
theorem dX11_alike_21 : decode cX11_alike 21 = .ok (.ifCond .eq 12, 3) := by decide +kernel
theorem dX11_alike_24 : decode cX11_alike 24 = .ok (.aload 5, 2) := by decide +kernel
theorem dX11_alike_26 : decode cX11_alike 26 = .ok (.iload_n 3, 1) := by decide +kernel
theorem dX11_alike_27 : decode cX11_alike 27 = .ok (.invokevirtual 131, 3) := by decide +kernel
theorem dX11_alike_30 : decode cX11_alike 30 = .ok (.ifCond .ne 5, 3) := by decide +kernel
theorem dX11_alike_33 : decode cX11_alike 33 = .ok (.iconst (-1), 1) := by decide +kernel
theorem dX11_alike_34 : decode cX11_alike 34 = .ok (.ireturn, 1) := by decide +kernel
theorem dX11_alike_35 : decode cX11_alike 35 = .ok (.iload 4, 2) := by decide +kernel
theorem dX11_alike_37 : decode cX11_alike 37 = .ok (.ifCond .eq 17, 3) := by decide +kernel
theorem dX11_alike_40 : decode cX11_alike 40 = .ok (.aload_n 0, 1) := by decide +kernel
theorem dX11_alike_41 : decode cX11_alike 41 = .ok (.getfield 37, 3) := by decide +kernel
theorem dX11_alike_44 : decode cX11_alike 44 = .ok (.aload 5, 2) := by decide +kernel
theorem dX11_alike_46 : decode cX11_alike 46 = .ok (.iload_n 2, 1) := by decide +kernel
theorem dX11_alike_47 : decode cX11_alike 47 = .ok (.iload_n 3, 1) := by decide +kernel
theorem dX11_alike_48 : decode cX11_alike 48 = .ok (.invokevirtual 226, 3) := by decide +kernel
theorem dX11_alike_51 : decode cX11_alike 51 = .ok (.goto 10, 3) := by decide +kernel
theorem dX11_alike_54 : decode cX11_alike 54 = .ok (.aload 5, 2) := by decide +kernel
theorem dX11_alike_56 : decode cX11_alike 56 = .ok (.iload_n 2, 1) := by decide +kernel
theorem dX11_alike_57 : decode cX11_alike 57 = .ok (.iload_n 3, 1) := by decide +kernel
theorem dX11_alike_58 : decode cX11_alike 58 = .ok (.invokevirtual 229, 3) := by decide +kernel
theorem dX11_alike_61 : decode cX11_alike 61 = .ok (.ireturn, 1) := by decide +kernel
set_option maxRecDepth 10000 in
theorem wX11_alike_0 {g : zG} {I : Nat → Nat → Int32} {P : Nat → Nat → Option Nat} {r : Option Value} {h' : zH} {a0 : Nat} {x1 : Int32} {x2 : Int32} {x3 : Int32} {x4 : Int32} (H : zk g a0 11 ∧ ∃ b1, P a0 0 = some b1 ∧ zk g b1 9 ∧ ∃ (w4 : Option Nat), Cl mX9_hillOf [.ref b1, .int x1] (g, I, P) (some (zov w4)) (g, I, P) ∧ ((w4 = none) → r = some (.int (-1)) ∧ h' = (g, I, P)) ∧ (∀ b7, w4 = some b7 → zk g b7 3 ∧ ∃ (w10 : Int32), Cl mX3_hasWord [.ref b7, .int x2] (g, I, P) (some (.int w10)) (g, I, P) ∧ ((w10 = 0) → r = some (.int (-1)) ∧ h' = (g, I, P)) ∧ ((¬ w10 = 0) → zk g b7 3 ∧ ∃ (w15 : Int32), Cl mX3_hasWord [.ref b7, .int x3] (g, I, P) (some (.int w15)) (g, I, P) ∧ ((¬ w15 = 0) → ((x4 = 0) → zk g b7 3 ∧ ∃ (w20 : Int32), Cl mX3_sameLettersAtFirst [.ref b7, .int x2, .int x3] (g, I, P) (some (.int w20)) (g, I, P) ∧ r = some (.int w20) ∧ h' = (g, I, P)) ∧ ((¬ x4 = 0) → zk g a0 11 ∧ ∃ b24, P a0 4 = some b24 ∧ zk g b24 1 ∧ ∃ (w27 : Int32) (I28 : Nat → Nat → Int32), Cl mX1_changesBetween [.ref b24, .ref b7, .int x2, .int x3] (g, I, P) (some (.int w27)) (g, I28, P) ∧ r = some (.int w27) ∧ h' = (g, I28, P))) ∧ ((w15 = 0) → r = some (.int (-1)) ∧ h' = (g, I, P))))) : Zt none mX11_alike 0 0 0 [(0, .ref a0), (1, .int x1), (2, .int x2), (3, .int x3), (4, .int x4)] [] (g, I, P) r h' := by
  refine z_aload_n 0 dX11_alike_0 rfl rfl ?_
  obtain ⟨oe3, b1, e3, H2⟩ := H
  refine z_getP dX11_alike_1 wf_X11_10 (by decide) (by decide) rfl oe3 (fun q => (by cases q.symm.trans e3)) (fun j q => ?_)
  cases q.symm.trans e3
  refine z_iload_n 1 dX11_alike_4 rfl ?_
  obtain ⟨oc5, w4, c5, H6⟩ := H2
  refine z_virt (As := [.int x1]) (st := []) (r1 := (some (zov w4))) (h1 := (g, I, P)) dX11_alike_5 kX9_hillOf wm_X11_87 ⟨by decide, by decide⟩ rfl rfl (Nat.le_of_ble_eq_true rfl) (by decide) (by decide) oc5 c5 ?_
  cases w4 with
  | none =>
    have H8 := H6.1 rfl
    refine z_astore (lv' := [(5, .null), (0, .ref a0), (1, .int x1), (2, .int x2), (3, .int x3), (4, .int x4)]) dX11_alike_8 (by decide) rfl rfl (z_aload 0 dX11_alike_10 rfl rfl (z_ifnullN (t := 33) dX11_alike_12 (by decide) (z_iconst (w := (-1)) dX11_alike_33 (by decide) ?_)))
    obtain ⟨rfl, rfl⟩ := H8
    exact z_iret dX11_alike_34 rfl (by decide) (by decide)
  | some b7 =>
    have H9 := H6.2 b7 rfl
    refine z_astore (lv' := [(5, .ref b7), (0, .ref a0), (1, .int x1), (2, .int x2), (3, .int x3), (4, .int x4)]) dX11_alike_8 (by decide) rfl rfl (z_aload 0 dX11_alike_10 rfl rfl (z_ifnullR dX11_alike_12 (z_aload 0 dX11_alike_15 rfl rfl (z_iload_n 3 dX11_alike_17 rfl ?_))))
    obtain ⟨oc11, w10, c11, H12⟩ := H9
    refine z_virt (As := [.int x2]) (st := []) (r1 := (some (.int w10))) (h1 := (g, I, P)) dX11_alike_18 kX3_hasWord wm_X11_131 ⟨by decide, by decide⟩ rfl rfl (Nat.le_of_ble_eq_true rfl) (by decide) (by decide) oc11 c11 ?_
    refine z_if_eq (t := 33) dX11_alike_21 (by decide) (fun q => ?_) (fun q => ?_)
    · have H13 := H12.1 q
      refine z_iconst (w := (-1)) dX11_alike_33 (by decide) ?_
      obtain ⟨rfl, rfl⟩ := H13
      exact z_iret dX11_alike_34 rfl (by decide) (by decide)
    · have H14 := H12.2 q
      refine z_aload 0 dX11_alike_24 rfl rfl (z_iload_n 4 dX11_alike_26 rfl ?_)
      obtain ⟨oc16, w15, c16, H17⟩ := H14
      refine z_virt (As := [.int x3]) (st := []) (r1 := (some (.int w15))) (h1 := (g, I, P)) dX11_alike_27 kX3_hasWord wm_X11_131 ⟨by decide, by decide⟩ rfl rfl (Nat.le_of_ble_eq_true rfl) (by decide) (by decide) oc16 c16 ?_
      refine z_if_ne (t := 35) dX11_alike_30 (by decide) (fun q => ?_) (fun q => ?_)
      · have H18 := H17.1 q
        refine z_iload 5 dX11_alike_35 rfl ?_
        refine z_if_eq (t := 54) dX11_alike_37 (by decide) (fun q => ?_) (fun q => ?_)
        · have H19 := H18.1 q
          refine z_aload 0 dX11_alike_54 rfl rfl (z_iload_n 3 dX11_alike_56 rfl (z_iload_n 4 dX11_alike_57 rfl ?_))
          obtain ⟨oc21, w20, c21, H22⟩ := H19
          refine z_virt (As := [.int x2, .int x3]) (st := []) (r1 := (some (.int w20))) (h1 := (g, I, P)) dX11_alike_58 kX3_sameLettersAtFirst wm_X11_229 ⟨by decide, by decide⟩ rfl rfl (Nat.le_of_ble_eq_true rfl) (by decide) (by decide) oc21 c21 ?_
          obtain ⟨rfl, rfl⟩ := H22
          exact z_iret dX11_alike_61 rfl (by decide) (by decide)
        · have H23 := H18.2 q
          refine z_aload_n 1 dX11_alike_40 rfl rfl ?_
          obtain ⟨oe26, b24, e26, H25⟩ := H23
          refine z_getP dX11_alike_41 wf_X11_37 (by decide) (by decide) rfl oe26 (fun q => (by cases q.symm.trans e26)) (fun j q => ?_)
          cases q.symm.trans e26
          refine z_aload 0 dX11_alike_44 rfl rfl (z_iload_n 3 dX11_alike_46 rfl (z_iload_n 4 dX11_alike_47 rfl ?_))
          obtain ⟨oc29, w27, I28, c29, H30⟩ := H25
          refine z_virt (As := [.ref b7, .int x2, .int x3]) (st := []) (r1 := (some (.int w27))) (h1 := (g, I28, P)) dX11_alike_48 kX1_changesBetween wm_X11_226 ⟨by decide, by decide⟩ rfl rfl (Nat.le_of_ble_eq_true rfl) (by decide) (by decide) oc29 c29 ?_
          refine z_goto (t := 61) dX11_alike_51 (by decide) ?_
          obtain ⟨rfl, rfl⟩ := H30
          exact z_iret dX11_alike_61 rfl (by decide) (by decide)
      · have H31 := H17.2 q
        refine z_iconst (w := (-1)) dX11_alike_33 (by decide) ?_
        obtain ⟨rfl, rfl⟩ := H31
        exact z_iret dX11_alike_34 rfl (by decide) (by decide)
theorem eX11_alike {g : zG} {I : Nat → Nat → Int32} {P : Nat → Nat → Option Nat} {r : Option Value} {h' : zH} {a0 : Nat} {x1 : Int32} {x2 : Int32} {x3 : Int32} {x4 : Int32} (H : Zt none mX11_alike 0 0 0 [(0, .ref a0), (1, .int x1), (2, .int x2), (3, .int x3), (4, .int x4)] [] (g, I, P) r h') : Cl mX11_alike [.ref a0, .int x1, .int x2, .int x3, .int x4] (g, I, P) r h' := Cl.of (by decide) (Nat.le_of_ble_eq_true rfl) H
theorem dX11_tree_0 : decode cX11_tree 0 = .ok (.aload_n 0, 1) := by decide +kernel
theorem dX11_tree_1 : decode cX11_tree 1 = .ok (.getfield 10, 3) := by decide +kernel
theorem dX11_tree_4 : decode cX11_tree 4 = .ok (.iload_n 1, 1) := by decide +kernel
theorem dX11_tree_5 : decode cX11_tree 5 = .ok (.invokevirtual 87, 3) := by decide +kernel
theorem dX11_tree_8 : decode cX11_tree 8 = .ok (.astore_n 3, 1) := by decide +kernel
theorem dX11_tree_9 : decode cX11_tree 9 = .ok (.aload_n 3, 1) := by decide +kernel
theorem dX11_tree_10 : decode cX11_tree 10 = .ok (.ifnonnull 6, 3) := by decide +kernel
theorem dX11_tree_13 : decode cX11_tree 13 = .ok (.bipush (-2), 2) := by decide +kernel
theorem dX11_tree_15 : decode cX11_tree 15 = .ok (.ireturn, 1) := by decide +kernel
theorem dX11_tree_16 : decode cX11_tree 16 = .ok (.iload_n 2, 1) := by decide +kernel
theorem dX11_tree_17 : decode cX11_tree 17 = .ok (.tableswitch 74 0 4 #[35, 45, 55, 60, 69], 35) := by decide +kernel
theorem dX11_tree_52 : decode cX11_tree 52 = .ok (.aload_n 0, 1) := by decide +kernel
theorem dX11_tree_53 : decode cX11_tree 53 = .ok (.getfield 37, 3) := by decide +kernel
theorem dX11_tree_56 : decode cX11_tree 56 = .ok (.aload_n 3, 1) := by decide +kernel
theorem dX11_tree_57 : decode cX11_tree 57 = .ok (.iconst 1, 1) := by decide +kernel
theorem dX11_tree_58 : decode cX11_tree 58 = .ok (.invokevirtual 232, 3) := by decide +kernel
theorem dX11_tree_61 : decode cX11_tree 61 = .ok (.ireturn, 1) := by decide +kernel
theorem dX11_tree_62 : decode cX11_tree 62 = .ok (.aload_n 0, 1) := by decide +kernel
theorem dX11_tree_63 : decode cX11_tree 63 = .ok (.getfield 37, 3) := by decide +kernel
theorem dX11_tree_66 : decode cX11_tree 66 = .ok (.aload_n 3, 1) := by decide +kernel
theorem dX11_tree_67 : decode cX11_tree 67 = .ok (.iconst 0, 1) := by decide +kernel
theorem dX11_tree_68 : decode cX11_tree 68 = .ok (.invokevirtual 232, 3) := by decide +kernel
theorem dX11_tree_71 : decode cX11_tree 71 = .ok (.ireturn, 1) := by decide +kernel
theorem dX11_tree_72 : decode cX11_tree 72 = .ok (.aload_n 3, 1) := by decide +kernel
theorem dX11_tree_73 : decode cX11_tree 73 = .ok (.invokevirtual 236, 3) := by decide +kernel
theorem dX11_tree_76 : decode cX11_tree 76 = .ok (.ireturn, 1) := by decide +kernel
theorem dX11_tree_77 : decode cX11_tree 77 = .ok (.aload_n 3, 1) := by decide +kernel
theorem dX11_tree_78 : decode cX11_tree 78 = .ok (.aload_n 3, 1) := by decide +kernel
theorem dX11_tree_79 : decode cX11_tree 79 = .ok (.invokevirtual 239, 3) := by decide +kernel
theorem dX11_tree_82 : decode cX11_tree 82 = .ok (.invokevirtual 242, 3) := by decide +kernel
theorem dX11_tree_85 : decode cX11_tree 85 = .ok (.ireturn, 1) := by decide +kernel
theorem dX11_tree_86 : decode cX11_tree 86 = .ok (.aload_n 3, 1) := by decide +kernel
theorem dX11_tree_87 : decode cX11_tree 87 = .ok (.invokevirtual 245, 3) := by decide +kernel
theorem dX11_tree_90 : decode cX11_tree 90 = .ok (.ireturn, 1) := by decide +kernel
theorem dX11_tree_91 : decode cX11_tree 91 = .ok (.aload_n 3, 1) := by decide +kernel
theorem dX11_tree_92 : decode cX11_tree 92 = .ok (.iload_n 2, 1) := by decide +kernel
theorem dX11_tree_93 : decode cX11_tree 93 = .ok (.bipush 10, 2) := by decide +kernel
theorem dX11_tree_95 : decode cX11_tree 95 = .ok (.isub, 1) := by decide +kernel
theorem dX11_tree_96 : decode cX11_tree 96 = .ok (.invokevirtual 131, 3) := by decide +kernel
theorem dX11_tree_99 : decode cX11_tree 99 = .ok (.ifCond .eq 14, 3) := by decide +kernel
theorem dX11_tree_102 : decode cX11_tree 102 = .ok (.aload_n 3, 1) := by decide +kernel
theorem dX11_tree_103 : decode cX11_tree 103 = .ok (.iload_n 2, 1) := by decide +kernel
theorem dX11_tree_104 : decode cX11_tree 104 = .ok (.bipush 10, 2) := by decide +kernel
theorem dX11_tree_106 : decode cX11_tree 106 = .ok (.isub, 1) := by decide +kernel
theorem dX11_tree_107 : decode cX11_tree 107 = .ok (.invokevirtual 248, 3) := by decide +kernel
theorem dX11_tree_110 : decode cX11_tree 110 = .ok (.goto 5, 3) := by decide +kernel
theorem dX11_tree_113 : decode cX11_tree 113 = .ok (.bipush (-2), 2) := by decide +kernel
theorem dX11_tree_115 : decode cX11_tree 115 = .ok (.ireturn, 1) := by decide +kernel
set_option maxRecDepth 10000 in
theorem wX11_tree_0 {g : zG} {I : Nat → Nat → Int32} {P : Nat → Nat → Option Nat} {r : Option Value} {h' : zH} {a0 : Nat} {x1 : Int32} {x2 : Int32} (H : zk g a0 11 ∧ ∃ b1, P a0 0 = some b1 ∧ zk g b1 9 ∧ ∃ (w4 : Option Nat), Cl mX9_hillOf [.ref b1, .int x1] (g, I, P) (some (zov w4)) (g, I, P) ∧ ((w4 = none) → r = some (.int (-2)) ∧ h' = (g, I, P)) ∧ (∀ b7, w4 = some b7 → ((x2 = 0) → zk g a0 11 ∧ ∃ b12, P a0 4 = some b12 ∧ zk g b12 1 ∧ ∃ (w15 : Int32) (I16 : Nat → Nat → Int32), Cl mX1_closest [.ref b12, .ref b7, .int 1] (g, I, P) (some (.int w15)) (g, I16, P) ∧ r = some (.int w15) ∧ h' = (g, I16, P)) ∧ ((x2 = 1) → zk g a0 11 ∧ ∃ b21, P a0 4 = some b21 ∧ zk g b21 1 ∧ ∃ (w24 : Int32) (I25 : Nat → Nat → Int32), Cl mX1_closest [.ref b21, .ref b7, .int 0] (g, I, P) (some (.int w24)) (g, I25, P) ∧ r = some (.int w24) ∧ h' = (g, I25, P)) ∧ ((x2 = 2) → zk g b7 3 ∧ ∃ (w30 : Int32), Cl mX3_unlikeBeginnings [.ref b7] (g, I, P) (some (.int w30)) (g, I, P) ∧ r = some (.int w30) ∧ h' = (g, I, P)) ∧ ((x2 = 3) → zk g b7 3 ∧ ∃ (w35 : Int32), Cl mX3_all [.ref b7] (g, I, P) (some (.int w35)) (g, I, P) ∧ zk g b7 3 ∧ ∃ (w38 : Int32), Cl mX3_wordsWithin [.ref b7, .int w35] (g, I, P) (some (.int w38)) (g, I, P) ∧ r = some (.int w38) ∧ h' = (g, I, P)) ∧ ((x2 = 4) → zk g b7 3 ∧ ∃ (w43 : Int32), Cl mX3_unsureQuestions [.ref b7] (g, I, P) (some (.int w43)) (g, I, P) ∧ r = some (.int w43) ∧ h' = (g, I, P)) ∧ (¬ x2 = 0 → ¬ x2 = 1 → ¬ x2 = 2 → ¬ x2 = 3 → ¬ x2 = 4 → zk g b7 3 ∧ ∃ (w47 : Int32), Cl mX3_hasWord [.ref b7, .int (x2 - 10)] (g, I, P) (some (.int w47)) (g, I, P) ∧ ((w47 = 0) → r = some (.int (-2)) ∧ h' = (g, I, P)) ∧ ((¬ w47 = 0) → zk g b7 3 ∧ ∃ (w52 : Int32), Cl mX3_leadsOf [.ref b7, .int (x2 - 10)] (g, I, P) (some (.int w52)) (g, I, P) ∧ r = some (.int w52) ∧ h' = (g, I, P))))) : Zt none mX11_tree 0 0 0 [(0, .ref a0), (1, .int x1), (2, .int x2)] [] (g, I, P) r h' := by
  refine z_aload_n 0 dX11_tree_0 rfl rfl ?_
  obtain ⟨oe3, b1, e3, H2⟩ := H
  refine z_getP dX11_tree_1 wf_X11_10 (by decide) (by decide) rfl oe3 (fun q => (by cases q.symm.trans e3)) (fun j q => ?_)
  cases q.symm.trans e3
  refine z_iload_n 1 dX11_tree_4 rfl ?_
  obtain ⟨oc5, w4, c5, H6⟩ := H2
  refine z_virt (As := [.int x1]) (st := []) (r1 := (some (zov w4))) (h1 := (g, I, P)) dX11_tree_5 kX9_hillOf wm_X11_87 ⟨by decide, by decide⟩ rfl rfl (Nat.le_of_ble_eq_true rfl) (by decide) (by decide) oc5 c5 ?_
  cases w4 with
  | none =>
    have H8 := H6.1 rfl
    refine z_astore_n (lv' := [(3, .null), (0, .ref a0), (1, .int x1), (2, .int x2)]) dX11_tree_8 (by decide) rfl rfl (z_aload_n 0 dX11_tree_9 rfl rfl (z_ifnonnullN dX11_tree_10 (z_bipush (w := (-2)) dX11_tree_13 (by decide) ?_)))
    obtain ⟨rfl, rfl⟩ := H8
    exact z_iret dX11_tree_15 rfl (by decide) (by decide)
  | some b7 =>
    have H9 := H6.2 b7 rfl
    refine z_astore_n (lv' := [(3, .ref b7), (0, .ref a0), (1, .int x1), (2, .int x2)]) dX11_tree_8 (by decide) rfl rfl (z_aload_n 0 dX11_tree_9 rfl rfl (z_ifnonnullR (t := 16) dX11_tree_10 (by decide) (z_iload_n 3 dX11_tree_16 rfl ?_)))
    by_cases q10 : x2 = 0
    · have H11 := H9.1 q10
      have eq10 : (x2 : Int32).toInt = 0 := by rw [q10]; decide
      refine z_tableIn (off := 35) (t := 52) dX11_tree_17 (by rw [eq10]; decide) (by rw [eq10]; decide) (by rw [eq10]; rfl) (by decide) ?_
      refine z_aload_n 1 dX11_tree_52 rfl rfl ?_
      obtain ⟨oe14, b12, e14, H13⟩ := H11
      refine z_getP dX11_tree_53 wf_X11_37 (by decide) (by decide) rfl oe14 (fun q => (by cases q.symm.trans e14)) (fun j q => ?_)
      cases q.symm.trans e14
      refine z_aload_n 0 dX11_tree_56 rfl rfl (z_iconst (w := 1) dX11_tree_57 (by decide) ?_)
      obtain ⟨oc17, w15, I16, c17, H18⟩ := H13
      refine z_virt (As := [.ref b7, .int 1]) (st := []) (r1 := (some (.int w15))) (h1 := (g, I16, P)) dX11_tree_58 kX1_closest wm_X11_232 ⟨by decide, by decide⟩ rfl rfl (Nat.le_of_ble_eq_true rfl) (by decide) (by decide) oc17 c17 ?_
      obtain ⟨rfl, rfl⟩ := H18
      exact z_iret dX11_tree_61 rfl (by decide) (by decide)
    by_cases q19 : x2 = 1
    · have H20 := H9.2.1 q19
      have eq19 : (x2 : Int32).toInt = 1 := by rw [q19]; decide
      refine z_tableIn (off := 45) (t := 62) dX11_tree_17 (by rw [eq19]; decide) (by rw [eq19]; decide) (by rw [eq19]; rfl) (by decide) ?_
      refine z_aload_n 1 dX11_tree_62 rfl rfl ?_
      obtain ⟨oe23, b21, e23, H22⟩ := H20
      refine z_getP dX11_tree_63 wf_X11_37 (by decide) (by decide) rfl oe23 (fun q => (by cases q.symm.trans e23)) (fun j q => ?_)
      cases q.symm.trans e23
      refine z_aload_n 0 dX11_tree_66 rfl rfl (z_iconst (w := 0) dX11_tree_67 (by decide) ?_)
      obtain ⟨oc26, w24, I25, c26, H27⟩ := H22
      refine z_virt (As := [.ref b7, .int 0]) (st := []) (r1 := (some (.int w24))) (h1 := (g, I25, P)) dX11_tree_68 kX1_closest wm_X11_232 ⟨by decide, by decide⟩ rfl rfl (Nat.le_of_ble_eq_true rfl) (by decide) (by decide) oc26 c26 ?_
      obtain ⟨rfl, rfl⟩ := H27
      exact z_iret dX11_tree_71 rfl (by decide) (by decide)
    by_cases q28 : x2 = 2
    · have H29 := H9.2.2.1 q28
      have eq28 : (x2 : Int32).toInt = 2 := by rw [q28]; decide
      refine z_tableIn (off := 55) (t := 72) dX11_tree_17 (by rw [eq28]; decide) (by rw [eq28]; decide) (by rw [eq28]; rfl) (by decide) ?_
      refine z_aload_n 0 dX11_tree_72 rfl rfl ?_
      obtain ⟨oc31, w30, c31, H32⟩ := H29
      refine z_virt (As := []) (st := []) (r1 := (some (.int w30))) (h1 := (g, I, P)) dX11_tree_73 kX3_unlikeBeginnings wm_X11_236 ⟨by decide, by decide⟩ rfl rfl (Nat.le_of_ble_eq_true rfl) (by decide) (by decide) oc31 c31 ?_
      obtain ⟨rfl, rfl⟩ := H32
      exact z_iret dX11_tree_76 rfl (by decide) (by decide)
    by_cases q33 : x2 = 3
    · have H34 := H9.2.2.2.1 q33
      have eq33 : (x2 : Int32).toInt = 3 := by rw [q33]; decide
      refine z_tableIn (off := 60) (t := 77) dX11_tree_17 (by rw [eq33]; decide) (by rw [eq33]; decide) (by rw [eq33]; rfl) (by decide) ?_
      refine z_aload_n 0 dX11_tree_77 rfl rfl (z_aload_n 0 dX11_tree_78 rfl rfl ?_)
      obtain ⟨oc36, w35, c36, H37⟩ := H34
      refine z_virt (As := []) (st := [.ref b7]) (r1 := (some (.int w35))) (h1 := (g, I, P)) dX11_tree_79 kX3_all wm_X11_239 ⟨by decide, by decide⟩ rfl rfl (Nat.le_of_ble_eq_true rfl) (by decide) (by decide) oc36 c36 ?_
      obtain ⟨oc39, w38, c39, H40⟩ := H37
      refine z_virt (As := [.int w35]) (st := []) (r1 := (some (.int w38))) (h1 := (g, I, P)) dX11_tree_82 kX3_wordsWithin wm_X11_242 ⟨by decide, by decide⟩ rfl rfl (Nat.le_of_ble_eq_true rfl) (by decide) (by decide) oc39 c39 ?_
      obtain ⟨rfl, rfl⟩ := H40
      exact z_iret dX11_tree_85 rfl (by decide) (by decide)
    by_cases q41 : x2 = 4
    · have H42 := H9.2.2.2.2.1 q41
      have eq41 : (x2 : Int32).toInt = 4 := by rw [q41]; decide
      refine z_tableIn (off := 69) (t := 86) dX11_tree_17 (by rw [eq41]; decide) (by rw [eq41]; decide) (by rw [eq41]; rfl) (by decide) ?_
      refine z_aload_n 0 dX11_tree_86 rfl rfl ?_
      obtain ⟨oc44, w43, c44, H45⟩ := H42
      refine z_virt (As := []) (st := []) (r1 := (some (.int w43))) (h1 := (g, I, P)) dX11_tree_87 kX3_unsureQuestions wm_X11_245 ⟨by decide, by decide⟩ rfl rfl (Nat.le_of_ble_eq_true rfl) (by decide) (by decide) oc44 c44 ?_
      obtain ⟨rfl, rfl⟩ := H45
      exact z_iret dX11_tree_90 rfl (by decide) (by decide)
    have H46 := H9.2.2.2.2.2 q10 q19 q28 q33 q41
    have nq10 := lv_neT q10 (show (0 : Int32).toInt = 0 by decide)
    have nq19 := lv_neT q19 (show (1 : Int32).toInt = 1 by decide)
    have nq28 := lv_neT q28 (show (2 : Int32).toInt = 2 by decide)
    have nq33 := lv_neT q33 (show (3 : Int32).toInt = 3 by decide)
    have nq41 := lv_neT q41 (show (4 : Int32).toInt = 4 by decide)
    refine z_tableOut (t := 91) dX11_tree_17 (by omega) (by decide) ?_
    refine z_aload_n 0 dX11_tree_91 rfl rfl (z_iload_n 3 dX11_tree_92 rfl (z_bipush (w := 10) dX11_tree_93 (by decide) (z_isub dX11_tree_95 ?_)))
    obtain ⟨oc48, w47, c48, H49⟩ := H46
    refine z_virt (As := [.int (x2 - 10)]) (st := []) (r1 := (some (.int w47))) (h1 := (g, I, P)) dX11_tree_96 kX3_hasWord wm_X11_131 ⟨by decide, by decide⟩ rfl rfl (Nat.le_of_ble_eq_true rfl) (by decide) (by decide) oc48 c48 ?_
    refine z_if_eq (t := 113) dX11_tree_99 (by decide) (fun q => ?_) (fun q => ?_)
    · have H50 := H49.1 q
      refine z_bipush (w := (-2)) dX11_tree_113 (by decide) ?_
      obtain ⟨rfl, rfl⟩ := H50
      exact z_iret dX11_tree_115 rfl (by decide) (by decide)
    · have H51 := H49.2 q
      refine z_aload_n 0 dX11_tree_102 rfl rfl (z_iload_n 3 dX11_tree_103 rfl (z_bipush (w := 10) dX11_tree_104 (by decide) (z_isub dX11_tree_106 ?_)))
      obtain ⟨oc53, w52, c53, H54⟩ := H51
      refine z_virt (As := [.int (x2 - 10)]) (st := []) (r1 := (some (.int w52))) (h1 := (g, I, P)) dX11_tree_107 kX3_leadsOf wm_X11_248 ⟨by decide, by decide⟩ rfl rfl (Nat.le_of_ble_eq_true rfl) (by decide) (by decide) oc53 c53 ?_
      refine z_goto (t := 115) dX11_tree_110 (by decide) ?_
      obtain ⟨rfl, rfl⟩ := H54
      exact z_iret dX11_tree_115 rfl (by decide) (by decide)
theorem eX11_tree {g : zG} {I : Nat → Nat → Int32} {P : Nat → Nat → Option Nat} {r : Option Value} {h' : zH} {a0 : Nat} {x1 : Int32} {x2 : Int32} (H : Zt none mX11_tree 0 0 0 [(0, .ref a0), (1, .int x1), (2, .int x2)] [] (g, I, P) r h') : Cl mX11_tree [.ref a0, .int x1, .int x2] (g, I, P) r h' := Cl.of (by decide) (Nat.le_of_ble_eq_true rfl) H
theorem dX11_chain_0 : decode cX11_chain 0 = .ok (.aload_n 0, 1) := by decide +kernel
theorem dX11_chain_1 : decode cX11_chain 1 = .ok (.getfield 10, 3) := by decide +kernel
theorem dX11_chain_4 : decode cX11_chain 4 = .ok (.iload_n 1, 1) := by decide +kernel
theorem dX11_chain_5 : decode cX11_chain 5 = .ok (.invokevirtual 87, 3) := by decide +kernel
theorem dX11_chain_8 : decode cX11_chain 8 = .ok (.astore_n 3, 1) := by decide +kernel
theorem dX11_chain_9 : decode cX11_chain 9 = .ok (.aload_n 3, 1) := by decide +kernel
theorem dX11_chain_10 : decode cX11_chain 10 = .ok (.ifnonnull 5, 3) := by decide +kernel
theorem dX11_chain_13 : decode cX11_chain 13 = .ok (.iconst (-1), 1) := by decide +kernel
theorem dX11_chain_14 : decode cX11_chain 14 = .ok (.ireturn, 1) := by decide +kernel
theorem dX11_chain_15 : decode cX11_chain 15 = .ok (.aload_n 0, 1) := by decide +kernel
theorem dX11_chain_16 : decode cX11_chain 16 = .ok (.getfield 44, 3) := by decide +kernel
theorem dX11_chain_19 : decode cX11_chain 19 = .ok (.aload_n 3, 1) := by decide +kernel
theorem dX11_chain_20 : decode cX11_chain 20 = .ok (.invokevirtual 251, 3) := by decide +kernel
theorem dX11_chain_23 : decode cX11_chain 23 = .ok (.istore 4, 2) := by decide +kernel
theorem dX11_chain_25 : decode cX11_chain 25 = .ok (.iload_n 2, 1) := by decide +kernel
theorem dX11_chain_26 : decode cX11_chain 26 = .ok (.iconst (-1), 1) := by decide +kernel
theorem dX11_chain_27 : decode cX11_chain 27 = .ok (.if_icmp .ne 8, 3) := by decide +kernel
theorem dX11_chain_30 : decode cX11_chain 30 = .ok (.iload 4, 2) := by decide +kernel
theorem dX11_chain_32 : decode cX11_chain 32 = .ok (.goto 14, 3) := by decide +kernel
theorem dX11_chain_35 : decode cX11_chain 35 = .ok (.aload_n 0, 1) := by decide +kernel
theorem dX11_chain_36 : decode cX11_chain 36 = .ok (.getfield 44, 3) := by decide +kernel
theorem dX11_chain_39 : decode cX11_chain 39 = .ok (.aload_n 3, 1) := by decide +kernel
theorem dX11_chain_40 : decode cX11_chain 40 = .ok (.iload 4, 2) := by decide +kernel
theorem dX11_chain_42 : decode cX11_chain 42 = .ok (.iload_n 2, 1) := by decide +kernel
theorem dX11_chain_43 : decode cX11_chain 43 = .ok (.invokevirtual 254, 3) := by decide +kernel
theorem dX11_chain_46 : decode cX11_chain 46 = .ok (.ireturn, 1) := by decide +kernel
set_option maxRecDepth 10000 in
theorem wX11_chain_0 {g : zG} {I : Nat → Nat → Int32} {P : Nat → Nat → Option Nat} {r : Option Value} {h' : zH} {a0 : Nat} {x1 : Int32} {x2 : Int32} (H : zk g a0 11 ∧ ∃ b1, P a0 0 = some b1 ∧ zk g b1 9 ∧ ∃ (w4 : Option Nat), Cl mX9_hillOf [.ref b1, .int x1] (g, I, P) (some (zov w4)) (g, I, P) ∧ ((w4 = none) → r = some (.int (-1)) ∧ h' = (g, I, P)) ∧ (∀ b7, w4 = some b7 → zk g a0 11 ∧ ∃ b10, P a0 5 = some b10 ∧ zk g b10 10 ∧ ∃ (w13 : Int32) (I14 : Nat → Nat → Int32), Cl mX10_longestChain [.ref b10, .ref b7] (g, I, P) (some (.int w13)) (g, I14, P) ∧ ((¬ x2 = (-1)) → zk g a0 11 ∧ ∃ b18, P a0 5 = some b18 ∧ zk g b18 10 ∧ ∃ (w21 : Int32), Cl mX10_wordOfFirstChain [.ref b18, .ref b7, .int w13, .int x2] (g, I14, P) (some (.int w21)) (g, I14, P) ∧ r = some (.int w21) ∧ h' = (g, I14, P)) ∧ ((x2 = (-1)) → r = some (.int w13) ∧ h' = (g, I14, P)))) : Zt none mX11_chain 0 0 0 [(0, .ref a0), (1, .int x1), (2, .int x2)] [] (g, I, P) r h' := by
  refine z_aload_n 0 dX11_chain_0 rfl rfl ?_
  obtain ⟨oe3, b1, e3, H2⟩ := H
  refine z_getP dX11_chain_1 wf_X11_10 (by decide) (by decide) rfl oe3 (fun q => (by cases q.symm.trans e3)) (fun j q => ?_)
  cases q.symm.trans e3
  refine z_iload_n 1 dX11_chain_4 rfl ?_
  obtain ⟨oc5, w4, c5, H6⟩ := H2
  refine z_virt (As := [.int x1]) (st := []) (r1 := (some (zov w4))) (h1 := (g, I, P)) dX11_chain_5 kX9_hillOf wm_X11_87 ⟨by decide, by decide⟩ rfl rfl (Nat.le_of_ble_eq_true rfl) (by decide) (by decide) oc5 c5 ?_
  cases w4 with
  | none =>
    have H8 := H6.1 rfl
    refine z_astore_n (lv' := [(3, .null), (0, .ref a0), (1, .int x1), (2, .int x2)]) dX11_chain_8 (by decide) rfl rfl (z_aload_n 0 dX11_chain_9 rfl rfl (z_ifnonnullN dX11_chain_10 (z_iconst (w := (-1)) dX11_chain_13 (by decide) ?_)))
    obtain ⟨rfl, rfl⟩ := H8
    exact z_iret dX11_chain_14 rfl (by decide) (by decide)
  | some b7 =>
    have H9 := H6.2 b7 rfl
    refine z_astore_n (lv' := [(3, .ref b7), (0, .ref a0), (1, .int x1), (2, .int x2)]) dX11_chain_8 (by decide) rfl rfl (z_aload_n 0 dX11_chain_9 rfl rfl (z_ifnonnullR (t := 15) dX11_chain_10 (by decide) (z_aload_n 1 dX11_chain_15 rfl rfl ?_)))
    obtain ⟨oe12, b10, e12, H11⟩ := H9
    refine z_getP dX11_chain_16 wf_X11_44 (by decide) (by decide) rfl oe12 (fun q => (by cases q.symm.trans e12)) (fun j q => ?_)
    cases q.symm.trans e12
    refine z_aload_n 0 dX11_chain_19 rfl rfl ?_
    obtain ⟨oc15, w13, I14, c15, H16⟩ := H11
    refine z_virt (As := [.ref b7]) (st := []) (r1 := (some (.int w13))) (h1 := (g, I14, P)) dX11_chain_20 kX10_longestChain wm_X11_251 ⟨by decide, by decide⟩ rfl rfl (Nat.le_of_ble_eq_true rfl) (by decide) (by decide) oc15 c15 ?_
    refine z_istore (lv' := [(4, .int w13), (3, .ref b7), (0, .ref a0), (1, .int x1), (2, .int x2)]) dX11_chain_23 (by decide) rfl (z_iload_n 4 dX11_chain_25 rfl (z_iconst (w := (-1)) dX11_chain_26 (by decide) ?_))
    refine z_icmp_ne (t := 35) dX11_chain_27 (by decide) (fun q => ?_) (fun q => ?_)
    · have H17 := H16.1 q
      refine z_aload_n 2 dX11_chain_35 rfl rfl ?_
      obtain ⟨oe20, b18, e20, H19⟩ := H17
      refine z_getP dX11_chain_36 wf_X11_44 (by decide) (by decide) rfl oe20 (fun q => (by cases q.symm.trans e20)) (fun j q => ?_)
      cases q.symm.trans e20
      refine z_aload_n 1 dX11_chain_39 rfl rfl (z_iload 0 dX11_chain_40 rfl (z_iload_n 4 dX11_chain_42 rfl ?_))
      obtain ⟨oc22, w21, c22, H23⟩ := H19
      refine z_virt (As := [.ref b7, .int w13, .int x2]) (st := []) (r1 := (some (.int w21))) (h1 := (g, I14, P)) dX11_chain_43 kX10_wordOfFirstChain wm_X11_254 ⟨by decide, by decide⟩ rfl rfl (Nat.le_of_ble_eq_true rfl) (by decide) (by decide) oc22 c22 ?_
      obtain ⟨rfl, rfl⟩ := H23
      exact z_iret dX11_chain_46 rfl (by decide) (by decide)
    · have H24 := H16.2 q
      refine z_iload 0 dX11_chain_30 rfl (z_goto (t := 46) dX11_chain_32 (by decide) ?_)
      obtain ⟨rfl, rfl⟩ := H24
      exact z_iret dX11_chain_46 rfl (by decide) (by decide)
theorem eX11_chain {g : zG} {I : Nat → Nat → Int32} {P : Nat → Nat → Option Nat} {r : Option Value} {h' : zH} {a0 : Nat} {x1 : Int32} {x2 : Int32} (H : Zt none mX11_chain 0 0 0 [(0, .ref a0), (1, .int x1), (2, .int x2)] [] (g, I, P) r h') : Cl mX11_chain [.ref a0, .int x1, .int x2] (g, I, P) r h' := Cl.of (by decide) (Nat.le_of_ble_eq_true rfl) H
theorem dX11_after_0 : decode cX11_after 0 = .ok (.aload_n 0, 1) := by decide +kernel
theorem dX11_after_1 : decode cX11_after 1 = .ok (.getfield 10, 3) := by decide +kernel
theorem dX11_after_4 : decode cX11_after 4 = .ok (.iload_n 1, 1) := by decide +kernel
theorem dX11_after_5 : decode cX11_after 5 = .ok (.invokevirtual 87, 3) := by decide +kernel
theorem dX11_after_8 : decode cX11_after 8 = .ok (.astore 4, 2) := by decide +kernel
theorem dX11_after_10 : decode cX11_after 10 = .ok (.aload_n 0, 1) := by decide +kernel
theorem dX11_after_11 : decode cX11_after 11 = .ok (.getfield 10, 3) := by decide +kernel
theorem dX11_after_14 : decode cX11_after 14 = .ok (.iload_n 2, 1) := by decide +kernel
theorem dX11_after_15 : decode cX11_after 15 = .ok (.invokevirtual 96, 3) := by decide +kernel
theorem dX11_after_18 : decode cX11_after 18 = .ok (.astore 5, 2) := by decide +kernel
theorem dX11_after_20 : decode cX11_after 20 = .ok (.aload 4, 2) := by decide +kernel
theorem dX11_after_22 : decode cX11_after 22 = .ok (.ifnull 8, 3) := by decide +kernel
theorem dX11_after_25 : decode cX11_after 25 = .ok (.aload 5, 2) := by decide +kernel
theorem dX11_after_27 : decode cX11_after 27 = .ok (.ifnonnull 6, 3) := by decide +kernel
theorem dX11_after_30 : decode cX11_after 30 = .ok (.bipush (-2), 2) := by decide +kernel
theorem dX11_after_32 : decode cX11_after 32 = .ok (.ireturn, 1) := by decide +kernel
theorem dX11_after_33 : decode cX11_after 33 = .ok (.aload_n 0, 1) := by decide +kernel
theorem dX11_after_34 : decode cX11_after 34 = .ok (.getfield 30, 3) := by decide +kernel
theorem dX11_after_37 : decode cX11_after 37 = .ok (.aload 4, 2) := by decide +kernel
theorem dX11_after_39 : decode cX11_after 39 = .ok (.aload 5, 2) := by decide +kernel
theorem dX11_after_41 : decode cX11_after 41 = .ok (.aload 5, 2) := by decide +kernel
theorem dX11_after_43 : decode cX11_after 43 = .ok (.getfield 105, 3) := by decide +kernel
theorem dX11_after_46 : decode cX11_after 46 = .ok (.invokevirtual 108, 3) := by decide +kernel
theorem dX11_after_49 : decode cX11_after 49 = .ok (.pop, 1) := by decide +kernel
theorem dX11_after_50 : decode cX11_after 50 = .ok (.iload_n 3, 1) := by decide +kernel
theorem dX11_after_51 : decode cX11_after 51 = .ok (.tableswitch 61 0 3 #[29, 37, 45, 53], 29) := by decide +kernel
theorem dX11_after_80 : decode cX11_after 80 = .ok (.aload_n 0, 1) := by decide +kernel
theorem dX11_after_81 : decode cX11_after 81 = .ok (.getfield 30, 3) := by decide +kernel
theorem dX11_after_84 : decode cX11_after 84 = .ok (.invokevirtual 257, 3) := by decide +kernel
theorem dX11_after_87 : decode cX11_after 87 = .ok (.ireturn, 1) := by decide +kernel
theorem dX11_after_88 : decode cX11_after 88 = .ok (.aload_n 0, 1) := by decide +kernel
theorem dX11_after_89 : decode cX11_after 89 = .ok (.getfield 30, 3) := by decide +kernel
theorem dX11_after_92 : decode cX11_after 92 = .ok (.getfield 260, 3) := by decide +kernel
theorem dX11_after_95 : decode cX11_after 95 = .ok (.ireturn, 1) := by decide +kernel
theorem dX11_after_96 : decode cX11_after 96 = .ok (.aload_n 0, 1) := by decide +kernel
theorem dX11_after_97 : decode cX11_after 97 = .ok (.getfield 30, 3) := by decide +kernel
theorem dX11_after_100 : decode cX11_after 100 = .ok (.getfield 263, 3) := by decide +kernel
theorem dX11_after_103 : decode cX11_after 103 = .ok (.ireturn, 1) := by decide +kernel
theorem dX11_after_104 : decode cX11_after 104 = .ok (.aload_n 0, 1) := by decide +kernel
theorem dX11_after_105 : decode cX11_after 105 = .ok (.getfield 30, 3) := by decide +kernel
theorem dX11_after_108 : decode cX11_after 108 = .ok (.invokevirtual 266, 3) := by decide +kernel
theorem dX11_after_111 : decode cX11_after 111 = .ok (.ireturn, 1) := by decide +kernel
theorem dX11_after_112 : decode cX11_after 112 = .ok (.bipush (-2), 2) := by decide +kernel
theorem dX11_after_114 : decode cX11_after 114 = .ok (.ireturn, 1) := by decide +kernel
set_option maxRecDepth 10000 in
theorem wX11_after_0 {g : zG} {I : Nat → Nat → Int32} {P : Nat → Nat → Option Nat} {r : Option Value} {h' : zH} {a0 : Nat} {x1 : Int32} {x2 : Int32} {x3 : Int32} (H : zk g a0 11 ∧ ∃ b1, P a0 0 = some b1 ∧ zk g b1 9 ∧ ∃ (w4 : Option Nat), Cl mX9_hillOf [.ref b1, .int x1] (g, I, P) (some (zov w4)) (g, I, P) ∧ ((w4 = none) → zk g a0 11 ∧ ∃ b10, P a0 0 = some b10 ∧ zk g b10 9 ∧ ∃ (w13 : Option Nat), Cl mX9_centuryOf [.ref b10, .int x2] (g, I, P) (some (zov w13)) (g, I, P) ∧ ((w13 = none) → r = some (.int (-2)) ∧ h' = (g, I, P)) ∧ (∀ b16, w13 = some b16 → r = some (.int (-2)) ∧ h' = (g, I, P))) ∧ (∀ b7, w4 = some b7 → zk g a0 11 ∧ ∃ b19, P a0 0 = some b19 ∧ zk g b19 9 ∧ ∃ (w22 : Option Nat), Cl mX9_centuryOf [.ref b19, .int x2] (g, I, P) (some (zov w22)) (g, I, P) ∧ ((w22 = none) → r = some (.int (-2)) ∧ h' = (g, I, P)) ∧ (∀ b25, w22 = some b25 → zk g a0 11 ∧ ∃ b28, P a0 3 = some b28 ∧ zk g b25 0 ∧ zk g b28 2 ∧ ∃ (w31 : Int32) (I32 : Nat → Nat → Int32) (P33 : Nat → Nat → Option Nat), Cl mX2_play [.ref b28, .ref b7, .ref b25, .int (I b25 0)] (g, I, P) (some (.int w31)) (g, I32, P33) ∧ ((x3 = 0) → zk g a0 11 ∧ ∃ b38, P33 a0 3 = some b38 ∧ zk g b38 2 ∧ ∃ (w41 : Int32), Cl mX2_wordiest [.ref b38] (g, I32, P33) (some (.int w41)) (g, I32, P33) ∧ r = some (.int w41) ∧ h' = (g, I32, P33)) ∧ ((x3 = 1) → zk g a0 11 ∧ ∃ b46, P33 a0 3 = some b46 ∧ zk g b46 2 ∧ r = some (.int (I32 b46 2)) ∧ h' = (g, I32, P33)) ∧ ((x3 = 2) → zk g a0 11 ∧ ∃ b51, P33 a0 3 = some b51 ∧ zk g b51 2 ∧ r = some (.int (I32 b51 3)) ∧ h' = (g, I32, P33)) ∧ ((x3 = 3) → zk g a0 11 ∧ ∃ b56, P33 a0 3 = some b56 ∧ zk g b56 2 ∧ ∃ (w59 : Int32), Cl mX2_feigned [.ref b56] (g, I32, P33) (some (.int w59)) (g, I32, P33) ∧ r = some (.int w59) ∧ h' = (g, I32, P33)) ∧ (¬ x3 = 0 → ¬ x3 = 1 → ¬ x3 = 2 → ¬ x3 = 3 → r = some (.int (-2)) ∧ h' = (g, I32, P33))))) : Zt none mX11_after 0 0 0 [(0, .ref a0), (1, .int x1), (2, .int x2), (3, .int x3)] [] (g, I, P) r h' := by
  refine z_aload_n 0 dX11_after_0 rfl rfl ?_
  obtain ⟨oe3, b1, e3, H2⟩ := H
  refine z_getP dX11_after_1 wf_X11_10 (by decide) (by decide) rfl oe3 (fun q => (by cases q.symm.trans e3)) (fun j q => ?_)
  cases q.symm.trans e3
  refine z_iload_n 1 dX11_after_4 rfl ?_
  obtain ⟨oc5, w4, c5, H6⟩ := H2
  refine z_virt (As := [.int x1]) (st := []) (r1 := (some (zov w4))) (h1 := (g, I, P)) dX11_after_5 kX9_hillOf wm_X11_87 ⟨by decide, by decide⟩ rfl rfl (Nat.le_of_ble_eq_true rfl) (by decide) (by decide) oc5 c5 ?_
  cases w4 with
  | none =>
    have H8 := H6.1 rfl
    refine z_astore (lv' := [(4, .null), (0, .ref a0), (1, .int x1), (2, .int x2), (3, .int x3)]) dX11_after_8 (by decide) rfl rfl (z_aload_n 1 dX11_after_10 rfl rfl ?_)
    obtain ⟨oe12, b10, e12, H11⟩ := H8
    refine z_getP dX11_after_11 wf_X11_10 (by decide) (by decide) rfl oe12 (fun q => (by cases q.symm.trans e12)) (fun j q => ?_)
    cases q.symm.trans e12
    refine z_iload_n 3 dX11_after_14 rfl ?_
    obtain ⟨oc14, w13, c14, H15⟩ := H11
    refine z_virt (As := [.int x2]) (st := []) (r1 := (some (zov w13))) (h1 := (g, I, P)) dX11_after_15 kX9_centuryOf wm_X11_96 ⟨by decide, by decide⟩ rfl rfl (Nat.le_of_ble_eq_true rfl) (by decide) (by decide) oc14 c14 ?_
    cases w13 with
    | none =>
      have H17 := H15.1 rfl
      refine z_astore (lv' := [(5, .null), (4, .null), (0, .ref a0), (1, .int x1), (2, .int x2), (3, .int x3)]) dX11_after_18 (by decide) rfl rfl (z_aload 1 dX11_after_20 rfl rfl (z_ifnullN (t := 30) dX11_after_22 (by decide) (z_bipush (w := (-2)) dX11_after_30 (by decide) ?_)))
      obtain ⟨rfl, rfl⟩ := H17
      exact z_iret dX11_after_32 rfl (by decide) (by decide)
    | some b16 =>
      have H18 := H15.2 b16 rfl
      refine z_astore (lv' := [(5, .ref b16), (4, .null), (0, .ref a0), (1, .int x1), (2, .int x2), (3, .int x3)]) dX11_after_18 (by decide) rfl rfl (z_aload 1 dX11_after_20 rfl rfl (z_ifnullN (t := 30) dX11_after_22 (by decide) (z_bipush (w := (-2)) dX11_after_30 (by decide) ?_)))
      obtain ⟨rfl, rfl⟩ := H18
      exact z_iret dX11_after_32 rfl (by decide) (by decide)
  | some b7 =>
    have H9 := H6.2 b7 rfl
    refine z_astore (lv' := [(4, .ref b7), (0, .ref a0), (1, .int x1), (2, .int x2), (3, .int x3)]) dX11_after_8 (by decide) rfl rfl (z_aload_n 1 dX11_after_10 rfl rfl ?_)
    obtain ⟨oe21, b19, e21, H20⟩ := H9
    refine z_getP dX11_after_11 wf_X11_10 (by decide) (by decide) rfl oe21 (fun q => (by cases q.symm.trans e21)) (fun j q => ?_)
    cases q.symm.trans e21
    refine z_iload_n 3 dX11_after_14 rfl ?_
    obtain ⟨oc23, w22, c23, H24⟩ := H20
    refine z_virt (As := [.int x2]) (st := []) (r1 := (some (zov w22))) (h1 := (g, I, P)) dX11_after_15 kX9_centuryOf wm_X11_96 ⟨by decide, by decide⟩ rfl rfl (Nat.le_of_ble_eq_true rfl) (by decide) (by decide) oc23 c23 ?_
    cases w22 with
    | none =>
      have H26 := H24.1 rfl
      refine z_astore (lv' := [(5, .null), (4, .ref b7), (0, .ref a0), (1, .int x1), (2, .int x2), (3, .int x3)]) dX11_after_18 (by decide) rfl rfl (z_aload 1 dX11_after_20 rfl rfl (z_ifnullR dX11_after_22 (z_aload 0 dX11_after_25 rfl rfl (z_ifnonnullN dX11_after_27 (z_bipush (w := (-2)) dX11_after_30 (by decide) ?_)))))
      obtain ⟨rfl, rfl⟩ := H26
      exact z_iret dX11_after_32 rfl (by decide) (by decide)
    | some b25 =>
      have H27 := H24.2 b25 rfl
      refine z_astore (lv' := [(5, .ref b25), (4, .ref b7), (0, .ref a0), (1, .int x1), (2, .int x2), (3, .int x3)]) dX11_after_18 (by decide) rfl rfl (z_aload 1 dX11_after_20 rfl rfl (z_ifnullR dX11_after_22 (z_aload 0 dX11_after_25 rfl rfl (z_ifnonnullR (t := 33) dX11_after_27 (by decide) (z_aload_n 2 dX11_after_33 rfl rfl ?_)))))
      obtain ⟨oe30, b28, e30, H29⟩ := H27
      refine z_getP dX11_after_34 wf_X11_30 (by decide) (by decide) rfl oe30 (fun q => (by cases q.symm.trans e30)) (fun j q => ?_)
      cases q.symm.trans e30
      refine z_aload 1 dX11_after_37 rfl rfl (z_aload 0 dX11_after_39 rfl rfl (z_aload 0 dX11_after_41 rfl rfl (z_getI dX11_after_43 wf_X11_105 (by decide) (by decide) rfl H29.1 ?_)))
      obtain ⟨oc34, w31, I32, P33, c34, H35⟩ := H29.2
      refine z_virt (As := [.ref b7, .ref b25, .int (I b25 0)]) (st := []) (r1 := (some (.int w31))) (h1 := (g, I32, P33)) dX11_after_46 kX2_play wm_X11_108 ⟨by decide, by decide⟩ rfl rfl (Nat.le_of_ble_eq_true rfl) (by decide) (by decide) oc34 c34 ?_
      refine z_pop dX11_after_49 rfl (z_iload_n 5 dX11_after_50 rfl ?_)
      by_cases q36 : x3 = 0
      · have H37 := H35.1 q36
        have eq36 : (x3 : Int32).toInt = 0 := by rw [q36]; decide
        refine z_tableIn (off := 29) (t := 80) dX11_after_51 (by rw [eq36]; decide) (by rw [eq36]; decide) (by rw [eq36]; rfl) (by decide) ?_
        refine z_aload_n 2 dX11_after_80 rfl rfl ?_
        obtain ⟨oe40, b38, e40, H39⟩ := H37
        refine z_getP dX11_after_81 wf_X11_30 (by decide) (by decide) rfl oe40 (fun q => (by cases q.symm.trans e40)) (fun j q => ?_)
        cases q.symm.trans e40
        obtain ⟨oc42, w41, c42, H43⟩ := H39
        refine z_virt (As := []) (st := []) (r1 := (some (.int w41))) (h1 := (g, I32, P33)) dX11_after_84 kX2_wordiest wm_X11_257 ⟨by decide, by decide⟩ rfl rfl (Nat.le_of_ble_eq_true rfl) (by decide) (by decide) oc42 c42 ?_
        obtain ⟨rfl, rfl⟩ := H43
        exact z_iret dX11_after_87 rfl (by decide) (by decide)
      by_cases q44 : x3 = 1
      · have H45 := H35.2.1 q44
        have eq44 : (x3 : Int32).toInt = 1 := by rw [q44]; decide
        refine z_tableIn (off := 37) (t := 88) dX11_after_51 (by rw [eq44]; decide) (by rw [eq44]; decide) (by rw [eq44]; rfl) (by decide) ?_
        refine z_aload_n 2 dX11_after_88 rfl rfl ?_
        obtain ⟨oe48, b46, e48, H47⟩ := H45
        refine z_getP dX11_after_89 wf_X11_30 (by decide) (by decide) rfl oe48 (fun q => (by cases q.symm.trans e48)) (fun j q => ?_)
        cases q.symm.trans e48
        refine z_getI dX11_after_92 wf_X11_260 (by decide) (by decide) rfl H47.1 ?_
        obtain ⟨rfl, rfl⟩ := H47.2
        exact z_iret dX11_after_95 rfl (by decide) (by decide)
      by_cases q49 : x3 = 2
      · have H50 := H35.2.2.1 q49
        have eq49 : (x3 : Int32).toInt = 2 := by rw [q49]; decide
        refine z_tableIn (off := 45) (t := 96) dX11_after_51 (by rw [eq49]; decide) (by rw [eq49]; decide) (by rw [eq49]; rfl) (by decide) ?_
        refine z_aload_n 2 dX11_after_96 rfl rfl ?_
        obtain ⟨oe53, b51, e53, H52⟩ := H50
        refine z_getP dX11_after_97 wf_X11_30 (by decide) (by decide) rfl oe53 (fun q => (by cases q.symm.trans e53)) (fun j q => ?_)
        cases q.symm.trans e53
        refine z_getI dX11_after_100 wf_X11_263 (by decide) (by decide) rfl H52.1 ?_
        obtain ⟨rfl, rfl⟩ := H52.2
        exact z_iret dX11_after_103 rfl (by decide) (by decide)
      by_cases q54 : x3 = 3
      · have H55 := H35.2.2.2.1 q54
        have eq54 : (x3 : Int32).toInt = 3 := by rw [q54]; decide
        refine z_tableIn (off := 53) (t := 104) dX11_after_51 (by rw [eq54]; decide) (by rw [eq54]; decide) (by rw [eq54]; rfl) (by decide) ?_
        refine z_aload_n 2 dX11_after_104 rfl rfl ?_
        obtain ⟨oe58, b56, e58, H57⟩ := H55
        refine z_getP dX11_after_105 wf_X11_30 (by decide) (by decide) rfl oe58 (fun q => (by cases q.symm.trans e58)) (fun j q => ?_)
        cases q.symm.trans e58
        obtain ⟨oc60, w59, c60, H61⟩ := H57
        refine z_virt (As := []) (st := []) (r1 := (some (.int w59))) (h1 := (g, I32, P33)) dX11_after_108 kX2_feigned wm_X11_266 ⟨by decide, by decide⟩ rfl rfl (Nat.le_of_ble_eq_true rfl) (by decide) (by decide) oc60 c60 ?_
        obtain ⟨rfl, rfl⟩ := H61
        exact z_iret dX11_after_111 rfl (by decide) (by decide)
      have H62 := H35.2.2.2.2 q36 q44 q49 q54
      have nq36 := lv_neT q36 (show (0 : Int32).toInt = 0 by decide)
      have nq44 := lv_neT q44 (show (1 : Int32).toInt = 1 by decide)
      have nq49 := lv_neT q49 (show (2 : Int32).toInt = 2 by decide)
      have nq54 := lv_neT q54 (show (3 : Int32).toInt = 3 by decide)
      refine z_tableOut (t := 112) dX11_after_51 (by omega) (by decide) ?_
      refine z_bipush (w := (-2)) dX11_after_112 (by decide) ?_
      obtain ⟨rfl, rfl⟩ := H62
      exact z_iret dX11_after_114 rfl (by decide) (by decide)
theorem eX11_after {g : zG} {I : Nat → Nat → Int32} {P : Nat → Nat → Option Nat} {r : Option Value} {h' : zH} {a0 : Nat} {x1 : Int32} {x2 : Int32} {x3 : Int32} (H : Zt none mX11_after 0 0 0 [(0, .ref a0), (1, .int x1), (2, .int x2), (3, .int x3)] [] (g, I, P) r h') : Cl mX11_after [.ref a0, .int x1, .int x2, .int x3] (g, I, P) r h' := Cl.of (by decide) (Nat.le_of_ble_eq_true rfl) H
theorem dX11_age_0 : decode cX11_age 0 = .ok (.aload_n 0, 1) := by decide +kernel
theorem dX11_age_1 : decode cX11_age 1 = .ok (.getfield 10, 3) := by decide +kernel
theorem dX11_age_4 : decode cX11_age 4 = .ok (.iload_n 1, 1) := by decide +kernel
theorem dX11_age_5 : decode cX11_age 5 = .ok (.invokevirtual 186, 3) := by decide +kernel
theorem dX11_age_8 : decode cX11_age 8 = .ok (.astore_n 3, 1) := by decide +kernel
theorem dX11_age_9 : decode cX11_age 9 = .ok (.aload_n 3, 1) := by decide +kernel
theorem dX11_age_10 : decode cX11_age 10 = .ok (.ifnonnull 5, 3) := by decide +kernel
theorem dX11_age_13 : decode cX11_age 13 = .ok (.iconst (-1), 1) := by decide +kernel
theorem dX11_age_14 : decode cX11_age 14 = .ok (.ireturn, 1) := by decide +kernel
theorem dX11_age_15 : decode cX11_age 15 = .ok (.aload_n 0, 1) := by decide +kernel
theorem dX11_age_16 : decode cX11_age 16 = .ok (.getfield 51, 3) := by decide +kernel
theorem dX11_age_19 : decode cX11_age 19 = .ok (.aload_n 3, 1) := by decide +kernel
theorem dX11_age_20 : decode cX11_age 20 = .ok (.invokevirtual 193, 3) := by decide +kernel
theorem dX11_age_23 : decode cX11_age 23 = .ok (.aload_n 0, 1) := by decide +kernel
theorem dX11_age_24 : decode cX11_age 24 = .ok (.getfield 51, 3) := by decide +kernel
theorem dX11_age_27 : decode cX11_age 27 = .ok (.iload_n 2, 1) := by decide +kernel
theorem dX11_age_28 : decode cX11_age 28 = .ok (.invokevirtual 269, 3) := by decide +kernel
theorem dX11_age_31 : decode cX11_age 31 = .ok (.ireturn, 1) := by decide +kernel
set_option maxRecDepth 10000 in
theorem wX11_age_0 {g : zG} {I : Nat → Nat → Int32} {P : Nat → Nat → Option Nat} {r : Option Value} {h' : zH} {a0 : Nat} {x1 : Int32} {x2 : Int32} (H : zk g a0 11 ∧ ∃ b1, P a0 0 = some b1 ∧ zk g b1 9 ∧ ∃ (w4 : Option Nat), Cl mX9_logOf [.ref b1, .int x1] (g, I, P) (some (zov w4)) (g, I, P) ∧ ((w4 = none) → r = some (.int (-1)) ∧ h' = (g, I, P)) ∧ (∀ b7, w4 = some b7 → zk g a0 11 ∧ ∃ b10, P a0 6 = some b10 ∧ zk g b10 7 ∧ ∃ (I13 : Nat → Nat → Int32) (P14 : Nat → Nat → Option Nat), Cl mX7_weigh [.ref b10, .ref b7] (g, I, P) none (g, I13, P14) ∧ zk g a0 11 ∧ ∃ b17, P14 a0 6 = some b17 ∧ zk g b17 7 ∧ ∃ (w20 : Int32), Cl mX7_years [.ref b17, .int x2] (g, I13, P14) (some (.int w20)) (g, I13, P14) ∧ r = some (.int w20) ∧ h' = (g, I13, P14))) : Zt none mX11_age 0 0 0 [(0, .ref a0), (1, .int x1), (2, .int x2)] [] (g, I, P) r h' := by
  refine z_aload_n 0 dX11_age_0 rfl rfl ?_
  obtain ⟨oe3, b1, e3, H2⟩ := H
  refine z_getP dX11_age_1 wf_X11_10 (by decide) (by decide) rfl oe3 (fun q => (by cases q.symm.trans e3)) (fun j q => ?_)
  cases q.symm.trans e3
  refine z_iload_n 1 dX11_age_4 rfl ?_
  obtain ⟨oc5, w4, c5, H6⟩ := H2
  refine z_virt (As := [.int x1]) (st := []) (r1 := (some (zov w4))) (h1 := (g, I, P)) dX11_age_5 kX9_logOf wm_X11_186 ⟨by decide, by decide⟩ rfl rfl (Nat.le_of_ble_eq_true rfl) (by decide) (by decide) oc5 c5 ?_
  cases w4 with
  | none =>
    have H8 := H6.1 rfl
    refine z_astore_n (lv' := [(3, .null), (0, .ref a0), (1, .int x1), (2, .int x2)]) dX11_age_8 (by decide) rfl rfl (z_aload_n 0 dX11_age_9 rfl rfl (z_ifnonnullN dX11_age_10 (z_iconst (w := (-1)) dX11_age_13 (by decide) ?_)))
    obtain ⟨rfl, rfl⟩ := H8
    exact z_iret dX11_age_14 rfl (by decide) (by decide)
  | some b7 =>
    have H9 := H6.2 b7 rfl
    refine z_astore_n (lv' := [(3, .ref b7), (0, .ref a0), (1, .int x1), (2, .int x2)]) dX11_age_8 (by decide) rfl rfl (z_aload_n 0 dX11_age_9 rfl rfl (z_ifnonnullR (t := 15) dX11_age_10 (by decide) (z_aload_n 1 dX11_age_15 rfl rfl ?_)))
    obtain ⟨oe12, b10, e12, H11⟩ := H9
    refine z_getP dX11_age_16 wf_X11_51 (by decide) (by decide) rfl oe12 (fun q => (by cases q.symm.trans e12)) (fun j q => ?_)
    cases q.symm.trans e12
    refine z_aload_n 0 dX11_age_19 rfl rfl ?_
    obtain ⟨oc15, I13, P14, c15, H16⟩ := H11
    refine z_virt (As := [.ref b7]) (st := []) (r1 := none) (h1 := (g, I13, P14)) dX11_age_20 kX7_weigh wm_X11_193 ⟨by decide, by decide⟩ rfl rfl (Nat.le_of_ble_eq_true rfl) (by decide) (by decide) oc15 c15 ?_
    refine z_aload_n 1 dX11_age_23 rfl rfl ?_
    obtain ⟨oe19, b17, e19, H18⟩ := H16
    refine z_getP dX11_age_24 wf_X11_51 (by decide) (by decide) rfl oe19 (fun q => (by cases q.symm.trans e19)) (fun j q => ?_)
    cases q.symm.trans e19
    refine z_iload_n 3 dX11_age_27 rfl ?_
    obtain ⟨oc21, w20, c21, H22⟩ := H18
    refine z_virt (As := [.int x2]) (st := []) (r1 := (some (.int w20))) (h1 := (g, I13, P14)) dX11_age_28 kX7_years wm_X11_269 ⟨by decide, by decide⟩ rfl rfl (Nat.le_of_ble_eq_true rfl) (by decide) (by decide) oc21 c21 ?_
    obtain ⟨rfl, rfl⟩ := H22
    exact z_iret dX11_age_31 rfl (by decide) (by decide)
theorem eX11_age {g : zG} {I : Nat → Nat → Int32} {P : Nat → Nat → Option Nat} {r : Option Value} {h' : zH} {a0 : Nat} {x1 : Int32} {x2 : Int32} (H : Zt none mX11_age 0 0 0 [(0, .ref a0), (1, .int x1), (2, .int x2)] [] (g, I, P) r h') : Cl mX11_age [.ref a0, .int x1, .int x2] (g, I, P) r h' := Cl.of (by decide) (Nat.le_of_ble_eq_true rfl) H
theorem dX11_waits_0 : decode cX11_waits 0 = .ok (.iload_n 1, 1) := by decide +kernel
theorem dX11_waits_1 : decode cX11_waits 1 = .ok (.iconst 1, 1) := by decide +kernel
theorem dX11_waits_2 : decode cX11_waits 2 = .ok (.if_icmp .lt 20, 3) := by decide +kernel
theorem dX11_waits_5 : decode cX11_waits 5 = .ok (.iload_n 1, 1) := by decide +kernel
theorem dX11_waits_6 : decode cX11_waits 6 = .ok (.bipush 12, 2) := by decide +kernel
theorem dX11_waits_8 : decode cX11_waits 8 = .ok (.if_icmp .gt 14, 3) := by decide +kernel
theorem dX11_waits_11 : decode cX11_waits 11 = .ok (.iload_n 2, 1) := by decide +kernel
theorem dX11_waits_12 : decode cX11_waits 12 = .ok (.iconst 1, 1) := by decide +kernel
theorem dX11_waits_13 : decode cX11_waits 13 = .ok (.if_icmp .lt 9, 3) := by decide +kernel
theorem dX11_waits_16 : decode cX11_waits 16 = .ok (.iload_n 2, 1) := by decide +kernel
theorem dX11_waits_17 : decode cX11_waits 17 = .ok (.bipush 10, 2) := by decide +kernel
theorem dX11_waits_19 : decode cX11_waits 19 = .ok (.if_icmp .le 7, 3) := by decide +kernel
theorem dX11_waits_22 : decode cX11_waits 22 = .ok (.ldc2_w 135, 3) := by decide +kernel
theorem dX11_waits_25 : decode cX11_waits 25 = .ok (.lreturn, 1) := by decide +kernel
theorem dX11_waits_26 : decode cX11_waits 26 = .ok (.iload_n 1, 1) := by decide +kernel
theorem dX11_waits_27 : decode cX11_waits 27 = .ok (.i2l, 1) := by decide +kernel
theorem dX11_waits_28 : decode cX11_waits 28 = .ok (.ldc2_w 200, 3) := by decide +kernel
theorem dX11_waits_31 : decode cX11_waits 31 = .ok (.lmul, 1) := by decide +kernel
theorem dX11_waits_32 : decode cX11_waits 32 = .ok (.iload_n 2, 1) := by decide +kernel
theorem dX11_waits_33 : decode cX11_waits 33 = .ok (.i2l, 1) := by decide +kernel
theorem dX11_waits_34 : decode cX11_waits 34 = .ok (.iload_n 3, 1) := by decide +kernel
theorem dX11_waits_35 : decode cX11_waits 35 = .ok (.invokestatic 147, 3) := by decide +kernel
theorem dX11_waits_38 : decode cX11_waits 38 = .ok (.lreturn, 1) := by decide +kernel
set_option maxRecDepth 10000 in
theorem wX11_waits_0 {g : zG} {I : Nat → Nat → Int32} {P : Nat → Nat → Option Nat} {r : Option Value} {h' : zH} {a0 : Nat} {x1 : Int32} {x2 : Int32} {x3 : Int32} (H : ((x1 < 1) → r = some (.long (-1)) ∧ h' = (g, I, P)) ∧ ((¬ x1 < 1) → ((12 < x1) → r = some (.long (-1)) ∧ h' = (g, I, P)) ∧ ((¬ 12 < x1) → ((x2 < 1) → r = some (.long (-1)) ∧ h' = (g, I, P)) ∧ ((¬ x2 < 1) → ((x2 ≤ 10) → ∃ (w8 : Int64), Cl mX11_least [.long (x1.toInt64 * 10), .long x2.toInt64, .int x3] (g, I, P) (some (.long w8)) (g, I, P) ∧ r = some (.long w8) ∧ h' = (g, I, P)) ∧ ((¬ x2 ≤ 10) → r = some (.long (-1)) ∧ h' = (g, I, P)))))) : Zt none mX11_waits 0 0 0 [(0, .ref a0), (1, .int x1), (2, .int x2), (3, .int x3)] [] (g, I, P) r h' := by
  refine z_iload_n 1 dX11_waits_0 rfl (z_iconst (w := 1) dX11_waits_1 (by decide) ?_)
  refine z_icmp_lt (t := 22) dX11_waits_2 (by decide) (fun q => ?_) (fun q => ?_)
  · have H1 := H.1 q
    refine z_ldc2 dX11_waits_22 wk_X11_135 ?_
    obtain ⟨rfl, rfl⟩ := H1
    exact z_lret dX11_waits_25 rfl (by decide) (by decide)
  · have H2 := H.2 q
    refine z_iload_n 1 dX11_waits_5 rfl (z_bipush (w := 12) dX11_waits_6 (by decide) ?_)
    refine z_icmp_gt (t := 22) dX11_waits_8 (by decide) (fun q => ?_) (fun q => ?_)
    · have H3 := H2.1 q
      refine z_ldc2 dX11_waits_22 wk_X11_135 ?_
      obtain ⟨rfl, rfl⟩ := H3
      exact z_lret dX11_waits_25 rfl (by decide) (by decide)
    · have H4 := H2.2 q
      refine z_iload_n 2 dX11_waits_11 rfl (z_iconst (w := 1) dX11_waits_12 (by decide) ?_)
      refine z_icmp_lt (t := 22) dX11_waits_13 (by decide) (fun q => ?_) (fun q => ?_)
      · have H5 := H4.1 q
        refine z_ldc2 dX11_waits_22 wk_X11_135 ?_
        obtain ⟨rfl, rfl⟩ := H5
        exact z_lret dX11_waits_25 rfl (by decide) (by decide)
      · have H6 := H4.2 q
        refine z_iload_n 2 dX11_waits_16 rfl (z_bipush (w := 10) dX11_waits_17 (by decide) ?_)
        refine z_icmp_le (t := 26) dX11_waits_19 (by decide) (fun q => ?_) (fun q => ?_)
        · have H7 := H6.1 q
          refine z_iload_n 1 dX11_waits_26 rfl (z_i2l dX11_waits_27 (z_ldc2 dX11_waits_28 wk_X11_200 (z_lmul dX11_waits_31 (z_iload_n 2 dX11_waits_32 rfl (z_i2l dX11_waits_33 (z_iload_n 3 dX11_waits_34 rfl ?_))))))
          obtain ⟨w8, c9, H10⟩ := H7
          refine z_stat (As := [.long (x1.toInt64 * 10), .long x2.toInt64, .int x3]) (st := []) (r1 := (some (.long w8))) (h1 := (g, I, P)) dX11_waits_35 kX11_least wm_X11_147 ⟨by decide, by decide⟩ rfl rfl (Nat.le_of_ble_eq_true rfl) (by decide) (by decide) c9 ?_
          obtain ⟨rfl, rfl⟩ := H10
          exact z_lret dX11_waits_38 rfl (by decide) (by decide)
        · have H11 := H6.2 q
          refine z_ldc2 dX11_waits_22 wk_X11_135 ?_
          obtain ⟨rfl, rfl⟩ := H11
          exact z_lret dX11_waits_25 rfl (by decide) (by decide)
theorem eX11_waits {g : zG} {I : Nat → Nat → Int32} {P : Nat → Nat → Option Nat} {r : Option Value} {h' : zH} {a0 : Nat} {x1 : Int32} {x2 : Int32} {x3 : Int32} (H : Zt none mX11_waits 0 0 0 [(0, .ref a0), (1, .int x1), (2, .int x2), (3, .int x3)] [] (g, I, P) r h') : Cl mX11_waits [.ref a0, .int x1, .int x2, .int x3] (g, I, P) r h' := Cl.of (by decide) (Nat.le_of_ble_eq_true rfl) H
theorem dX11_count_0 : decode cX11_count 0 = .ok (.aload_n 0, 1) := by decide +kernel
theorem dX11_count_1 : decode cX11_count 1 = .ok (.getfield 10, 3) := by decide +kernel
theorem dX11_count_4 : decode cX11_count 4 = .ok (.iload_n 1, 1) := by decide +kernel
theorem dX11_count_5 : decode cX11_count 5 = .ok (.invokevirtual 69, 3) := by decide +kernel
theorem dX11_count_8 : decode cX11_count 8 = .ok (.ireturn, 1) := by decide +kernel
set_option maxRecDepth 10000 in
theorem wX11_count_0 {g : zG} {I : Nat → Nat → Int32} {P : Nat → Nat → Option Nat} {r : Option Value} {h' : zH} {a0 : Nat} {x1 : Int32} (H : zk g a0 11 ∧ ∃ b1, P a0 0 = some b1 ∧ zk g b1 9 ∧ ∃ (w4 : Int32), Cl mX9_many [.ref b1, .int x1] (g, I, P) (some (.int w4)) (g, I, P) ∧ r = some (.int w4) ∧ h' = (g, I, P)) : Zt none mX11_count 0 0 0 [(0, .ref a0), (1, .int x1)] [] (g, I, P) r h' := by
  refine z_aload_n 0 dX11_count_0 rfl rfl ?_
  obtain ⟨oe3, b1, e3, H2⟩ := H
  refine z_getP dX11_count_1 wf_X11_10 (by decide) (by decide) rfl oe3 (fun q => (by cases q.symm.trans e3)) (fun j q => ?_)
  cases q.symm.trans e3
  refine z_iload_n 1 dX11_count_4 rfl ?_
  obtain ⟨oc5, w4, c5, H6⟩ := H2
  refine z_virt (As := [.int x1]) (st := []) (r1 := (some (.int w4))) (h1 := (g, I, P)) dX11_count_5 kX9_many wm_X11_69 ⟨by decide, by decide⟩ rfl rfl (Nat.le_of_ble_eq_true rfl) (by decide) (by decide) oc5 c5 ?_
  obtain ⟨rfl, rfl⟩ := H6
  exact z_iret dX11_count_8 rfl (by decide) (by decide)
theorem eX11_count {g : zG} {I : Nat → Nat → Int32} {P : Nat → Nat → Option Nat} {r : Option Value} {h' : zH} {a0 : Nat} {x1 : Int32} (H : Zt none mX11_count 0 0 0 [(0, .ref a0), (1, .int x1)] [] (g, I, P) r h') : Cl mX11_count [.ref a0, .int x1] (g, I, P) r h' := Cl.of (by decide) (Nat.le_of_ble_eq_true rfl) H
theorem dX11_again_0 : decode cX11_again 0 = .ok (.iload_n 1, 1) := by decide +kernel
theorem dX11_again_1 : decode cX11_again 1 = .ok (.ifCond .lt 12, 3) := by decide +kernel
theorem dX11_again_4 : decode cX11_again 4 = .ok (.iload_n 1, 1) := by decide +kernel
theorem dX11_again_5 : decode cX11_again 5 = .ok (.aload_n 0, 1) := by decide +kernel
theorem dX11_again_6 : decode cX11_again 6 = .ok (.getfield 16, 3) := by decide +kernel
theorem dX11_again_9 : decode cX11_again 9 = .ok (.arraylength, 1) := by decide +kernel
theorem dX11_again_10 : decode cX11_again 10 = .ok (.if_icmp .lt 5, 3) := by decide +kernel
theorem dX11_again_13 : decode cX11_again 13 = .ok (.iconst 0, 1) := by decide +kernel
theorem dX11_again_14 : decode cX11_again 14 = .ok (.ireturn, 1) := by decide +kernel
theorem dX11_again_15 : decode cX11_again 15 = .ok (.aload_n 0, 1) := by decide +kernel
theorem dX11_again_16 : decode cX11_again 16 = .ok (.getfield 16, 3) := by decide +kernel
theorem dX11_again_19 : decode cX11_again 19 = .ok (.iload_n 1, 1) := by decide +kernel
theorem dX11_again_20 : decode cX11_again 20 = .ok (.aaload, 1) := by decide +kernel
theorem dX11_again_21 : decode cX11_again 21 = .ok (.astore_n 2, 1) := by decide +kernel
theorem dX11_again_22 : decode cX11_again 22 = .ok (.aload_n 2, 1) := by decide +kernel
theorem dX11_again_23 : decode cX11_again 23 = .ok (.ifnonnull 5, 3) := by decide +kernel
theorem dX11_again_26 : decode cX11_again 26 = .ok (.iconst 0, 1) := by decide +kernel
theorem dX11_again_27 : decode cX11_again 27 = .ok (.ireturn, 1) := by decide +kernel
theorem dX11_again_28 : decode cX11_again 28 = .ok (.aload_n 0, 1) := by decide +kernel
theorem dX11_again_29 : decode cX11_again 29 = .ok (.getfield 10, 3) := by decide +kernel
theorem dX11_again_32 : decode cX11_again 32 = .ok (.aload_n 2, 1) := by decide +kernel
theorem dX11_again_33 : decode cX11_again 33 = .ok (.invokevirtual 273, 3) := by decide +kernel
theorem dX11_again_36 : decode cX11_again 36 = .ok (.iconst 1, 1) := by decide +kernel
theorem dX11_again_37 : decode cX11_again 37 = .ok (.ireturn, 1) := by decide +kernel
set_option maxRecDepth 10000 in
theorem wX11_again_0 {g : zG} {I : Nat → Nat → Int32} {P : Nat → Nat → Option Nat} {r : Option Value} {h' : zH} {a0 : Nat} {x1 : Int32} (H : ((x1 < 0) → r = some (.int 0) ∧ h' = (g, I, P)) ∧ ((¬ x1 < 0) → zk g a0 11 ∧ ∃ b3, P a0 1 = some b3 ∧ zk g b3 19 ∧ ((x1 < Int32.ofNat (g.2.2 b3)) → zk g a0 11 ∧ ∃ b7, P a0 1 = some b7 ∧ zk g b7 19 ∧ vp_in x1 (g.2.2 b7) ∧ ((P b7 x1.toNatClampNeg = none) → r = some (.int 0) ∧ h' = (g, I, P)) ∧ (∀ b10, P b7 x1.toNatClampNeg = some b10 → zk g a0 11 ∧ ∃ b13, P a0 0 = some b13 ∧ zk g b13 9 ∧ ∃ (I16 : Nat → Nat → Int32), Cl mX9_copy [.ref b13, .ref b10] (g, I, P) none (g, I16, P) ∧ r = some (.int 1) ∧ h' = (g, I16, P))) ∧ ((¬ x1 < Int32.ofNat (g.2.2 b3)) → r = some (.int 0) ∧ h' = (g, I, P)))) : Zt none mX11_again 0 0 0 [(0, .ref a0), (1, .int x1)] [] (g, I, P) r h' := by
  refine z_iload_n 1 dX11_again_0 rfl ?_
  refine z_if_lt (t := 13) dX11_again_1 (by decide) (fun q => ?_) (fun q => ?_)
  · have H1 := H.1 q
    refine z_iconst (w := 0) dX11_again_13 (by decide) ?_
    obtain ⟨rfl, rfl⟩ := H1
    exact z_zret dX11_again_14 rfl (Or.inl rfl) (by decide) (by decide)
  · have H2 := H.2 q
    refine z_iload_n 1 dX11_again_4 rfl (z_aload_n 0 dX11_again_5 rfl rfl ?_)
    obtain ⟨oe5, b3, e5, H4⟩ := H2
    refine z_getP dX11_again_6 wf_X11_16 (by decide) (by decide) rfl oe5 (fun q => (by cases q.symm.trans e5)) (fun j q => ?_)
    cases q.symm.trans e5
    refine z_alen dX11_again_9 H4.1 (by decide) (by decide) ?_
    refine z_icmp_lt (t := 15) dX11_again_10 (by decide) (fun q => ?_) (fun q => ?_)
    · have H6 := H4.2.1 q
      refine z_aload_n 0 dX11_again_15 rfl rfl ?_
      obtain ⟨oe9, b7, e9, H8⟩ := H6
      refine z_getP dX11_again_16 wf_X11_16 (by decide) (by decide) rfl oe9 (fun q => (by cases q.symm.trans e9)) (fun j q => ?_)
      cases q.symm.trans e9
      refine z_iload_n 1 dX11_again_19 rfl ?_
      refine z_aald dX11_again_20 H8.1 (by decide) (by decide) H8.2.1 (fun q => ?_) (fun b10 q => ?_)
      · have H11 := H8.2.2.1 q
        refine z_astore_n (lv' := [(2, .null), (0, .ref a0), (1, .int x1)]) dX11_again_21 (by decide) rfl rfl (z_aload_n 0 dX11_again_22 rfl rfl (z_ifnonnullN dX11_again_23 (z_iconst (w := 0) dX11_again_26 (by decide) ?_)))
        obtain ⟨rfl, rfl⟩ := H11
        exact z_zret dX11_again_27 rfl (Or.inl rfl) (by decide) (by decide)
      · have H12 := H8.2.2.2 b10 q
        refine z_astore_n (lv' := [(2, .ref b10), (0, .ref a0), (1, .int x1)]) dX11_again_21 (by decide) rfl rfl (z_aload_n 0 dX11_again_22 rfl rfl (z_ifnonnullR (t := 28) dX11_again_23 (by decide) (z_aload_n 1 dX11_again_28 rfl rfl ?_)))
        obtain ⟨oe15, b13, e15, H14⟩ := H12
        refine z_getP dX11_again_29 wf_X11_10 (by decide) (by decide) rfl oe15 (fun q => (by cases q.symm.trans e15)) (fun j q => ?_)
        cases q.symm.trans e15
        refine z_aload_n 0 dX11_again_32 rfl rfl ?_
        obtain ⟨oc17, I16, c17, H18⟩ := H14
        refine z_virt (As := [.ref b10]) (st := []) (r1 := none) (h1 := (g, I16, P)) dX11_again_33 kX9_copy wm_X11_273 ⟨by decide, by decide⟩ rfl rfl (Nat.le_of_ble_eq_true rfl) (by decide) (by decide) oc17 c17 ?_
        refine z_iconst (w := 1) dX11_again_36 (by decide) ?_
        obtain ⟨rfl, rfl⟩ := H18
        exact z_zret dX11_again_37 rfl (Or.inr rfl) (by decide) (by decide)
    · have H19 := H4.2.2 q
      refine z_iconst (w := 0) dX11_again_13 (by decide) ?_
      obtain ⟨rfl, rfl⟩ := H19
      exact z_zret dX11_again_14 rfl (Or.inl rfl) (by decide) (by decide)
theorem eX11_again {g : zG} {I : Nat → Nat → Int32} {P : Nat → Nat → Option Nat} {r : Option Value} {h' : zH} {a0 : Nat} {x1 : Int32} (H : Zt none mX11_again 0 0 0 [(0, .ref a0), (1, .int x1)] [] (g, I, P) r h') : Cl mX11_again [.ref a0, .int x1] (g, I, P) r h' := Cl.of (by decide) (Nat.le_of_ble_eq_true rfl) H
theorem dX11_winningLetter_0 : decode cX11_winningLetter 0 = .ok (.iload_n 2, 1) := by decide +kernel
theorem dX11_winningLetter_1 : decode cX11_winningLetter 1 = .ok (.ifCond .lt 17, 3) := by decide +kernel
theorem dX11_winningLetter_4 : decode cX11_winningLetter 4 = .ok (.iload_n 2, 1) := by decide +kernel
theorem dX11_winningLetter_5 : decode cX11_winningLetter 5 = .ok (.bipush 6, 2) := by decide +kernel
theorem dX11_winningLetter_7 : decode cX11_winningLetter 7 = .ok (.if_icmp .ge 11, 3) := by decide +kernel
theorem dX11_winningLetter_10 : decode cX11_winningLetter 10 = .ok (.aload_n 0, 1) := by decide +kernel
theorem dX11_winningLetter_11 : decode cX11_winningLetter 11 = .ok (.iload_n 1, 1) := by decide +kernel
theorem dX11_winningLetter_12 : decode cX11_winningLetter 12 = .ok (.invokevirtual 131, 3) := by decide +kernel
theorem dX11_winningLetter_15 : decode cX11_winningLetter 15 = .ok (.ifCond .ne 5, 3) := by decide +kernel
theorem dX11_winningLetter_18 : decode cX11_winningLetter 18 = .ok (.iconst (-1), 1) := by decide +kernel
theorem dX11_winningLetter_19 : decode cX11_winningLetter 19 = .ok (.ireturn, 1) := by decide +kernel
theorem dX11_winningLetter_20 : decode cX11_winningLetter 20 = .ok (.iconst 0, 1) := by decide +kernel
theorem dX11_winningLetter_21 : decode cX11_winningLetter 21 = .ok (.istore_n 3, 1) := by decide +kernel
theorem dX11_winningLetter_22 : decode cX11_winningLetter 22 = .ok (.iload_n 3, 1) := by decide +kernel
theorem dX11_winningLetter_23 : decode cX11_winningLetter 23 = .ok (.bipush 6, 2) := by decide +kernel
theorem dX11_winningLetter_25 : decode cX11_winningLetter 25 = .ok (.if_icmp .ge 51, 3) := by decide +kernel
theorem dX11_winningLetter_28 : decode cX11_winningLetter 28 = .ok (.aload_n 0, 1) := by decide +kernel
theorem dX11_winningLetter_29 : decode cX11_winningLetter 29 = .ok (.iload_n 1, 1) := by decide +kernel
theorem dX11_winningLetter_30 : decode cX11_winningLetter 30 = .ok (.iload_n 2, 1) := by decide +kernel
theorem dX11_winningLetter_31 : decode cX11_winningLetter 31 = .ok (.iload_n 3, 1) := by decide +kernel
theorem dX11_winningLetter_32 : decode cX11_winningLetter 32 = .ok (.invokevirtual 277, 3) := by decide +kernel
theorem dX11_winningLetter_35 : decode cX11_winningLetter 35 = .ok (.istore 4, 2) := by decide +kernel
theorem dX11_winningLetter_37 : decode cX11_winningLetter 37 = .ok (.iload 4, 2) := by decide +kernel
theorem dX11_winningLetter_39 : decode cX11_winningLetter 39 = .ok (.iconst (-1), 1) := by decide +kernel
theorem dX11_winningLetter_40 : decode cX11_winningLetter 40 = .ok (.if_icmp .eq 30, 3) := by decide +kernel
theorem dX11_winningLetter_43 : decode cX11_winningLetter 43 = .ok (.aload_n 0, 1) := by decide +kernel
theorem dX11_winningLetter_44 : decode cX11_winningLetter 44 = .ok (.iload 4, 2) := by decide +kernel
theorem dX11_winningLetter_46 : decode cX11_winningLetter 46 = .ok (.iload_n 2, 1) := by decide +kernel
theorem dX11_winningLetter_47 : decode cX11_winningLetter 47 = .ok (.iconst 1, 1) := by decide +kernel
theorem dX11_winningLetter_48 : decode cX11_winningLetter 48 = .ok (.iadd, 1) := by decide +kernel
theorem dX11_winningLetter_49 : decode cX11_winningLetter 49 = .ok (.invokevirtual 281, 3) := by decide +kernel
theorem dX11_winningLetter_52 : decode cX11_winningLetter 52 = .ok (.ifCond .ne 18, 3) := by decide +kernel
theorem dX11_winningLetter_55 : decode cX11_winningLetter 55 = .ok (.aload_n 0, 1) := by decide +kernel
theorem dX11_winningLetter_56 : decode cX11_winningLetter 56 = .ok (.iload 4, 2) := by decide +kernel
theorem dX11_winningLetter_58 : decode cX11_winningLetter 58 = .ok (.iload_n 2, 1) := by decide +kernel
theorem dX11_winningLetter_59 : decode cX11_winningLetter 59 = .ok (.iconst 1, 1) := by decide +kernel
theorem dX11_winningLetter_60 : decode cX11_winningLetter 60 = .ok (.iadd, 1) := by decide +kernel
theorem dX11_winningLetter_61 : decode cX11_winningLetter 61 = .ok (.invokestatic 182, 3) := by decide +kernel
theorem dX11_winningLetter_64 : decode cX11_winningLetter 64 = .ok (.iconst (-1), 1) := by decide +kernel
theorem dX11_winningLetter_65 : decode cX11_winningLetter 65 = .ok (.if_icmp .ne 5, 3) := by decide +kernel
theorem dX11_winningLetter_68 : decode cX11_winningLetter 68 = .ok (.iload_n 3, 1) := by decide +kernel
theorem dX11_winningLetter_69 : decode cX11_winningLetter 69 = .ok (.ireturn, 1) := by decide +kernel
theorem dX11_winningLetter_70 : decode cX11_winningLetter 70 = .ok (.iinc 3 1, 3) := by decide +kernel
theorem dX11_winningLetter_73 : decode cX11_winningLetter 73 = .ok (.goto (-51), 3) := by decide +kernel
theorem dX11_winningLetter_76 : decode cX11_winningLetter 76 = .ok (.iconst (-1), 1) := by decide +kernel
theorem dX11_winningLetter_77 : decode cX11_winningLetter 77 = .ok (.ireturn, 1) := by decide +kernel
set_option maxRecDepth 10000 in
theorem wX11_winningLetter_0 {jj : Nat} {g : zG} {I : Nat → Nat → Int32} {P : Nat → Nat → Option Nat} {r : Option Value} {h' : zH} {a0 : Nat} {x1 : Int32} {x2 : Int32} (H : ((x2 < 0) → r = some (.int (-1)) ∧ h' = (g, I, P)) ∧ ((¬ x2 < 0) → ((6 ≤ x2) → r = some (.int (-1)) ∧ h' = (g, I, P)) ∧ ((¬ 6 ≤ x2) → zk g a0 3 ∧ ∃ (w5 : Int32), Cl mX3_hasWord [.ref a0, .int x1] (g, I, P) (some (.int w5)) (g, I, P) ∧ ((¬ w5 = 0) → Zt none (mX11_winningLetter (jj + 1)) 0 0 22 [(0, .ref a0), (1, .int x1), (2, .int x2), (3, .int 0)] [] (g, I, P) r h') ∧ ((w5 = 0) → r = some (.int (-1)) ∧ h' = (g, I, P))))) : Zt none (mX11_winningLetter (jj + 1)) 0 0 0 [(0, .ref a0), (1, .int x1), (2, .int x2)] [] (g, I, P) r h' := by
  refine z_iload_n 2 dX11_winningLetter_0 rfl ?_
  refine z_if_lt (t := 18) dX11_winningLetter_1 (by first | decide | exact Nat.le_of_ble_eq_true rfl) (fun q => ?_) (fun q => ?_)
  · have H1 := H.1 q
    refine z_iconst (w := (-1)) dX11_winningLetter_18 (by first | decide | exact Nat.le_of_ble_eq_true rfl) ?_
    obtain ⟨rfl, rfl⟩ := H1
    exact z_iret dX11_winningLetter_19 rfl (by first | decide | exact Nat.le_of_ble_eq_true rfl) (by first | decide | exact Nat.le_of_ble_eq_true rfl)
  · have H2 := H.2 q
    refine z_iload_n 2 dX11_winningLetter_4 rfl (z_bipush (w := 6) dX11_winningLetter_5 (by first | decide | exact Nat.le_of_ble_eq_true rfl) ?_)
    refine z_icmp_ge (t := 18) dX11_winningLetter_7 (by first | decide | exact Nat.le_of_ble_eq_true rfl) (fun q => ?_) (fun q => ?_)
    · have H3 := H2.1 q
      refine z_iconst (w := (-1)) dX11_winningLetter_18 (by first | decide | exact Nat.le_of_ble_eq_true rfl) ?_
      obtain ⟨rfl, rfl⟩ := H3
      exact z_iret dX11_winningLetter_19 rfl (by first | decide | exact Nat.le_of_ble_eq_true rfl) (by first | decide | exact Nat.le_of_ble_eq_true rfl)
    · have H4 := H2.2 q
      refine z_aload_n 0 dX11_winningLetter_10 rfl rfl (z_iload_n 1 dX11_winningLetter_11 rfl ?_)
      obtain ⟨oc6, w5, c6, H7⟩ := H4
      refine z_virt (As := [.int x1]) (st := []) (r1 := (some (.int w5))) (h1 := (g, I, P)) dX11_winningLetter_12 kX3_hasWord wm_X11_131 ⟨Nat.le_trans (show _ ≤ 5 by decide) (Nat.le_add_right _ _), by decide⟩ rfl rfl (Nat.le_of_ble_eq_true rfl) (by first | decide | exact Nat.le_of_ble_eq_true rfl) (by first | decide | exact Nat.le_of_ble_eq_true rfl) oc6 c6 ?_
      refine z_if_ne (t := 20) dX11_winningLetter_15 (by first | decide | exact Nat.le_of_ble_eq_true rfl) (fun q => ?_) (fun q => ?_)
      · have H8 := H7.1 q
        refine z_iconst (w := 0) dX11_winningLetter_20 (by first | decide | exact Nat.le_of_ble_eq_true rfl) (z_istore_n (lv' := [(3, .int 0), (0, .ref a0), (1, .int x1), (2, .int x2)]) dX11_winningLetter_21 (by first | decide | exact Nat.le_of_ble_eq_true rfl) rfl ?_)
        exact z_less [1, 2, 3, 0] rfl H8
      · have H9 := H7.2 q
        refine z_iconst (w := (-1)) dX11_winningLetter_18 (by first | decide | exact Nat.le_of_ble_eq_true rfl) ?_
        obtain ⟨rfl, rfl⟩ := H9
        exact z_iret dX11_winningLetter_19 rfl (by first | decide | exact Nat.le_of_ble_eq_true rfl) (by first | decide | exact Nat.le_of_ble_eq_true rfl)
theorem eX11_winningLetter {jj : Nat} {g : zG} {I : Nat → Nat → Int32} {P : Nat → Nat → Option Nat} {r : Option Value} {h' : zH} {a0 : Nat} {x1 : Int32} {x2 : Int32} (H : Zt none (mX11_winningLetter (jj + 1)) 0 0 0 [(0, .ref a0), (1, .int x1), (2, .int x2)] [] (g, I, P) r h') : Cl (mX11_winningLetter (jj + 1)) [.ref a0, .int x1, .int x2] (g, I, P) r h' := Cl.of (by show plainName yX11_winningLetter.cls = true; decide) (Nat.le_of_ble_eq_true rfl) H
set_option maxRecDepth 10000 in
theorem wX11_winningLetter_22 {jj : Nat} {g : zG} {I : Nat → Nat → Int32} {P : Nat → Nat → Option Nat} {r : Option Value} {h' : zH} {a0 : Nat} {x1 : Int32} {x2 : Int32} {x3 : Int32} (H : ((6 ≤ x3) → r = some (.int (-1)) ∧ h' = (g, I, P)) ∧ ((¬ 6 ≤ x3) → zk g a0 3 ∧ ∃ (w3 : Int32), Cl mX3_wordGoingOn [.ref a0, .int x1, .int x2, .int x3] (g, I, P) (some (.int w3)) (g, I, P) ∧ ((w3 = (-1)) → Zt none (mX11_winningLetter (jj + 1)) 0 0 22 [(0, .ref a0), (1, .int x1), (2, .int x2), (3, .int (x3 + 1))] [] (g, I, P) r h') ∧ ((¬ w3 = (-1)) → zk g a0 3 ∧ ∃ (w8 : Int32), Cl mX3_isWhole [.ref a0, .int w3, .int (x2 + 1)] (g, I, P) (some (.int w8)) (g, I, P) ∧ ((¬ w8 = 0) → Zt none (mX11_winningLetter (jj + 1)) 0 0 22 [(0, .ref a0), (1, .int x1), (2, .int x2), (3, .int (x3 + 1))] [] (g, I, P) r h') ∧ ((w8 = 0) → ∃ (w13 : Int32), Cl (mX11_winningLetter jj) [.ref a0, .int w3, .int (x2 + 1)] (g, I, P) (some (.int w13)) (g, I, P) ∧ ((¬ w13 = (-1)) → Zt none (mX11_winningLetter (jj + 1)) 0 0 22 [(0, .ref a0), (1, .int x1), (2, .int x2), (3, .int (x3 + 1))] [] (g, I, P) r h') ∧ ((w13 = (-1)) → r = some (.int x3) ∧ h' = (g, I, P)))))) : Zt none (mX11_winningLetter (jj + 1)) 0 0 22 [(0, .ref a0), (1, .int x1), (2, .int x2), (3, .int x3)] [] (g, I, P) r h' := by
  refine z_iload_n 3 dX11_winningLetter_22 rfl (z_bipush (w := 6) dX11_winningLetter_23 (by first | decide | exact Nat.le_of_ble_eq_true rfl) ?_)
  refine z_icmp_ge (t := 76) dX11_winningLetter_25 (by first | decide | exact Nat.le_of_ble_eq_true rfl) (fun q => ?_) (fun q => ?_)
  · have H1 := H.1 q
    refine z_iconst (w := (-1)) dX11_winningLetter_76 (by first | decide | exact Nat.le_of_ble_eq_true rfl) ?_
    obtain ⟨rfl, rfl⟩ := H1
    exact z_iret dX11_winningLetter_77 rfl (by first | decide | exact Nat.le_of_ble_eq_true rfl) (by first | decide | exact Nat.le_of_ble_eq_true rfl)
  · have H2 := H.2 q
    refine z_aload_n 0 dX11_winningLetter_28 rfl rfl (z_iload_n 1 dX11_winningLetter_29 rfl (z_iload_n 2 dX11_winningLetter_30 rfl (z_iload_n 3 dX11_winningLetter_31 rfl ?_)))
    obtain ⟨oc4, w3, c4, H5⟩ := H2
    refine z_virt (As := [.int x1, .int x2, .int x3]) (st := []) (r1 := (some (.int w3))) (h1 := (g, I, P)) dX11_winningLetter_32 kX3_wordGoingOn wm_X11_277 ⟨Nat.le_trans (show _ ≤ 5 by decide) (Nat.le_add_right _ _), by decide⟩ rfl rfl (Nat.le_of_ble_eq_true rfl) (by first | decide | exact Nat.le_of_ble_eq_true rfl) (by first | decide | exact Nat.le_of_ble_eq_true rfl) oc4 c4 ?_
    refine z_istore (lv' := [(4, .int w3), (0, .ref a0), (1, .int x1), (2, .int x2), (3, .int x3)]) dX11_winningLetter_35 (by first | decide | exact Nat.le_of_ble_eq_true rfl) rfl (z_iload 0 dX11_winningLetter_37 rfl (z_iconst (w := (-1)) dX11_winningLetter_39 (by first | decide | exact Nat.le_of_ble_eq_true rfl) ?_))
    refine z_icmp_eq (t := 70) dX11_winningLetter_40 (by first | decide | exact Nat.le_of_ble_eq_true rfl) (fun q => ?_) (fun q => ?_)
    · have H6 := H5.1 q
      refine z_iinc (y := x3 + 1) (lv' := [(3, .int (x3 + 1)), (4, .int w3), (0, .ref a0), (1, .int x1), (2, .int x2)]) 4 dX11_winningLetter_70 rfl rfl (by first | decide | exact Nat.le_of_ble_eq_true rfl) rfl (z_goto (t := 22) dX11_winningLetter_73 (by first | decide | exact Nat.le_of_ble_eq_true rfl) ?_)
      exact z_less [2, 3, 4, 0] rfl H6
    · have H7 := H5.2 q
      refine z_aload_n 1 dX11_winningLetter_43 rfl rfl (z_iload 0 dX11_winningLetter_44 rfl (z_iload_n 3 dX11_winningLetter_46 rfl (z_iconst (w := 1) dX11_winningLetter_47 (by first | decide | exact Nat.le_of_ble_eq_true rfl) (z_iadd dX11_winningLetter_48 ?_))))
      obtain ⟨oc9, w8, c9, H10⟩ := H7
      refine z_virt (As := [.int w3, .int (x2 + 1)]) (st := []) (r1 := (some (.int w8))) (h1 := (g, I, P)) dX11_winningLetter_49 kX3_isWhole wm_X11_281 ⟨Nat.le_trans (show _ ≤ 5 by decide) (Nat.le_add_right _ _), by decide⟩ rfl rfl (Nat.le_of_ble_eq_true rfl) (by first | decide | exact Nat.le_of_ble_eq_true rfl) (by first | decide | exact Nat.le_of_ble_eq_true rfl) oc9 c9 ?_
      refine z_if_ne (t := 70) dX11_winningLetter_52 (by first | decide | exact Nat.le_of_ble_eq_true rfl) (fun q => ?_) (fun q => ?_)
      · have H11 := H10.1 q
        refine z_iinc (y := x3 + 1) (lv' := [(3, .int (x3 + 1)), (4, .int w3), (0, .ref a0), (1, .int x1), (2, .int x2)]) 4 dX11_winningLetter_70 rfl rfl (by first | decide | exact Nat.le_of_ble_eq_true rfl) rfl (z_goto (t := 22) dX11_winningLetter_73 (by first | decide | exact Nat.le_of_ble_eq_true rfl) ?_)
        exact z_less [2, 3, 4, 0] rfl H11
      · have H12 := H10.2 q
        refine z_aload_n 1 dX11_winningLetter_55 rfl rfl (z_iload 0 dX11_winningLetter_56 rfl (z_iload_n 3 dX11_winningLetter_58 rfl (z_iconst (w := 1) dX11_winningLetter_59 (by first | decide | exact Nat.le_of_ble_eq_true rfl) (z_iadd dX11_winningLetter_60 ?_))))
        obtain ⟨w13, c14, H15⟩ := H12
        refine z_stat (As := [.ref a0, .int w3, .int (x2 + 1)]) (st := []) (r1 := (some (.int w13))) (h1 := (g, I, P)) dX11_winningLetter_61 (kX11_winningLetter _) wm_X11_182 ⟨Nat.le_refl _, Nat.le_of_ble_eq_true rfl⟩ rfl rfl (Nat.le_of_ble_eq_true rfl) (by first | decide | exact Nat.le_of_ble_eq_true rfl) (by first | decide | exact Nat.le_of_ble_eq_true rfl) c14 ?_
        refine z_iconst (w := (-1)) dX11_winningLetter_64 (by first | decide | exact Nat.le_of_ble_eq_true rfl) ?_
        refine z_icmp_ne (t := 70) dX11_winningLetter_65 (by first | decide | exact Nat.le_of_ble_eq_true rfl) (fun q => ?_) (fun q => ?_)
        · have H16 := H15.1 q
          refine z_iinc (y := x3 + 1) (lv' := [(3, .int (x3 + 1)), (4, .int w3), (0, .ref a0), (1, .int x1), (2, .int x2)]) 4 dX11_winningLetter_70 rfl rfl (by first | decide | exact Nat.le_of_ble_eq_true rfl) rfl (z_goto (t := 22) dX11_winningLetter_73 (by first | decide | exact Nat.le_of_ble_eq_true rfl) ?_)
          exact z_less [2, 3, 4, 0] rfl H16
        · have H17 := H15.2 q
          refine z_iload_n 4 dX11_winningLetter_68 rfl ?_
          obtain ⟨rfl, rfl⟩ := H17
          exact z_iret dX11_winningLetter_69 rfl (by first | decide | exact Nat.le_of_ble_eq_true rfl) (by first | decide | exact Nat.le_of_ble_eq_true rfl)
theorem dX11_waysOfExactly_0 : decode cX11_waysOfExactly 0 = .ok (.lconst 1, 1) := by decide +kernel
theorem dX11_waysOfExactly_1 : decode cX11_waysOfExactly 1 = .ok (.lstore_n 3, 1) := by decide +kernel
theorem dX11_waysOfExactly_2 : decode cX11_waysOfExactly 2 = .ok (.iconst 1, 1) := by decide +kernel
theorem dX11_waysOfExactly_3 : decode cX11_waysOfExactly 3 = .ok (.istore 5, 2) := by decide +kernel
theorem dX11_waysOfExactly_5 : decode cX11_waysOfExactly 5 = .ok (.iload 5, 2) := by decide +kernel
theorem dX11_waysOfExactly_7 : decode cX11_waysOfExactly 7 = .ok (.iload_n 0, 1) := by decide +kernel
theorem dX11_waysOfExactly_8 : decode cX11_waysOfExactly 8 = .ok (.if_icmp .gt 23, 3) := by decide +kernel
theorem dX11_waysOfExactly_11 : decode cX11_waysOfExactly 11 = .ok (.lload_n 3, 1) := by decide +kernel
theorem dX11_waysOfExactly_12 : decode cX11_waysOfExactly 12 = .ok (.iload_n 1, 1) := by decide +kernel
theorem dX11_waysOfExactly_13 : decode cX11_waysOfExactly 13 = .ok (.iload_n 0, 1) := by decide +kernel
theorem dX11_waysOfExactly_14 : decode cX11_waysOfExactly 14 = .ok (.isub, 1) := by decide +kernel
theorem dX11_waysOfExactly_15 : decode cX11_waysOfExactly 15 = .ok (.iload 5, 2) := by decide +kernel
theorem dX11_waysOfExactly_17 : decode cX11_waysOfExactly 17 = .ok (.iadd, 1) := by decide +kernel
theorem dX11_waysOfExactly_18 : decode cX11_waysOfExactly 18 = .ok (.i2l, 1) := by decide +kernel
theorem dX11_waysOfExactly_19 : decode cX11_waysOfExactly 19 = .ok (.lmul, 1) := by decide +kernel
theorem dX11_waysOfExactly_20 : decode cX11_waysOfExactly 20 = .ok (.iload 5, 2) := by decide +kernel
theorem dX11_waysOfExactly_22 : decode cX11_waysOfExactly 22 = .ok (.i2l, 1) := by decide +kernel
theorem dX11_waysOfExactly_23 : decode cX11_waysOfExactly 23 = .ok (.ldiv, 1) := by decide +kernel
theorem dX11_waysOfExactly_24 : decode cX11_waysOfExactly 24 = .ok (.lstore_n 3, 1) := by decide +kernel
theorem dX11_waysOfExactly_25 : decode cX11_waysOfExactly 25 = .ok (.iinc 5 1, 3) := by decide +kernel
theorem dX11_waysOfExactly_28 : decode cX11_waysOfExactly 28 = .ok (.goto (-23), 3) := by decide +kernel
theorem dX11_waysOfExactly_31 : decode cX11_waysOfExactly 31 = .ok (.iconst 0, 1) := by decide +kernel
theorem dX11_waysOfExactly_32 : decode cX11_waysOfExactly 32 = .ok (.istore 5, 2) := by decide +kernel
theorem dX11_waysOfExactly_34 : decode cX11_waysOfExactly 34 = .ok (.iload 5, 2) := by decide +kernel
theorem dX11_waysOfExactly_36 : decode cX11_waysOfExactly 36 = .ok (.iload_n 1, 1) := by decide +kernel
theorem dX11_waysOfExactly_37 : decode cX11_waysOfExactly 37 = .ok (.if_icmp .ge 28, 3) := by decide +kernel
theorem dX11_waysOfExactly_40 : decode cX11_waysOfExactly 40 = .ok (.lload_n 3, 1) := by decide +kernel
theorem dX11_waysOfExactly_41 : decode cX11_waysOfExactly 41 = .ok (.iload 5, 2) := by decide +kernel
theorem dX11_waysOfExactly_43 : decode cX11_waysOfExactly 43 = .ok (.iload_n 0, 1) := by decide +kernel
theorem dX11_waysOfExactly_44 : decode cX11_waysOfExactly 44 = .ok (.if_icmp .ge 8, 3) := by decide +kernel
theorem dX11_waysOfExactly_47 : decode cX11_waysOfExactly 47 = .ok (.iload_n 2, 1) := by decide +kernel
theorem dX11_waysOfExactly_48 : decode cX11_waysOfExactly 48 = .ok (.i2l, 1) := by decide +kernel
theorem dX11_waysOfExactly_49 : decode cX11_waysOfExactly 49 = .ok (.goto 8, 3) := by decide +kernel
theorem dX11_waysOfExactly_52 : decode cX11_waysOfExactly 52 = .ok (.bipush 10, 2) := by decide +kernel
theorem dX11_waysOfExactly_54 : decode cX11_waysOfExactly 54 = .ok (.iload_n 2, 1) := by decide +kernel
theorem dX11_waysOfExactly_55 : decode cX11_waysOfExactly 55 = .ok (.isub, 1) := by decide +kernel
theorem dX11_waysOfExactly_56 : decode cX11_waysOfExactly 56 = .ok (.i2l, 1) := by decide +kernel
theorem dX11_waysOfExactly_57 : decode cX11_waysOfExactly 57 = .ok (.lmul, 1) := by decide +kernel
theorem dX11_waysOfExactly_58 : decode cX11_waysOfExactly 58 = .ok (.lstore_n 3, 1) := by decide +kernel
theorem dX11_waysOfExactly_59 : decode cX11_waysOfExactly 59 = .ok (.iinc 5 1, 3) := by decide +kernel
theorem dX11_waysOfExactly_62 : decode cX11_waysOfExactly 62 = .ok (.goto (-28), 3) := by decide +kernel
theorem dX11_waysOfExactly_65 : decode cX11_waysOfExactly 65 = .ok (.lload_n 3, 1) := by decide +kernel
theorem dX11_waysOfExactly_66 : decode cX11_waysOfExactly 66 = .ok (.lreturn, 1) := by decide +kernel
set_option maxRecDepth 10000 in
theorem wX11_waysOfExactly_0 {g : zG} {I : Nat → Nat → Int32} {P : Nat → Nat → Option Nat} {r : Option Value} {h' : zH} {x0 : Int32} {x1 : Int32} {x2 : Int32} (H : Zt none mX11_waysOfExactly 0 0 5 [(0, .int x0), (1, .int x1), (2, .int x2), (3, .long 1), (5, .int 1)] [] (g, I, P) r h') : Zt none mX11_waysOfExactly 0 0 0 [(0, .int x0), (1, .int x1), (2, .int x2)] [] (g, I, P) r h' := by
  refine z_lconst (w := 1) dX11_waysOfExactly_0 (by decide) (z_lstore_n (lv' := [(3, .long 1), (0, .int x0), (1, .int x1), (2, .int x2)]) dX11_waysOfExactly_1 (by decide) rfl (z_iconst (w := 1) dX11_waysOfExactly_2 (by decide) (z_istore (lv' := [(5, .int 1), (3, .long 1), (0, .int x0), (1, .int x1), (2, .int x2)]) dX11_waysOfExactly_3 (by decide) rfl ?_)))
  exact z_less [2, 3, 4, 1, 0] rfl H
theorem eX11_waysOfExactly {g : zG} {I : Nat → Nat → Int32} {P : Nat → Nat → Option Nat} {r : Option Value} {h' : zH} {x0 : Int32} {x1 : Int32} {x2 : Int32} (H : Zt none mX11_waysOfExactly 0 0 0 [(0, .int x0), (1, .int x1), (2, .int x2)] [] (g, I, P) r h') : Cl mX11_waysOfExactly [.int x0, .int x1, .int x2] (g, I, P) r h' := Cl.of (by decide) (Nat.le_of_ble_eq_true rfl) H
set_option maxRecDepth 10000 in
theorem wX11_waysOfExactly_5 {g : zG} {I : Nat → Nat → Int32} {P : Nat → Nat → Option Nat} {r : Option Value} {h' : zH} {x0 : Int32} {x1 : Int32} {x2 : Int32} {l3 : Int64} {x5 : Int32} (H : ((x0 < x5) → Zt none mX11_waysOfExactly 0 0 34 [(0, .int x0), (1, .int x1), (2, .int x2), (3, .long l3), (5, .int 0)] [] (g, I, P) r h') ∧ ((¬ x0 < x5) → (¬ x5.toInt64 = 0) ∧ Zt none mX11_waysOfExactly 0 0 5 [(0, .int x0), (1, .int x1), (2, .int x2), (3, .long ((l3 * (((x1 - x0) + x5).toInt64)) / x5.toInt64)), (5, .int (x5 + 1))] [] (g, I, P) r h')) : Zt none mX11_waysOfExactly 0 0 5 [(0, .int x0), (1, .int x1), (2, .int x2), (3, .long l3), (5, .int x5)] [] (g, I, P) r h' := by
  refine z_iload 4 dX11_waysOfExactly_5 rfl (z_iload_n 0 dX11_waysOfExactly_7 rfl ?_)
  refine z_icmp_gt (t := 31) dX11_waysOfExactly_8 (by decide) (fun q => ?_) (fun q => ?_)
  · have H1 := H.1 q
    refine z_iconst (w := 0) dX11_waysOfExactly_31 (by decide) (z_istore (lv' := [(5, .int 0), (0, .int x0), (1, .int x1), (2, .int x2), (3, .long l3)]) dX11_waysOfExactly_32 (by decide) rfl ?_)
    exact z_less [1, 2, 3, 4, 0] rfl H1
  · have H2 := H.2 q
    refine z_lload_n 3 dX11_waysOfExactly_11 rfl (z_iload_n 1 dX11_waysOfExactly_12 rfl (z_iload_n 0 dX11_waysOfExactly_13 rfl (z_isub dX11_waysOfExactly_14 (z_iload 4 dX11_waysOfExactly_15 rfl (z_iadd dX11_waysOfExactly_17 (z_i2l dX11_waysOfExactly_18 (z_lmul dX11_waysOfExactly_19 (z_iload 4 dX11_waysOfExactly_20 rfl (z_i2l dX11_waysOfExactly_22 (z_ldiv dX11_waysOfExactly_23 H2.1 (z_lstore_n (lv' := [(3, .long ((l3 * (((x1 - x0) + x5).toInt64)) / x5.toInt64)), (0, .int x0), (1, .int x1), (2, .int x2), (5, .int x5)]) dX11_waysOfExactly_24 (by decide) rfl (z_iinc (y := x5 + 1) (lv' := [(5, .int (x5 + 1)), (3, .long ((l3 * (((x1 - x0) + x5).toInt64)) / x5.toInt64)), (0, .int x0), (1, .int x1), (2, .int x2)]) 4 dX11_waysOfExactly_25 rfl rfl (by decide) rfl (z_goto (t := 5) dX11_waysOfExactly_28 (by decide) ?_)))))))))))))
    exact z_less [2, 3, 4, 1, 0] rfl H2.2
set_option maxRecDepth 10000 in
theorem wX11_waysOfExactly_34 {g : zG} {I : Nat → Nat → Int32} {P : Nat → Nat → Option Nat} {r : Option Value} {h' : zH} {x0 : Int32} {x1 : Int32} {x2 : Int32} {l3 : Int64} {x5 : Int32} (H : ((x1 ≤ x5) → r = some (.long l3) ∧ h' = (g, I, P)) ∧ ((¬ x1 ≤ x5) → ((x0 ≤ x5) → Zt none mX11_waysOfExactly 0 0 34 [(0, .int x0), (1, .int x1), (2, .int x2), (3, .long (l3 * ((10 - x2).toInt64))), (5, .int (x5 + 1))] [] (g, I, P) r h') ∧ ((¬ x0 ≤ x5) → Zt none mX11_waysOfExactly 0 0 34 [(0, .int x0), (1, .int x1), (2, .int x2), (3, .long (l3 * x2.toInt64)), (5, .int (x5 + 1))] [] (g, I, P) r h'))) : Zt none mX11_waysOfExactly 0 0 34 [(0, .int x0), (1, .int x1), (2, .int x2), (3, .long l3), (5, .int x5)] [] (g, I, P) r h' := by
  refine z_iload 4 dX11_waysOfExactly_34 rfl (z_iload_n 1 dX11_waysOfExactly_36 rfl ?_)
  refine z_icmp_ge (t := 65) dX11_waysOfExactly_37 (by decide) (fun q => ?_) (fun q => ?_)
  · have H1 := H.1 q
    refine z_lload_n 3 dX11_waysOfExactly_65 rfl ?_
    obtain ⟨rfl, rfl⟩ := H1
    exact z_lret dX11_waysOfExactly_66 rfl (by decide) (by decide)
  · have H2 := H.2 q
    refine z_lload_n 3 dX11_waysOfExactly_40 rfl (z_iload 4 dX11_waysOfExactly_41 rfl (z_iload_n 0 dX11_waysOfExactly_43 rfl ?_))
    refine z_icmp_ge (t := 52) dX11_waysOfExactly_44 (by decide) (fun q => ?_) (fun q => ?_)
    · have H3 := H2.1 q
      refine z_bipush (w := 10) dX11_waysOfExactly_52 (by decide) (z_iload_n 2 dX11_waysOfExactly_54 rfl (z_isub dX11_waysOfExactly_55 (z_i2l dX11_waysOfExactly_56 (z_lmul dX11_waysOfExactly_57 (z_lstore_n (lv' := [(3, .long (l3 * ((10 - x2).toInt64))), (0, .int x0), (1, .int x1), (2, .int x2), (5, .int x5)]) dX11_waysOfExactly_58 (by decide) rfl (z_iinc (y := x5 + 1) (lv' := [(5, .int (x5 + 1)), (3, .long (l3 * ((10 - x2).toInt64))), (0, .int x0), (1, .int x1), (2, .int x2)]) 4 dX11_waysOfExactly_59 rfl rfl (by decide) rfl (z_goto (t := 34) dX11_waysOfExactly_62 (by decide) ?_)))))))
      exact z_less [2, 3, 4, 1, 0] rfl H3
    · have H4 := H2.2 q
      refine z_iload_n 2 dX11_waysOfExactly_47 rfl (z_i2l dX11_waysOfExactly_48 (z_goto (t := 57) dX11_waysOfExactly_49 (by decide) (z_lmul dX11_waysOfExactly_57 (z_lstore_n (lv' := [(3, .long (l3 * x2.toInt64)), (0, .int x0), (1, .int x1), (2, .int x2), (5, .int x5)]) dX11_waysOfExactly_58 (by decide) rfl (z_iinc (y := x5 + 1) (lv' := [(5, .int (x5 + 1)), (3, .long (l3 * x2.toInt64)), (0, .int x0), (1, .int x1), (2, .int x2)]) 4 dX11_waysOfExactly_59 rfl rfl (by decide) rfl (z_goto (t := 34) dX11_waysOfExactly_62 (by decide) ?_))))))
      exact z_less [2, 3, 4, 1, 0] rfl H4
theorem dX11_least_0 : decode cX11_least 0 = .ok (.lload_n 0, 1) := by decide +kernel
theorem dX11_least_1 : decode cX11_least 1 = .ok (.lconst 0, 1) := by decide +kernel
theorem dX11_least_2 : decode cX11_least 2 = .ok (.lcmp, 1) := by decide +kernel
theorem dX11_least_3 : decode cX11_least 3 = .ok (.ifCond .lt 9, 3) := by decide +kernel
theorem dX11_least_6 : decode cX11_least 6 = .ok (.lload_n 2, 1) := by decide +kernel
theorem dX11_least_7 : decode cX11_least 7 = .ok (.lconst 0, 1) := by decide +kernel
theorem dX11_least_8 : decode cX11_least 8 = .ok (.lcmp, 1) := by decide +kernel
theorem dX11_least_9 : decode cX11_least 9 = .ok (.ifCond .gt 7, 3) := by decide +kernel
theorem dX11_least_12 : decode cX11_least 12 = .ok (.ldc2_w 135, 3) := by decide +kernel
theorem dX11_least_15 : decode cX11_least 15 = .ok (.lreturn, 1) := by decide +kernel
theorem dX11_least_16 : decode cX11_least 16 = .ok (.lload_n 0, 1) := by decide +kernel
theorem dX11_least_17 : decode cX11_least 17 = .ok (.lload_n 2, 1) := by decide +kernel
theorem dX11_least_18 : decode cX11_least 18 = .ok (.invokestatic 284, 3) := by decide +kernel
theorem dX11_least_21 : decode cX11_least 21 = .ok (.lstore 5, 2) := by decide +kernel
theorem dX11_least_23 : decode cX11_least 23 = .ok (.lload 5, 2) := by decide +kernel
theorem dX11_least_25 : decode cX11_least 25 = .ok (.lconst 0, 1) := by decide +kernel
theorem dX11_least_26 : decode cX11_least 26 = .ok (.lcmp, 1) := by decide +kernel
theorem dX11_least_27 : decode cX11_least 27 = .ok (.ifCond .ne 9, 3) := by decide +kernel
theorem dX11_least_30 : decode cX11_least 30 = .ok (.ldc2_w 135, 3) := by decide +kernel
theorem dX11_least_33 : decode cX11_least 33 = .ok (.goto 16, 3) := by decide +kernel
theorem dX11_least_36 : decode cX11_least 36 = .ok (.iload 4, 2) := by decide +kernel
theorem dX11_least_38 : decode cX11_least 38 = .ok (.ifCond .eq 7, 3) := by decide +kernel
theorem dX11_least_41 : decode cX11_least 41 = .ok (.lload_n 2, 1) := by decide +kernel
theorem dX11_least_42 : decode cX11_least 42 = .ok (.goto 4, 3) := by decide +kernel
theorem dX11_least_45 : decode cX11_least 45 = .ok (.lload_n 0, 1) := by decide +kernel
theorem dX11_least_46 : decode cX11_least 46 = .ok (.lload 5, 2) := by decide +kernel
theorem dX11_least_48 : decode cX11_least 48 = .ok (.ldiv, 1) := by decide +kernel
theorem dX11_least_49 : decode cX11_least 49 = .ok (.lreturn, 1) := by decide +kernel
set_option maxRecDepth 10000 in
theorem wX11_least_0 {g : zG} {I : Nat → Nat → Int32} {P : Nat → Nat → Option Nat} {r : Option Value} {h' : zH} {l0 : Int64} {l2 : Int64} {x4 : Int32} (H : ((lg_cmp l0 0 < 0) → r = some (.long (-1)) ∧ h' = (g, I, P)) ∧ ((¬ lg_cmp l0 0 < 0) → ((0 < lg_cmp l2 0) → ∃ (w4 : Int64), Cl mX11_commonDivisor [.long l0, .long l2] (g, I, P) (some (.long w4)) (g, I, P) ∧ ((¬ lg_cmp w4 0 = 0) → ((x4 = 0) → (¬ w4 = 0) ∧ r = some (.long (l0 / w4)) ∧ h' = (g, I, P)) ∧ ((¬ x4 = 0) → (¬ w4 = 0) ∧ r = some (.long (l2 / w4)) ∧ h' = (g, I, P))) ∧ ((lg_cmp w4 0 = 0) → r = some (.long (-1)) ∧ h' = (g, I, P))) ∧ ((¬ 0 < lg_cmp l2 0) → r = some (.long (-1)) ∧ h' = (g, I, P)))) : Zt none mX11_least 0 0 0 [(0, .long l0), (2, .long l2), (4, .int x4)] [] (g, I, P) r h' := by
  refine z_lload_n 0 dX11_least_0 rfl (z_lconst (w := 0) dX11_least_1 (by decide) (z_lcmp dX11_least_2 ?_))
  refine z_if_lt (t := 12) dX11_least_3 (by decide) (fun q => ?_) (fun q => ?_)
  · have H1 := H.1 q
    refine z_ldc2 dX11_least_12 wk_X11_135 ?_
    obtain ⟨rfl, rfl⟩ := H1
    exact z_lret dX11_least_15 rfl (by decide) (by decide)
  · have H2 := H.2 q
    refine z_lload_n 1 dX11_least_6 rfl (z_lconst (w := 0) dX11_least_7 (by decide) (z_lcmp dX11_least_8 ?_))
    refine z_if_gt (t := 16) dX11_least_9 (by decide) (fun q => ?_) (fun q => ?_)
    · have H3 := H2.1 q
      refine z_lload_n 0 dX11_least_16 rfl (z_lload_n 1 dX11_least_17 rfl ?_)
      obtain ⟨w4, c5, H6⟩ := H3
      refine z_stat (As := [.long l0, .long l2]) (st := []) (r1 := (some (.long w4))) (h1 := (g, I, P)) dX11_least_18 kX11_commonDivisor wm_X11_284 ⟨by decide, by decide⟩ rfl rfl (Nat.le_of_ble_eq_true rfl) (by decide) (by decide) c5 ?_
      refine z_lstore (lv' := [(5, .long w4), (0, .long l0), (2, .long l2), (4, .int x4)]) dX11_least_21 (by decide) rfl (z_lload 0 dX11_least_23 rfl (z_lconst (w := 0) dX11_least_25 (by decide) (z_lcmp dX11_least_26 ?_)))
      refine z_if_ne (t := 36) dX11_least_27 (by decide) (fun q => ?_) (fun q => ?_)
      · have H7 := H6.1 q
        refine z_iload 3 dX11_least_36 rfl ?_
        refine z_if_eq (t := 45) dX11_least_38 (by decide) (fun q => ?_) (fun q => ?_)
        · have H8 := H7.1 q
          refine z_lload_n 1 dX11_least_45 rfl (z_lload 0 dX11_least_46 rfl (z_ldiv dX11_least_48 H8.1 ?_))
          obtain ⟨rfl, rfl⟩ := H8.2
          exact z_lret dX11_least_49 rfl (by decide) (by decide)
        · have H9 := H7.2 q
          refine z_lload_n 2 dX11_least_41 rfl (z_goto (t := 46) dX11_least_42 (by decide) (z_lload 0 dX11_least_46 rfl (z_ldiv dX11_least_48 H9.1 ?_)))
          obtain ⟨rfl, rfl⟩ := H9.2
          exact z_lret dX11_least_49 rfl (by decide) (by decide)
      · have H10 := H6.2 q
        refine z_ldc2 dX11_least_30 wk_X11_135 (z_goto (t := 49) dX11_least_33 (by decide) ?_)
        obtain ⟨rfl, rfl⟩ := H10
        exact z_lret dX11_least_49 rfl (by decide) (by decide)
    · have H11 := H2.2 q
      refine z_ldc2 dX11_least_12 wk_X11_135 ?_
      obtain ⟨rfl, rfl⟩ := H11
      exact z_lret dX11_least_15 rfl (by decide) (by decide)
theorem eX11_least {g : zG} {I : Nat → Nat → Int32} {P : Nat → Nat → Option Nat} {r : Option Value} {h' : zH} {l0 : Int64} {l2 : Int64} {x4 : Int32} (H : Zt none mX11_least 0 0 0 [(0, .long l0), (2, .long l2), (4, .int x4)] [] (g, I, P) r h') : Cl mX11_least [.long l0, .long l2, .int x4] (g, I, P) r h' := Cl.of (by decide) (Nat.le_of_ble_eq_true rfl) H
theorem dX11_commonDivisor_0 : decode cX11_commonDivisor 0 = .ok (.lload_n 2, 1) := by decide +kernel
theorem dX11_commonDivisor_1 : decode cX11_commonDivisor 1 = .ok (.lstore 4, 2) := by decide +kernel
theorem dX11_commonDivisor_3 : decode cX11_commonDivisor 3 = .ok (.lload_n 0, 1) := by decide +kernel
theorem dX11_commonDivisor_4 : decode cX11_commonDivisor 4 = .ok (.lstore 6, 2) := by decide +kernel
theorem dX11_commonDivisor_6 : decode cX11_commonDivisor 6 = .ok (.iconst 0, 1) := by decide +kernel
theorem dX11_commonDivisor_7 : decode cX11_commonDivisor 7 = .ok (.istore 8, 2) := by decide +kernel
theorem dX11_commonDivisor_9 : decode cX11_commonDivisor 9 = .ok (.iload 8, 2) := by decide +kernel
theorem dX11_commonDivisor_11 : decode cX11_commonDivisor 11 = .ok (.sipush 200, 3) := by decide +kernel
theorem dX11_commonDivisor_14 : decode cX11_commonDivisor 14 = .ok (.if_icmp .ge 31, 3) := by decide +kernel
theorem dX11_commonDivisor_17 : decode cX11_commonDivisor 17 = .ok (.lload 6, 2) := by decide +kernel
theorem dX11_commonDivisor_19 : decode cX11_commonDivisor 19 = .ok (.lconst 0, 1) := by decide +kernel
theorem dX11_commonDivisor_20 : decode cX11_commonDivisor 20 = .ok (.lcmp, 1) := by decide +kernel
theorem dX11_commonDivisor_21 : decode cX11_commonDivisor 21 = .ok (.ifCond .eq 24, 3) := by decide +kernel
theorem dX11_commonDivisor_24 : decode cX11_commonDivisor 24 = .ok (.lload 4, 2) := by decide +kernel
theorem dX11_commonDivisor_26 : decode cX11_commonDivisor 26 = .ok (.lload 6, 2) := by decide +kernel
theorem dX11_commonDivisor_28 : decode cX11_commonDivisor 28 = .ok (.lrem, 1) := by decide +kernel
theorem dX11_commonDivisor_29 : decode cX11_commonDivisor 29 = .ok (.lstore 9, 2) := by decide +kernel
theorem dX11_commonDivisor_31 : decode cX11_commonDivisor 31 = .ok (.lload 6, 2) := by decide +kernel
theorem dX11_commonDivisor_33 : decode cX11_commonDivisor 33 = .ok (.lstore 4, 2) := by decide +kernel
theorem dX11_commonDivisor_35 : decode cX11_commonDivisor 35 = .ok (.lload 9, 2) := by decide +kernel
theorem dX11_commonDivisor_37 : decode cX11_commonDivisor 37 = .ok (.lstore 6, 2) := by decide +kernel
theorem dX11_commonDivisor_39 : decode cX11_commonDivisor 39 = .ok (.iinc 8 1, 3) := by decide +kernel
theorem dX11_commonDivisor_42 : decode cX11_commonDivisor 42 = .ok (.goto (-33), 3) := by decide +kernel
theorem dX11_commonDivisor_45 : decode cX11_commonDivisor 45 = .ok (.lload 4, 2) := by decide +kernel
theorem dX11_commonDivisor_47 : decode cX11_commonDivisor 47 = .ok (.lreturn, 1) := by decide +kernel
set_option maxRecDepth 10000 in
theorem wX11_commonDivisor_0 {g : zG} {I : Nat → Nat → Int32} {P : Nat → Nat → Option Nat} {r : Option Value} {h' : zH} {l0 : Int64} {l2 : Int64} (H : Zt none mX11_commonDivisor 0 0 9 [(4, .long l2), (6, .long l0), (8, .int 0)] [] (g, I, P) r h') : Zt none mX11_commonDivisor 0 0 0 [(0, .long l0), (2, .long l2)] [] (g, I, P) r h' := by
  refine z_lload_n 1 dX11_commonDivisor_0 rfl (z_lstore (lv' := [(4, .long l2), (0, .long l0), (2, .long l2)]) dX11_commonDivisor_1 (by decide) rfl (z_lload_n 1 dX11_commonDivisor_3 rfl (z_lstore (lv' := [(6, .long l0), (4, .long l2), (0, .long l0), (2, .long l2)]) dX11_commonDivisor_4 (by decide) rfl (z_iconst (w := 0) dX11_commonDivisor_6 (by decide) (z_istore (lv' := [(8, .int 0), (6, .long l0), (4, .long l2), (0, .long l0), (2, .long l2)]) dX11_commonDivisor_7 (by decide) rfl ?_)))))
  exact z_less [2, 1, 0] rfl H
theorem eX11_commonDivisor {g : zG} {I : Nat → Nat → Int32} {P : Nat → Nat → Option Nat} {r : Option Value} {h' : zH} {l0 : Int64} {l2 : Int64} (H : Zt none mX11_commonDivisor 0 0 0 [(0, .long l0), (2, .long l2)] [] (g, I, P) r h') : Cl mX11_commonDivisor [.long l0, .long l2] (g, I, P) r h' := Cl.of (by decide) (Nat.le_of_ble_eq_true rfl) H
set_option maxRecDepth 10000 in
theorem wX11_commonDivisor_9 {g : zG} {I : Nat → Nat → Int32} {P : Nat → Nat → Option Nat} {r : Option Value} {h' : zH} {l4 : Int64} {l6 : Int64} {x8 : Int32} (H : ((200 ≤ x8) → r = some (.long l4) ∧ h' = (g, I, P)) ∧ ((¬ 200 ≤ x8) → ((lg_cmp l6 0 = 0) → r = some (.long l4) ∧ h' = (g, I, P)) ∧ ((¬ lg_cmp l6 0 = 0) → (¬ l6 = 0) ∧ Zt none mX11_commonDivisor 0 0 9 [(4, .long l6), (6, .long (l4 - l4 / l6 * l6)), (8, .int (x8 + 1))] [] (g, I, P) r h'))) : Zt none mX11_commonDivisor 0 0 9 [(4, .long l4), (6, .long l6), (8, .int x8)] [] (g, I, P) r h' := by
  refine z_iload 2 dX11_commonDivisor_9 rfl (z_sipush (w := 200) dX11_commonDivisor_11 (by decide) ?_)
  refine z_icmp_ge (t := 45) dX11_commonDivisor_14 (by decide) (fun q => ?_) (fun q => ?_)
  · have H1 := H.1 q
    refine z_lload 0 dX11_commonDivisor_45 rfl ?_
    obtain ⟨rfl, rfl⟩ := H1
    exact z_lret dX11_commonDivisor_47 rfl (by decide) (by decide)
  · have H2 := H.2 q
    refine z_lload 1 dX11_commonDivisor_17 rfl (z_lconst (w := 0) dX11_commonDivisor_19 (by decide) (z_lcmp dX11_commonDivisor_20 ?_))
    refine z_if_eq (t := 45) dX11_commonDivisor_21 (by decide) (fun q => ?_) (fun q => ?_)
    · have H3 := H2.1 q
      refine z_lload 0 dX11_commonDivisor_45 rfl ?_
      obtain ⟨rfl, rfl⟩ := H3
      exact z_lret dX11_commonDivisor_47 rfl (by decide) (by decide)
    · have H4 := H2.2 q
      refine z_lload 0 dX11_commonDivisor_24 rfl (z_lload 1 dX11_commonDivisor_26 rfl (z_lrem dX11_commonDivisor_28 H4.1 (z_lstore (lv' := [(9, .long (l4 - l4 / l6 * l6)), (4, .long l4), (6, .long l6), (8, .int x8)]) dX11_commonDivisor_29 (by decide) rfl (z_lload 2 dX11_commonDivisor_31 rfl (z_lstore (lv' := [(4, .long l6), (9, .long (l4 - l4 / l6 * l6)), (6, .long l6), (8, .int x8)]) dX11_commonDivisor_33 (by decide) rfl (z_lload 1 dX11_commonDivisor_35 rfl (z_lstore (lv' := [(6, .long (l4 - l4 / l6 * l6)), (4, .long l6), (9, .long (l4 - l4 / l6 * l6)), (8, .int x8)]) dX11_commonDivisor_37 (by decide) rfl (z_iinc (y := x8 + 1) (lv' := [(8, .int (x8 + 1)), (6, .long (l4 - l4 / l6 * l6)), (4, .long l6), (9, .long (l4 - l4 / l6 * l6))]) 3 dX11_commonDivisor_39 rfl rfl (by decide) rfl (z_goto (t := 9) dX11_commonDivisor_42 (by decide) ?_)))))))))
      exact z_less [2, 1, 0] rfl H4.2
