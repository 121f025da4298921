theorem dX8_is_0 : decode cX8_is 0 = .ok (.aload_n 0, 1) := by decide +kernel
theorem dX8_is_1 : decode cX8_is 1 = .ok (.getfield 33, 3) := by decide +kernel
theorem dX8_is_4 : decode cX8_is 4 = .ok (.iconst 1, 1) := by decide +kernel
theorem dX8_is_5 : decode cX8_is 5 = .ok (.if_icmp .ne 14, 3) := by decide +kernel
theorem dX8_is_8 : decode cX8_is 8 = .ok (.aload_n 0, 1) := by decide +kernel
theorem dX8_is_9 : decode cX8_is 9 = .ok (.getfield 48, 3) := by decide +kernel
theorem dX8_is_12 : decode cX8_is 12 = .ok (.aload_n 1, 1) := by decide +kernel
theorem dX8_is_13 : decode cX8_is 13 = .ok (.invokevirtual 54, 3) := by decide +kernel
theorem dX8_is_16 : decode cX8_is 16 = .ok (.if_icmp .eq 5, 3) := by decide +kernel
theorem dX8_is_19 : decode cX8_is 19 = .ok (.iconst 0, 1) := by decide +kernel
theorem dX8_is_20 : decode cX8_is 20 = .ok (.ireturn, 1) := by decide +kernel
theorem dX8_is_21 : decode cX8_is 21 = .ok (.iconst 0, 1) := by decide +kernel
theorem dX8_is_22 : decode cX8_is 22 = .ok (.istore_n 2, 1) := by decide +kernel
theorem dX8_is_23 : decode cX8_is 23 = .ok (.iload_n 2, 1) := by decide +kernel
theorem dX8_is_24 : decode cX8_is 24 = .ok (.aload_n 0, 1) := by decide +kernel
theorem dX8_is_25 : decode cX8_is 25 = .ok (.getfield 48, 3) := by decide +kernel
theorem dX8_is_28 : decode cX8_is 28 = .ok (.if_icmp .ge 32, 3) := by decide +kernel
theorem dX8_is_31 : decode cX8_is 31 = .ok (.aload_n 0, 1) := by decide +kernel
theorem dX8_is_32 : decode cX8_is 32 = .ok (.getfield 7, 3) := by decide +kernel
theorem dX8_is_35 : decode cX8_is 35 = .ok (.aload_n 0, 1) := by decide +kernel
theorem dX8_is_36 : decode cX8_is 36 = .ok (.getfield 30, 3) := by decide +kernel
theorem dX8_is_39 : decode cX8_is 39 = .ok (.iload_n 2, 1) := by decide +kernel
theorem dX8_is_40 : decode cX8_is 40 = .ok (.iadd, 1) := by decide +kernel
theorem dX8_is_41 : decode cX8_is 41 = .ok (.invokestatic 20, 3) := by decide +kernel
theorem dX8_is_44 : decode cX8_is 44 = .ok (.aload_n 1, 1) := by decide +kernel
theorem dX8_is_45 : decode cX8_is 45 = .ok (.iload_n 2, 1) := by decide +kernel
theorem dX8_is_46 : decode cX8_is 46 = .ok (.invokevirtual 59, 3) := by decide +kernel
theorem dX8_is_49 : decode cX8_is 49 = .ok (.if_icmp .eq 5, 3) := by decide +kernel
theorem dX8_is_52 : decode cX8_is 52 = .ok (.iconst 0, 1) := by decide +kernel
theorem dX8_is_53 : decode cX8_is 53 = .ok (.ireturn, 1) := by decide +kernel
theorem dX8_is_54 : decode cX8_is 54 = .ok (.iinc 2 1, 3) := by decide +kernel
theorem dX8_is_57 : decode cX8_is 57 = .ok (.goto (-34), 3) := by decide +kernel
theorem dX8_is_60 : decode cX8_is 60 = .ok (.iconst 1, 1) := by decide +kernel
theorem dX8_is_61 : decode cX8_is 61 = .ok (.ireturn, 1) := by decide +kernel
set_option maxRecDepth 10000 in
theorem wX8_is_0 {g : zG} {I : Nat → Nat → Int32} {P : Nat → Nat → Option Nat} {r : Option Value} {h' : zH} {a0 : Nat} {s1 : Nat} (H : zk g a0 8 ∧ ((¬ (I a0 3) = 1) → r = some (.int 0) ∧ h' = (g, I, P)) ∧ ((I a0 3 = 1) → zk g a0 8 ∧ s1 < 11 ∧ ∃ (w3 : Int32), Cl mJ0_length_8abf5 [.retAddr s1] (g, I, P) (some (.int w3)) (g, I, P) ∧ ((I a0 5 = w3) → Zt none mX8_is 0 0 23 [(0, .ref a0), (1, .retAddr s1), (2, .int 0)] [] (g, I, P) r h') ∧ ((¬ I a0 5 = w3) → r = some (.int 0) ∧ h' = (g, I, P)))) : Zt none mX8_is 0 0 0 [(0, .ref a0), (1, .retAddr s1)] [] (g, I, P) r h' := by
  refine z_aload_n 0 dX8_is_0 rfl rfl (z_getI dX8_is_1 wf_X8_33 (by decide) (by decide) rfl H.1 (z_iconst (w := 1) dX8_is_4 (by decide) ?_))
  refine z_icmp_ne (t := 19) dX8_is_5 (by decide) (fun q => ?_) (fun q => ?_)
  · have H1 := H.2.1 q
    refine z_iconst (w := 0) dX8_is_19 (by decide) ?_
    obtain ⟨rfl, rfl⟩ := H1
    exact z_zret dX8_is_20 rfl (Or.inl rfl) (by decide) (by decide)
  · have H2 := H.2.2 q
    refine z_aload_n 0 dX8_is_8 rfl rfl (z_getI dX8_is_9 wf_X8_48 (by decide) (by decide) rfl H2.1 (z_aload_n 1 dX8_is_12 rfl rfl ?_))
    obtain ⟨oc4, w3, c4, H5⟩ := H2.2
    refine z_virtT (As := []) (st := [.int (I a0 5)]) (r1 := (some (.int w3))) (h1 := (g, I, P)) dX8_is_13 oc4 kJ0_length_8abf5 wm_X8_54 ⟨by decide, by decide⟩ rfl rfl (Nat.le_of_ble_eq_true rfl) (by decide) (by decide) c4 ?_
    refine z_icmp_eq (t := 21) dX8_is_16 (by decide) (fun q => ?_) (fun q => ?_)
    · have H6 := H5.1 q
      refine z_iconst (w := 0) dX8_is_21 (by decide) (z_istore_n (lv' := [(2, .int 0), (0, .ref a0), (1, .retAddr s1)]) dX8_is_22 (by decide) rfl ?_)
      exact z_less [1, 2, 0] rfl H6
    · have H7 := H5.2 q
      refine z_iconst (w := 0) dX8_is_19 (by decide) ?_
      obtain ⟨rfl, rfl⟩ := H7
      exact z_zret dX8_is_20 rfl (Or.inl rfl) (by decide) (by decide)
theorem eX8_is {g : zG} {I : Nat → Nat → Int32} {P : Nat → Nat → Option Nat} {r : Option Value} {h' : zH} {a0 : Nat} {s1 : Nat} (H : Zt none mX8_is 0 0 0 [(0, .ref a0), (1, .retAddr s1)] [] (g, I, P) r h') : Cl mX8_is [.ref a0, .retAddr s1] (g, I, P) r h' := Cl.of (by decide) (Nat.le_of_ble_eq_true rfl) H
set_option maxRecDepth 10000 in
theorem wX8_is_23 {g : zG} {I : Nat → Nat → Int32} {P : Nat → Nat → Option Nat} {r : Option Value} {h' : zH} {a0 : Nat} {s1 : Nat} {x2 : Int32} (H : zk g a0 8 ∧ ((I a0 5 ≤ x2) → r = some (.int 1) ∧ h' = (g, I, P)) ∧ ((¬ I a0 5 ≤ x2) → zk g a0 8 ∧ ∃ b3, P a0 0 = some b3 ∧ zk g a0 8 ∧ ∃ (w6 : Int32), Cl mX11_got [.ref b3, .int ((I a0 4) + x2)] (g, I, P) (some (.int w6)) (g, I, P) ∧ s1 < 11 ∧ ∃ (w9 : Int32), Cl mJ0_charAt_5068e [.retAddr s1, .int x2] (g, I, P) (some (.int w9)) (g, I, P) ∧ ((w6 = w9) → Zt none mX8_is 0 0 23 [(0, .ref a0), (1, .retAddr s1), (2, .int (x2 + 1))] [] (g, I, P) r h') ∧ ((¬ w6 = w9) → r = some (.int 0) ∧ h' = (g, I, P)))) : Zt none mX8_is 0 0 23 [(0, .ref a0), (1, .retAddr s1), (2, .int x2)] [] (g, I, P) r h' := by
  refine z_iload_n 2 dX8_is_23 rfl (z_aload_n 0 dX8_is_24 rfl rfl (z_getI dX8_is_25 wf_X8_48 (by decide) (by decide) rfl H.1 ?_))
  refine z_icmp_ge (t := 60) dX8_is_28 (by decide) (fun q => ?_) (fun q => ?_)
  · have H1 := H.2.1 q
    refine z_iconst (w := 1) dX8_is_60 (by decide) ?_
    obtain ⟨rfl, rfl⟩ := H1
    exact z_zret dX8_is_61 rfl (Or.inr rfl) (by decide) (by decide)
  · have H2 := H.2.2 q
    refine z_aload_n 0 dX8_is_31 rfl rfl ?_
    obtain ⟨oe5, b3, e5, H4⟩ := H2
    refine z_getP dX8_is_32 wf_X8_7 (by decide) (by decide) rfl oe5 (fun q => (by cases q.symm.trans e5)) (fun j q => ?_)
    cases q.symm.trans e5
    refine z_aload_n 0 dX8_is_35 rfl rfl (z_getI dX8_is_36 wf_X8_30 (by decide) (by decide) rfl H4.1 (z_iload_n 2 dX8_is_39 rfl (z_iadd dX8_is_40 ?_)))
    obtain ⟨w6, c7, H8⟩ := H4.2
    refine z_stat (As := [.ref b3, .int ((I a0 4) + x2)]) (st := []) (r1 := (some (.int w6))) (h1 := (g, I, P)) dX8_is_41 kX11_got wm_X8_20 ⟨by decide, by decide⟩ rfl rfl (Nat.le_of_ble_eq_true rfl) (by decide) (by decide) c7 ?_
    refine z_aload_n 1 dX8_is_44 rfl rfl (z_iload_n 2 dX8_is_45 rfl ?_)
    obtain ⟨oc10, w9, c10, H11⟩ := H8
    refine z_virtT (As := [.int x2]) (st := [.int w6]) (r1 := (some (.int w9))) (h1 := (g, I, P)) dX8_is_46 oc10 kJ0_charAt_5068e wm_X8_59 ⟨by decide, by decide⟩ rfl rfl (Nat.le_of_ble_eq_true rfl) (by decide) (by decide) c10 ?_
    refine z_icmp_eq (t := 54) dX8_is_49 (by decide) (fun q => ?_) (fun q => ?_)
    · have H12 := H11.1 q
      refine z_iinc (y := x2 + 1) (lv' := [(2, .int (x2 + 1)), (0, .ref a0), (1, .retAddr s1)]) 2 dX8_is_54 rfl rfl (by decide) rfl (z_goto (t := 23) dX8_is_57 (by decide) ?_)
      exact z_less [1, 2, 0] rfl H12
    · have H13 := H11.2 q
      refine z_iconst (w := 0) dX8_is_52 (by decide) ?_
      obtain ⟨rfl, rfl⟩ := H13
      exact z_zret dX8_is_53 rfl (Or.inl rfl) (by decide) (by decide)
theorem dX0_init_0 : decode cX0_init 0 = .ok (.aload_n 0, 1) := by decide +kernel
theorem dX0_init_1 : decode cX0_init 1 = .ok (.invokespecial 3, 3) := by decide +kernel
theorem dX0_init_4 : decode cX0_init 4 = .ok (.aload_n 0, 1) := by decide +kernel
theorem dX0_init_5 : decode cX0_init 5 = .ok (.bipush 40, 2) := by decide +kernel
theorem dX0_init_7 : decode cX0_init 7 = .ok (.newarray .int, 2) := by decide +kernel
theorem dX0_init_9 : decode cX0_init 9 = .ok (.putfield 9, 3) := by decide +kernel
theorem dX0_init_12 : decode cX0_init 12 = .ok (.aload_n 0, 1) := by decide +kernel
theorem dX0_init_13 : decode cX0_init 13 = .ok (.bipush 40, 2) := by decide +kernel
theorem dX0_init_15 : decode cX0_init 15 = .ok (.newarray .int, 2) := by decide +kernel
theorem dX0_init_17 : decode cX0_init 17 = .ok (.putfield 15, 3) := by decide +kernel
theorem dX0_init_20 : decode cX0_init 20 = .ok (.aload_n 0, 1) := by decide +kernel
theorem dX0_init_21 : decode cX0_init 21 = .ok (.bipush 40, 2) := by decide +kernel
theorem dX0_init_23 : decode cX0_init 23 = .ok (.newarray .int, 2) := by decide +kernel
theorem dX0_init_25 : decode cX0_init 25 = .ok (.putfield 18, 3) := by decide +kernel
theorem dX0_init_28 : decode cX0_init 28 = .ok (.return_, 1) := by decide +kernel
set_option maxRecDepth 10000 in
theorem wX0_init_0 {g : zG} {I : Nat → Nat → Int32} {P : Nat → Nat → Option Nat} {r : Option Value} {h' : zH} {a0 : Nat} (H : ∀ h1 : zH, h1 = (zNew (g, I, P) 13 40) → zk h1.1 a0 0 ∧ ∀ h3 : zH, h3 = (h1.1, h1.2.1, zU h1.2.2 a0 1 (some ((g, I, P).1.1))) → ∀ h5 : zH, h5 = (zNew h3 13 40) → zk h5.1 a0 0 ∧ ∀ h7 : zH, h7 = (h5.1, h5.2.1, zU h5.2.2 a0 2 (some h3.1.1)) → ∀ h9 : zH, h9 = (zNew h7 13 40) → zk h9.1 a0 0 ∧ ∀ h11 : zH, h11 = (h9.1, h9.2.1, zU h9.2.2 a0 3 (some h7.1.1)) → r = none ∧ h' = h11) : Zt none mX0_init 0 0 0 [(0, .ref a0)] [] (g, I, P) r h' := by
  refine z_aload_n 0 dX0_init_0 rfl rfl (z_objInit dX0_init_1 wm_X0_3 w_objI w_objC (by decide) (Nat.le_of_ble_eq_true rfl) (z_aload_n 0 dX0_init_4 rfl rfl (z_bipush (w := 40) dX0_init_5 (by decide) (z_newI (N := 40) dX0_init_7 w_arrI (by decide) (by decide) (by decide) (by decide) (by decide) ?_))))
  refine z_nh (fun h1 e_h1 => ?_)
  have H2 := H h1 e_h1
  refine z_putP (g := h1.1) (I := h1.2.1) (Q := h1.2.2) dX0_init_9 wf_X0_9 (by decide) (by decide) rfl (Or.inr ⟨rfl, rfl⟩) H2.1 ?_
  refine z_nh (fun h3 e_h3 => ?_)
  have H4 := H2.2 h3 e_h3
  refine z_aload_n 0 dX0_init_12 rfl rfl (z_bipush (w := 40) dX0_init_13 (by decide) (z_newI (N := 40) dX0_init_15 w_arrI (by decide) (by decide) (by decide) (by decide) (by decide) ?_))
  refine z_nh (fun h5 e_h5 => ?_)
  have H6 := H4 h5 e_h5
  refine z_putP (g := h5.1) (I := h5.2.1) (Q := h5.2.2) dX0_init_17 wf_X0_15 (by decide) (by decide) rfl (Or.inr ⟨rfl, rfl⟩) H6.1 ?_
  refine z_nh (fun h7 e_h7 => ?_)
  have H8 := H6.2 h7 e_h7
  refine z_aload_n 0 dX0_init_20 rfl rfl (z_bipush (w := 40) dX0_init_21 (by decide) (z_newI (N := 40) dX0_init_23 w_arrI (by decide) (by decide) (by decide) (by decide) (by decide) ?_))
  refine z_nh (fun h9 e_h9 => ?_)
  have H10 := H8 h9 e_h9
  refine z_putP (g := h9.1) (I := h9.2.1) (Q := h9.2.2) dX0_init_25 wf_X0_18 (by decide) (by decide) rfl (Or.inr ⟨rfl, rfl⟩) H10.1 ?_
  refine z_nh (fun h11 e_h11 => ?_)
  have H12 := H10.2 h11 e_h11
  obtain ⟨rfl, rfl⟩ := H12
  exact z_vret dX0_init_28 rfl (by decide) (by decide)
theorem eX0_init {g : zG} {I : Nat → Nat → Int32} {P : Nat → Nat → Option Nat} {r : Option Value} {h' : zH} {a0 : Nat} (H : Zt none mX0_init 0 0 0 [(0, .ref a0)] [] (g, I, P) r h') : Cl mX0_init [.ref a0] (g, I, P) r h' := Cl.of (by decide) (Nat.le_of_ble_eq_true rfl) H
theorem dX1_init_0 : decode cX1_init 0 = .ok (.aload_n 0, 1) := by decide +kernel
theorem dX1_init_1 : decode cX1_init 1 = .ok (.invokespecial 3, 3) := by decide +kernel
theorem dX1_init_4 : decode cX1_init 4 = .ok (.aload_n 0, 1) := by decide +kernel
theorem dX1_init_5 : decode cX1_init 5 = .ok (.new 9, 3) := by decide +kernel
theorem dX1_init_8 : decode cX1_init 8 = .ok (.dup, 1) := by decide +kernel
theorem dX1_init_9 : decode cX1_init 9 = .ok (.invokespecial 11, 3) := by decide +kernel
theorem dX1_init_12 : decode cX1_init 12 = .ok (.putfield 12, 3) := by decide +kernel
theorem dX1_init_15 : decode cX1_init 15 = .ok (.aload_n 0, 1) := by decide +kernel
theorem dX1_init_16 : decode cX1_init 16 = .ok (.bipush 12, 2) := by decide +kernel
theorem dX1_init_18 : decode cX1_init 18 = .ok (.newarray .int, 2) := by decide +kernel
theorem dX1_init_20 : decode cX1_init 20 = .ok (.putfield 18, 3) := by decide +kernel
theorem dX1_init_23 : decode cX1_init 23 = .ok (.aload_n 0, 1) := by decide +kernel
theorem dX1_init_24 : decode cX1_init 24 = .ok (.sipush 130, 3) := by decide +kernel
theorem dX1_init_27 : decode cX1_init 27 = .ok (.newarray .int, 2) := by decide +kernel
theorem dX1_init_29 : decode cX1_init 29 = .ok (.putfield 22, 3) := by decide +kernel
theorem dX1_init_32 : decode cX1_init 32 = .ok (.aload_n 0, 1) := by decide +kernel
theorem dX1_init_33 : decode cX1_init 33 = .ok (.bipush 13, 2) := by decide +kernel
theorem dX1_init_35 : decode cX1_init 35 = .ok (.newarray .int, 2) := by decide +kernel
theorem dX1_init_37 : decode cX1_init 37 = .ok (.putfield 25, 3) := by decide +kernel
theorem dX1_init_40 : decode cX1_init 40 = .ok (.return_, 1) := by decide +kernel
set_option maxRecDepth 10000 in
theorem wX1_init_0 {g : zG} {I : Nat → Nat → Int32} {P : Nat → Nat → Option Nat} {r : Option Value} {h' : zH} {a0 : Nat} (H : ∀ h1 : zH, h1 = (zNew (g, I, P) 3 0) → ∃ (h3 : zH), Cl mX3_init [.ref ((g, I, P).1.1)] h1 none h3 ∧ zk h3.1 a0 1 ∧ ∀ h6 : zH, h6 = (h3.1, h3.2.1, zU h3.2.2 a0 0 (some ((g, I, P).1.1))) → ∀ h8 : zH, h8 = (zNew h6 13 12) → zk h8.1 a0 1 ∧ ∀ h10 : zH, h10 = (h8.1, h8.2.1, zU h8.2.2 a0 2 (some h6.1.1)) → ∀ h12 : zH, h12 = (zNew h10 13 130) → zk h12.1 a0 1 ∧ ∀ h14 : zH, h14 = (h12.1, h12.2.1, zU h12.2.2 a0 3 (some h10.1.1)) → ∀ h16 : zH, h16 = (zNew h14 13 13) → zk h16.1 a0 1 ∧ ∀ h18 : zH, h18 = (h16.1, h16.2.1, zU h16.2.2 a0 4 (some h14.1.1)) → r = none ∧ h' = h18) : Zt none mX1_init 0 0 0 [(0, .ref a0)] [] (g, I, P) r h' := by
  refine z_aload_n 0 dX1_init_0 rfl rfl (z_objInit dX1_init_1 wm_X1_3 w_objI w_objC (by decide) (Nat.le_of_ble_eq_true rfl) (z_aload_n 0 dX1_init_4 rfl rfl (z_new (c := 3) dX1_init_5 wc_X1_9 wn_3 wi_X3 (by decide) (by decide) (by decide) ?_)))
  refine z_nh (fun h1 e_h1 => ?_)
  have H2 := H h1 e_h1
  refine z_dup dX1_init_8 rfl ?_
  obtain ⟨h3, c4, H5⟩ := H2
  refine z_init (As := []) (st := [.ref ((g, I, P).1.1), .ref a0]) (h1 := h3) dX1_init_9 kX3_init wm_X1_11 ⟨by decide, by decide⟩ rfl rfl (Nat.le_of_ble_eq_true rfl) (by decide) (by decide) c4 ?_
  refine z_putP (g := h3.1) (I := h3.2.1) (Q := h3.2.2) dX1_init_12 wf_X1_12 (by decide) (by decide) rfl (Or.inl rfl) H5.1 ?_
  refine z_nh (fun h6 e_h6 => ?_)
  have H7 := H5.2 h6 e_h6
  refine z_aload_n 0 dX1_init_15 rfl rfl (z_bipush (w := 12) dX1_init_16 (by decide) (z_newI (N := 12) dX1_init_18 w_arrI (by decide) (by decide) (by decide) (by decide) (by decide) ?_))
  refine z_nh (fun h8 e_h8 => ?_)
  have H9 := H7 h8 e_h8
  refine z_putP (g := h8.1) (I := h8.2.1) (Q := h8.2.2) dX1_init_20 wf_X1_18 (by decide) (by decide) rfl (Or.inr ⟨rfl, rfl⟩) H9.1 ?_
  refine z_nh (fun h10 e_h10 => ?_)
  have H11 := H9.2 h10 e_h10
  refine z_aload_n 0 dX1_init_23 rfl rfl (z_sipush (w := 130) dX1_init_24 (by decide) (z_newI (N := 130) dX1_init_27 w_arrI (by decide) (by decide) (by decide) (by decide) (by decide) ?_))
  refine z_nh (fun h12 e_h12 => ?_)
  have H13 := H11 h12 e_h12
  refine z_putP (g := h12.1) (I := h12.2.1) (Q := h12.2.2) dX1_init_29 wf_X1_22 (by decide) (by decide) rfl (Or.inr ⟨rfl, rfl⟩) H13.1 ?_
  refine z_nh (fun h14 e_h14 => ?_)
  have H15 := H13.2 h14 e_h14
  refine z_aload_n 0 dX1_init_32 rfl rfl (z_bipush (w := 13) dX1_init_33 (by decide) (z_newI (N := 13) dX1_init_35 w_arrI (by decide) (by decide) (by decide) (by decide) (by decide) ?_))
  refine z_nh (fun h16 e_h16 => ?_)
  have H17 := H15 h16 e_h16
  refine z_putP (g := h16.1) (I := h16.2.1) (Q := h16.2.2) dX1_init_37 wf_X1_25 (by decide) (by decide) rfl (Or.inr ⟨rfl, rfl⟩) H17.1 ?_
  refine z_nh (fun h18 e_h18 => ?_)
  have H19 := H17.2 h18 e_h18
  obtain ⟨rfl, rfl⟩ := H19
  exact z_vret dX1_init_40 rfl (by decide) (by decide)
theorem eX1_init {g : zG} {I : Nat → Nat → Int32} {P : Nat → Nat → Option Nat} {r : Option Value} {h' : zH} {a0 : Nat} (H : Zt none mX1_init 0 0 0 [(0, .ref a0)] [] (g, I, P) r h') : Cl mX1_init [.ref a0] (g, I, P) r h' := Cl.of (by decide) (Nat.le_of_ble_eq_true rfl) H
theorem dX2_init_0 : decode cX2_init 0 = .ok (.aload_n 0, 1) := by decide +kernel
theorem dX2_init_1 : decode cX2_init 1 = .ok (.invokespecial 3, 3) := by decide +kernel
theorem dX2_init_4 : decode cX2_init 4 = .ok (.aload_n 0, 1) := by decide +kernel
theorem dX2_init_5 : decode cX2_init 5 = .ok (.new 9, 3) := by decide +kernel
theorem dX2_init_8 : decode cX2_init 8 = .ok (.dup, 1) := by decide +kernel
theorem dX2_init_9 : decode cX2_init 9 = .ok (.invokespecial 11, 3) := by decide +kernel
theorem dX2_init_12 : decode cX2_init 12 = .ok (.putfield 12, 3) := by decide +kernel
theorem dX2_init_15 : decode cX2_init 15 = .ok (.aload_n 0, 1) := by decide +kernel
theorem dX2_init_16 : decode cX2_init 16 = .ok (.iconst 4, 1) := by decide +kernel
theorem dX2_init_17 : decode cX2_init 17 = .ok (.newarray .int, 2) := by decide +kernel
theorem dX2_init_19 : decode cX2_init 19 = .ok (.putfield 18, 3) := by decide +kernel
theorem dX2_init_22 : decode cX2_init 22 = .ok (.aload_n 0, 1) := by decide +kernel
theorem dX2_init_23 : decode cX2_init 23 = .ok (.iconst 4, 1) := by decide +kernel
theorem dX2_init_24 : decode cX2_init 24 = .ok (.newarray .int, 2) := by decide +kernel
theorem dX2_init_26 : decode cX2_init 26 = .ok (.putfield 22, 3) := by decide +kernel
theorem dX2_init_29 : decode cX2_init 29 = .ok (.aload_n 0, 1) := by decide +kernel
theorem dX2_init_30 : decode cX2_init 30 = .ok (.iconst 4, 1) := by decide +kernel
theorem dX2_init_31 : decode cX2_init 31 = .ok (.newarray .int, 2) := by decide +kernel
theorem dX2_init_33 : decode cX2_init 33 = .ok (.putfield 25, 3) := by decide +kernel
theorem dX2_init_36 : decode cX2_init 36 = .ok (.aload_n 0, 1) := by decide +kernel
theorem dX2_init_37 : decode cX2_init 37 = .ok (.iconst 4, 1) := by decide +kernel
theorem dX2_init_38 : decode cX2_init 38 = .ok (.newarray .int, 2) := by decide +kernel
theorem dX2_init_40 : decode cX2_init 40 = .ok (.putfield 28, 3) := by decide +kernel
theorem dX2_init_43 : decode cX2_init 43 = .ok (.aload_n 0, 1) := by decide +kernel
theorem dX2_init_44 : decode cX2_init 44 = .ok (.bipush 48, 2) := by decide +kernel
theorem dX2_init_46 : decode cX2_init 46 = .ok (.newarray .int, 2) := by decide +kernel
theorem dX2_init_48 : decode cX2_init 48 = .ok (.putfield 31, 3) := by decide +kernel
theorem dX2_init_51 : decode cX2_init 51 = .ok (.aload_n 0, 1) := by decide +kernel
theorem dX2_init_52 : decode cX2_init 52 = .ok (.bipush 48, 2) := by decide +kernel
theorem dX2_init_54 : decode cX2_init 54 = .ok (.newarray .int, 2) := by decide +kernel
theorem dX2_init_56 : decode cX2_init 56 = .ok (.putfield 34, 3) := by decide +kernel
theorem dX2_init_59 : decode cX2_init 59 = .ok (.aload_n 0, 1) := by decide +kernel
theorem dX2_init_60 : decode cX2_init 60 = .ok (.bipush 48, 2) := by decide +kernel
theorem dX2_init_62 : decode cX2_init 62 = .ok (.newarray .int, 2) := by decide +kernel
theorem dX2_init_64 : decode cX2_init 64 = .ok (.putfield 37, 3) := by decide +kernel
theorem dX2_init_67 : decode cX2_init 67 = .ok (.return_, 1) := by decide +kernel
set_option maxRecDepth 10000 in
theorem wX2_init_0 {g : zG} {I : Nat → Nat → Int32} {P : Nat → Nat → Option Nat} {r : Option Value} {h' : zH} {a0 : Nat} (H : ∀ h1 : zH, h1 = (zNew (g, I, P) 3 0) → ∃ (h3 : zH), Cl mX3_init [.ref ((g, I, P).1.1)] h1 none h3 ∧ zk h3.1 a0 2 ∧ ∀ h6 : zH, h6 = (h3.1, h3.2.1, zU h3.2.2 a0 0 (some ((g, I, P).1.1))) → ∀ h8 : zH, h8 = (zNew h6 13 4) → zk h8.1 a0 2 ∧ ∀ h10 : zH, h10 = (h8.1, h8.2.1, zU h8.2.2 a0 4 (some h6.1.1)) → ∀ h12 : zH, h12 = (zNew h10 13 4) → zk h12.1 a0 2 ∧ ∀ h14 : zH, h14 = (h12.1, h12.2.1, zU h12.2.2 a0 5 (some h10.1.1)) → ∀ h16 : zH, h16 = (zNew h14 13 4) → zk h16.1 a0 2 ∧ ∀ h18 : zH, h18 = (h16.1, h16.2.1, zU h16.2.2 a0 6 (some h14.1.1)) → ∀ h20 : zH, h20 = (zNew h18 13 4) → zk h20.1 a0 2 ∧ ∀ h22 : zH, h22 = (h20.1, h20.2.1, zU h20.2.2 a0 7 (some h18.1.1)) → ∀ h24 : zH, h24 = (zNew h22 13 48) → zk h24.1 a0 2 ∧ ∀ h26 : zH, h26 = (h24.1, h24.2.1, zU h24.2.2 a0 8 (some h22.1.1)) → ∀ h28 : zH, h28 = (zNew h26 13 48) → zk h28.1 a0 2 ∧ ∀ h30 : zH, h30 = (h28.1, h28.2.1, zU h28.2.2 a0 9 (some h26.1.1)) → ∀ h32 : zH, h32 = (zNew h30 13 48) → zk h32.1 a0 2 ∧ ∀ h34 : zH, h34 = (h32.1, h32.2.1, zU h32.2.2 a0 10 (some h30.1.1)) → r = none ∧ h' = h34) : Zt none mX2_init 0 0 0 [(0, .ref a0)] [] (g, I, P) r h' := by
  refine z_aload_n 0 dX2_init_0 rfl rfl (z_objInit dX2_init_1 wm_X2_3 w_objI w_objC (by decide) (Nat.le_of_ble_eq_true rfl) (z_aload_n 0 dX2_init_4 rfl rfl (z_new (c := 3) dX2_init_5 wc_X2_9 wn_3 wi_X3 (by decide) (by decide) (by decide) ?_)))
  refine z_nh (fun h1 e_h1 => ?_)
  have H2 := H h1 e_h1
  refine z_dup dX2_init_8 rfl ?_
  obtain ⟨h3, c4, H5⟩ := H2
  refine z_init (As := []) (st := [.ref ((g, I, P).1.1), .ref a0]) (h1 := h3) dX2_init_9 kX3_init wm_X2_11 ⟨by decide, by decide⟩ rfl rfl (Nat.le_of_ble_eq_true rfl) (by decide) (by decide) c4 ?_
  refine z_putP (g := h3.1) (I := h3.2.1) (Q := h3.2.2) dX2_init_12 wf_X2_12 (by decide) (by decide) rfl (Or.inl rfl) H5.1 ?_
  refine z_nh (fun h6 e_h6 => ?_)
  have H7 := H5.2 h6 e_h6
  refine z_aload_n 0 dX2_init_15 rfl rfl (z_iconst (w := 4) dX2_init_16 (by decide) (z_newI (N := 4) dX2_init_17 w_arrI (by decide) (by decide) (by decide) (by decide) (by decide) ?_))
  refine z_nh (fun h8 e_h8 => ?_)
  have H9 := H7 h8 e_h8
  refine z_putP (g := h8.1) (I := h8.2.1) (Q := h8.2.2) dX2_init_19 wf_X2_18 (by decide) (by decide) rfl (Or.inr ⟨rfl, rfl⟩) H9.1 ?_
  refine z_nh (fun h10 e_h10 => ?_)
  have H11 := H9.2 h10 e_h10
  refine z_aload_n 0 dX2_init_22 rfl rfl (z_iconst (w := 4) dX2_init_23 (by decide) (z_newI (N := 4) dX2_init_24 w_arrI (by decide) (by decide) (by decide) (by decide) (by decide) ?_))
  refine z_nh (fun h12 e_h12 => ?_)
  have H13 := H11 h12 e_h12
  refine z_putP (g := h12.1) (I := h12.2.1) (Q := h12.2.2) dX2_init_26 wf_X2_22 (by decide) (by decide) rfl (Or.inr ⟨rfl, rfl⟩) H13.1 ?_
  refine z_nh (fun h14 e_h14 => ?_)
  have H15 := H13.2 h14 e_h14
  refine z_aload_n 0 dX2_init_29 rfl rfl (z_iconst (w := 4) dX2_init_30 (by decide) (z_newI (N := 4) dX2_init_31 w_arrI (by decide) (by decide) (by decide) (by decide) (by decide) ?_))
  refine z_nh (fun h16 e_h16 => ?_)
  have H17 := H15 h16 e_h16
  refine z_putP (g := h16.1) (I := h16.2.1) (Q := h16.2.2) dX2_init_33 wf_X2_25 (by decide) (by decide) rfl (Or.inr ⟨rfl, rfl⟩) H17.1 ?_
  refine z_nh (fun h18 e_h18 => ?_)
  have H19 := H17.2 h18 e_h18
  refine z_aload_n 0 dX2_init_36 rfl rfl (z_iconst (w := 4) dX2_init_37 (by decide) (z_newI (N := 4) dX2_init_38 w_arrI (by decide) (by decide) (by decide) (by decide) (by decide) ?_))
  refine z_nh (fun h20 e_h20 => ?_)
  have H21 := H19 h20 e_h20
  refine z_putP (g := h20.1) (I := h20.2.1) (Q := h20.2.2) dX2_init_40 wf_X2_28 (by decide) (by decide) rfl (Or.inr ⟨rfl, rfl⟩) H21.1 ?_
  refine z_nh (fun h22 e_h22 => ?_)
  have H23 := H21.2 h22 e_h22
  refine z_aload_n 0 dX2_init_43 rfl rfl (z_bipush (w := 48) dX2_init_44 (by decide) (z_newI (N := 48) dX2_init_46 w_arrI (by decide) (by decide) (by decide) (by decide) (by decide) ?_))
  refine z_nh (fun h24 e_h24 => ?_)
  have H25 := H23 h24 e_h24
  refine z_putP (g := h24.1) (I := h24.2.1) (Q := h24.2.2) dX2_init_48 wf_X2_31 (by decide) (by decide) rfl (Or.inr ⟨rfl, rfl⟩) H25.1 ?_
  refine z_nh (fun h26 e_h26 => ?_)
  have H27 := H25.2 h26 e_h26
  refine z_aload_n 0 dX2_init_51 rfl rfl (z_bipush (w := 48) dX2_init_52 (by decide) (z_newI (N := 48) dX2_init_54 w_arrI (by decide) (by decide) (by decide) (by decide) (by decide) ?_))
  refine z_nh (fun h28 e_h28 => ?_)
  have H29 := H27 h28 e_h28
  refine z_putP (g := h28.1) (I := h28.2.1) (Q := h28.2.2) dX2_init_56 wf_X2_34 (by decide) (by decide) rfl (Or.inr ⟨rfl, rfl⟩) H29.1 ?_
  refine z_nh (fun h30 e_h30 => ?_)
  have H31 := H29.2 h30 e_h30
  refine z_aload_n 0 dX2_init_59 rfl rfl (z_bipush (w := 48) dX2_init_60 (by decide) (z_newI (N := 48) dX2_init_62 w_arrI (by decide) (by decide) (by decide) (by decide) (by decide) ?_))
  refine z_nh (fun h32 e_h32 => ?_)
  have H33 := H31 h32 e_h32
  refine z_putP (g := h32.1) (I := h32.2.1) (Q := h32.2.2) dX2_init_64 wf_X2_37 (by decide) (by decide) rfl (Or.inr ⟨rfl, rfl⟩) H33.1 ?_
  refine z_nh (fun h34 e_h34 => ?_)
  have H35 := H33.2 h34 e_h34
  obtain ⟨rfl, rfl⟩ := H35
  exact z_vret dX2_init_67 rfl (by decide) (by decide)
theorem eX2_init {g : zG} {I : Nat → Nat → Int32} {P : Nat → Nat → Option Nat} {r : Option Value} {h' : zH} {a0 : Nat} (H : Zt none mX2_init 0 0 0 [(0, .ref a0)] [] (g, I, P) r h') : Cl mX2_init [.ref a0] (g, I, P) r h' := Cl.of (by decide) (Nat.le_of_ble_eq_true rfl) H
theorem dX3_init_0 : decode cX3_init 0 = .ok (.aload_n 0, 1) := by decide +kernel
theorem dX3_init_1 : decode cX3_init 1 = .ok (.invokespecial 3, 3) := by decide +kernel
theorem dX3_init_4 : decode cX3_init 4 = .ok (.aload_n 0, 1) := by decide +kernel
theorem dX3_init_5 : decode cX3_init 5 = .ok (.iconst 2, 1) := by decide +kernel
theorem dX3_init_6 : decode cX3_init 6 = .ok (.putfield 9, 3) := by decide +kernel
theorem dX3_init_9 : decode cX3_init 9 = .ok (.aload_n 0, 1) := by decide +kernel
theorem dX3_init_10 : decode cX3_init 10 = .ok (.bipush 10, 2) := by decide +kernel
theorem dX3_init_12 : decode cX3_init 12 = .ok (.newarray .int, 2) := by decide +kernel
theorem dX3_init_14 : decode cX3_init 14 = .ok (.putfield 15, 3) := by decide +kernel
theorem dX3_init_17 : decode cX3_init 17 = .ok (.aload_n 0, 1) := by decide +kernel
theorem dX3_init_18 : decode cX3_init 18 = .ok (.bipush 10, 2) := by decide +kernel
theorem dX3_init_20 : decode cX3_init 20 = .ok (.newarray .int, 2) := by decide +kernel
theorem dX3_init_22 : decode cX3_init 22 = .ok (.putfield 19, 3) := by decide +kernel
theorem dX3_init_25 : decode cX3_init 25 = .ok (.aload_n 0, 1) := by decide +kernel
theorem dX3_init_26 : decode cX3_init 26 = .ok (.bipush 10, 2) := by decide +kernel
theorem dX3_init_28 : decode cX3_init 28 = .ok (.newarray .int, 2) := by decide +kernel
theorem dX3_init_30 : decode cX3_init 30 = .ok (.putfield 22, 3) := by decide +kernel
theorem dX3_init_33 : decode cX3_init 33 = .ok (.aload_n 0, 1) := by decide +kernel
theorem dX3_init_34 : decode cX3_init 34 = .ok (.bipush 60, 2) := by decide +kernel
theorem dX3_init_36 : decode cX3_init 36 = .ok (.newarray .int, 2) := by decide +kernel
theorem dX3_init_38 : decode cX3_init 38 = .ok (.putfield 25, 3) := by decide +kernel
theorem dX3_init_41 : decode cX3_init 41 = .ok (.aload_n 0, 1) := by decide +kernel
theorem dX3_init_42 : decode cX3_init 42 = .ok (.bipush 6, 2) := by decide +kernel
theorem dX3_init_44 : decode cX3_init 44 = .ok (.newarray .int, 2) := by decide +kernel
theorem dX3_init_46 : decode cX3_init 46 = .ok (.putfield 28, 3) := by decide +kernel
theorem dX3_init_49 : decode cX3_init 49 = .ok (.return_, 1) := by decide +kernel
set_option maxRecDepth 10000 in
theorem wX3_init_0 {g : zG} {I : Nat → Nat → Int32} {P : Nat → Nat → Option Nat} {r : Option Value} {h' : zH} {a0 : Nat} (H : zk g a0 3 ∧ ∀ h1 : zH, h1 = (g, zU I a0 0 2, P) → ∀ h3 : zH, h3 = (zNew h1 13 10) → zk h3.1 a0 3 ∧ ∀ h5 : zH, h5 = (h3.1, h3.2.1, zU h3.2.2 a0 4 (some h1.1.1)) → ∀ h7 : zH, h7 = (zNew h5 13 10) → zk h7.1 a0 3 ∧ ∀ h9 : zH, h9 = (h7.1, h7.2.1, zU h7.2.2 a0 5 (some h5.1.1)) → ∀ h11 : zH, h11 = (zNew h9 13 10) → zk h11.1 a0 3 ∧ ∀ h13 : zH, h13 = (h11.1, h11.2.1, zU h11.2.2 a0 6 (some h9.1.1)) → ∀ h15 : zH, h15 = (zNew h13 13 60) → zk h15.1 a0 3 ∧ ∀ h17 : zH, h17 = (h15.1, h15.2.1, zU h15.2.2 a0 7 (some h13.1.1)) → ∀ h19 : zH, h19 = (zNew h17 13 6) → zk h19.1 a0 3 ∧ ∀ h21 : zH, h21 = (h19.1, h19.2.1, zU h19.2.2 a0 8 (some h17.1.1)) → r = none ∧ h' = h21) : Zt none mX3_init 0 0 0 [(0, .ref a0)] [] (g, I, P) r h' := by
  refine z_aload_n 0 dX3_init_0 rfl rfl (z_objInit dX3_init_1 wm_X3_3 w_objI w_objC (by decide) (Nat.le_of_ble_eq_true rfl) (z_aload_n 0 dX3_init_4 rfl rfl (z_iconst (w := 2) dX3_init_5 (by decide) (z_putI (g := g) (I := I) (Q := P) dX3_init_6 wf_X3_9 (by decide) (by decide) rfl (Or.inl rfl) (zfit_int rfl) H.1 ?_))))
  refine z_nh (fun h1 e_h1 => ?_)
  have H2 := H.2 h1 e_h1
  refine z_aload_n 0 dX3_init_9 rfl rfl (z_bipush (w := 10) dX3_init_10 (by decide) (z_newI (N := 10) dX3_init_12 w_arrI (by decide) (by decide) (by decide) (by decide) (by decide) ?_))
  refine z_nh (fun h3 e_h3 => ?_)
  have H4 := H2 h3 e_h3
  refine z_putP (g := h3.1) (I := h3.2.1) (Q := h3.2.2) dX3_init_14 wf_X3_15 (by decide) (by decide) rfl (Or.inr ⟨rfl, rfl⟩) H4.1 ?_
  refine z_nh (fun h5 e_h5 => ?_)
  have H6 := H4.2 h5 e_h5
  refine z_aload_n 0 dX3_init_17 rfl rfl (z_bipush (w := 10) dX3_init_18 (by decide) (z_newI (N := 10) dX3_init_20 w_arrI (by decide) (by decide) (by decide) (by decide) (by decide) ?_))
  refine z_nh (fun h7 e_h7 => ?_)
  have H8 := H6 h7 e_h7
  refine z_putP (g := h7.1) (I := h7.2.1) (Q := h7.2.2) dX3_init_22 wf_X3_19 (by decide) (by decide) rfl (Or.inr ⟨rfl, rfl⟩) H8.1 ?_
  refine z_nh (fun h9 e_h9 => ?_)
  have H10 := H8.2 h9 e_h9
  refine z_aload_n 0 dX3_init_25 rfl rfl (z_bipush (w := 10) dX3_init_26 (by decide) (z_newI (N := 10) dX3_init_28 w_arrI (by decide) (by decide) (by decide) (by decide) (by decide) ?_))
  refine z_nh (fun h11 e_h11 => ?_)
  have H12 := H10 h11 e_h11
  refine z_putP (g := h11.1) (I := h11.2.1) (Q := h11.2.2) dX3_init_30 wf_X3_22 (by decide) (by decide) rfl (Or.inr ⟨rfl, rfl⟩) H12.1 ?_
  refine z_nh (fun h13 e_h13 => ?_)
  have H14 := H12.2 h13 e_h13
  refine z_aload_n 0 dX3_init_33 rfl rfl (z_bipush (w := 60) dX3_init_34 (by decide) (z_newI (N := 60) dX3_init_36 w_arrI (by decide) (by decide) (by decide) (by decide) (by decide) ?_))
  refine z_nh (fun h15 e_h15 => ?_)
  have H16 := H14 h15 e_h15
  refine z_putP (g := h15.1) (I := h15.2.1) (Q := h15.2.2) dX3_init_38 wf_X3_25 (by decide) (by decide) rfl (Or.inr ⟨rfl, rfl⟩) H16.1 ?_
  refine z_nh (fun h17 e_h17 => ?_)
  have H18 := H16.2 h17 e_h17
  refine z_aload_n 0 dX3_init_41 rfl rfl (z_bipush (w := 6) dX3_init_42 (by decide) (z_newI (N := 6) dX3_init_44 w_arrI (by decide) (by decide) (by decide) (by decide) (by decide) ?_))
  refine z_nh (fun h19 e_h19 => ?_)
  have H20 := H18 h19 e_h19
  refine z_putP (g := h19.1) (I := h19.2.1) (Q := h19.2.2) dX3_init_46 wf_X3_28 (by decide) (by decide) rfl (Or.inr ⟨rfl, rfl⟩) H20.1 ?_
  refine z_nh (fun h21 e_h21 => ?_)
  have H22 := H20.2 h21 e_h21
  obtain ⟨rfl, rfl⟩ := H22
  exact z_vret dX3_init_49 rfl (by decide) (by decide)
theorem eX3_init {g : zG} {I : Nat → Nat → Int32} {P : Nat → Nat → Option Nat} {r : Option Value} {h' : zH} {a0 : Nat} (H : Zt none mX3_init 0 0 0 [(0, .ref a0)] [] (g, I, P) r h') : Cl mX3_init [.ref a0] (g, I, P) r h' := Cl.of (by decide) (Nat.le_of_ble_eq_true rfl) H
theorem dX4_init_0 : decode cX4_init 0 = .ok (.aload_n 0, 1) := by decide +kernel
theorem dX4_init_1 : decode cX4_init 1 = .ok (.invokespecial 3, 3) := by decide +kernel
theorem dX4_init_4 : decode cX4_init 4 = .ok (.aload_n 0, 1) := by decide +kernel
theorem dX4_init_5 : decode cX4_init 5 = .ok (.bipush 6, 2) := by decide +kernel
theorem dX4_init_7 : decode cX4_init 7 = .ok (.newarray .int, 2) := by decide +kernel
theorem dX4_init_9 : decode cX4_init 9 = .ok (.putfield 9, 3) := by decide +kernel
theorem dX4_init_12 : decode cX4_init 12 = .ok (.aload_n 0, 1) := by decide +kernel
theorem dX4_init_13 : decode cX4_init 13 = .ok (.bipush 72, 2) := by decide +kernel
theorem dX4_init_15 : decode cX4_init 15 = .ok (.newarray .int, 2) := by decide +kernel
theorem dX4_init_17 : decode cX4_init 17 = .ok (.putfield 15, 3) := by decide +kernel
theorem dX4_init_20 : decode cX4_init 20 = .ok (.return_, 1) := by decide +kernel
set_option maxRecDepth 10000 in
theorem wX4_init_0 {g : zG} {I : Nat → Nat → Int32} {P : Nat → Nat → Option Nat} {r : Option Value} {h' : zH} {a0 : Nat} (H : ∀ h1 : zH, h1 = (zNew (g, I, P) 13 6) → zk h1.1 a0 4 ∧ ∀ h3 : zH, h3 = (h1.1, h1.2.1, zU h1.2.2 a0 1 (some ((g, I, P).1.1))) → ∀ h5 : zH, h5 = (zNew h3 13 72) → zk h5.1 a0 4 ∧ ∀ h7 : zH, h7 = (h5.1, h5.2.1, zU h5.2.2 a0 2 (some h3.1.1)) → r = none ∧ h' = h7) : Zt none mX4_init 0 0 0 [(0, .ref a0)] [] (g, I, P) r h' := by
  refine z_aload_n 0 dX4_init_0 rfl rfl (z_objInit dX4_init_1 wm_X4_3 w_objI w_objC (by decide) (Nat.le_of_ble_eq_true rfl) (z_aload_n 0 dX4_init_4 rfl rfl (z_bipush (w := 6) dX4_init_5 (by decide) (z_newI (N := 6) dX4_init_7 w_arrI (by decide) (by decide) (by decide) (by decide) (by decide) ?_))))
  refine z_nh (fun h1 e_h1 => ?_)
  have H2 := H h1 e_h1
  refine z_putP (g := h1.1) (I := h1.2.1) (Q := h1.2.2) dX4_init_9 wf_X4_9 (by decide) (by decide) rfl (Or.inr ⟨rfl, rfl⟩) H2.1 ?_
  refine z_nh (fun h3 e_h3 => ?_)
  have H4 := H2.2 h3 e_h3
  refine z_aload_n 0 dX4_init_12 rfl rfl (z_bipush (w := 72) dX4_init_13 (by decide) (z_newI (N := 72) dX4_init_15 w_arrI (by decide) (by decide) (by decide) (by decide) (by decide) ?_))
  refine z_nh (fun h5 e_h5 => ?_)
  have H6 := H4 h5 e_h5
  refine z_putP (g := h5.1) (I := h5.2.1) (Q := h5.2.2) dX4_init_17 wf_X4_15 (by decide) (by decide) rfl (Or.inr ⟨rfl, rfl⟩) H6.1 ?_
  refine z_nh (fun h7 e_h7 => ?_)
  have H8 := H6.2 h7 e_h7
  obtain ⟨rfl, rfl⟩ := H8
  exact z_vret dX4_init_20 rfl (by decide) (by decide)
theorem eX4_init {g : zG} {I : Nat → Nat → Int32} {P : Nat → Nat → Option Nat} {r : Option Value} {h' : zH} {a0 : Nat} (H : Zt none mX4_init 0 0 0 [(0, .ref a0)] [] (g, I, P) r h') : Cl mX4_init [.ref a0] (g, I, P) r h' := Cl.of (by decide) (Nat.le_of_ble_eq_true rfl) H
theorem dX5_init_0 : decode cX5_init 0 = .ok (.aload_n 0, 1) := by decide +kernel
theorem dX5_init_1 : decode cX5_init 1 = .ok (.invokespecial 3, 3) := by decide +kernel
theorem dX5_init_4 : decode cX5_init 4 = .ok (.aload_n 0, 1) := by decide +kernel
theorem dX5_init_5 : decode cX5_init 5 = .ok (.bipush 8, 2) := by decide +kernel
theorem dX5_init_7 : decode cX5_init 7 = .ok (.newarray .int, 2) := by decide +kernel
theorem dX5_init_9 : decode cX5_init 9 = .ok (.putfield 9, 3) := by decide +kernel
theorem dX5_init_12 : decode cX5_init 12 = .ok (.aload_n 0, 1) := by decide +kernel
theorem dX5_init_13 : decode cX5_init 13 = .ok (.bipush 8, 2) := by decide +kernel
theorem dX5_init_15 : decode cX5_init 15 = .ok (.newarray .int, 2) := by decide +kernel
theorem dX5_init_17 : decode cX5_init 17 = .ok (.putfield 15, 3) := by decide +kernel
theorem dX5_init_20 : decode cX5_init 20 = .ok (.return_, 1) := by decide +kernel
set_option maxRecDepth 10000 in
theorem wX5_init_0 {g : zG} {I : Nat → Nat → Int32} {P : Nat → Nat → Option Nat} {r : Option Value} {h' : zH} {a0 : Nat} (H : ∀ h1 : zH, h1 = (zNew (g, I, P) 13 8) → zk h1.1 a0 5 ∧ ∀ h3 : zH, h3 = (h1.1, h1.2.1, zU h1.2.2 a0 1 (some ((g, I, P).1.1))) → ∀ h5 : zH, h5 = (zNew h3 13 8) → zk h5.1 a0 5 ∧ ∀ h7 : zH, h7 = (h5.1, h5.2.1, zU h5.2.2 a0 2 (some h3.1.1)) → r = none ∧ h' = h7) : Zt none mX5_init 0 0 0 [(0, .ref a0)] [] (g, I, P) r h' := by
  refine z_aload_n 0 dX5_init_0 rfl rfl (z_objInit dX5_init_1 wm_X5_3 w_objI w_objC (by decide) (Nat.le_of_ble_eq_true rfl) (z_aload_n 0 dX5_init_4 rfl rfl (z_bipush (w := 8) dX5_init_5 (by decide) (z_newI (N := 8) dX5_init_7 w_arrI (by decide) (by decide) (by decide) (by decide) (by decide) ?_))))
  refine z_nh (fun h1 e_h1 => ?_)
  have H2 := H h1 e_h1
  refine z_putP (g := h1.1) (I := h1.2.1) (Q := h1.2.2) dX5_init_9 wf_X5_9 (by decide) (by decide) rfl (Or.inr ⟨rfl, rfl⟩) H2.1 ?_
  refine z_nh (fun h3 e_h3 => ?_)
  have H4 := H2.2 h3 e_h3
  refine z_aload_n 0 dX5_init_12 rfl rfl (z_bipush (w := 8) dX5_init_13 (by decide) (z_newI (N := 8) dX5_init_15 w_arrI (by decide) (by decide) (by decide) (by decide) (by decide) ?_))
  refine z_nh (fun h5 e_h5 => ?_)
  have H6 := H4 h5 e_h5
  refine z_putP (g := h5.1) (I := h5.2.1) (Q := h5.2.2) dX5_init_17 wf_X5_15 (by decide) (by decide) rfl (Or.inr ⟨rfl, rfl⟩) H6.1 ?_
  refine z_nh (fun h7 e_h7 => ?_)
  have H8 := H6.2 h7 e_h7
  obtain ⟨rfl, rfl⟩ := H8
  exact z_vret dX5_init_20 rfl (by decide) (by decide)
theorem eX5_init {g : zG} {I : Nat → Nat → Int32} {P : Nat → Nat → Option Nat} {r : Option Value} {h' : zH} {a0 : Nat} (H : Zt none mX5_init 0 0 0 [(0, .ref a0)] [] (g, I, P) r h') : Cl mX5_init [.ref a0] (g, I, P) r h' := Cl.of (by decide) (Nat.le_of_ble_eq_true rfl) H
theorem dX6_init_0 : decode cX6_init 0 = .ok (.aload_n 0, 1) := by decide +kernel
theorem dX6_init_1 : decode cX6_init 1 = .ok (.invokespecial 3, 3) := by decide +kernel
theorem dX6_init_4 : decode cX6_init 4 = .ok (.aload_n 0, 1) := by decide +kernel
theorem dX6_init_5 : decode cX6_init 5 = .ok (.new 9, 3) := by decide +kernel
theorem dX6_init_8 : decode cX6_init 8 = .ok (.dup, 1) := by decide +kernel
theorem dX6_init_9 : decode cX6_init 9 = .ok (.invokespecial 11, 3) := by decide +kernel
theorem dX6_init_12 : decode cX6_init 12 = .ok (.putfield 12, 3) := by decide +kernel
theorem dX6_init_15 : decode cX6_init 15 = .ok (.aload_n 0, 1) := by decide +kernel
theorem dX6_init_16 : decode cX6_init 16 = .ok (.new 18, 3) := by decide +kernel
theorem dX6_init_19 : decode cX6_init 19 = .ok (.dup, 1) := by decide +kernel
theorem dX6_init_20 : decode cX6_init 20 = .ok (.invokespecial 20, 3) := by decide +kernel
theorem dX6_init_23 : decode cX6_init 23 = .ok (.putfield 21, 3) := by decide +kernel
theorem dX6_init_26 : decode cX6_init 26 = .ok (.aload_n 0, 1) := by decide +kernel
theorem dX6_init_27 : decode cX6_init 27 = .ok (.new 25, 3) := by decide +kernel
theorem dX6_init_30 : decode cX6_init 30 = .ok (.dup, 1) := by decide +kernel
theorem dX6_init_31 : decode cX6_init 31 = .ok (.invokespecial 27, 3) := by decide +kernel
theorem dX6_init_34 : decode cX6_init 34 = .ok (.putfield 28, 3) := by decide +kernel
theorem dX6_init_37 : decode cX6_init 37 = .ok (.aload_n 0, 1) := by decide +kernel
theorem dX6_init_38 : decode cX6_init 38 = .ok (.new 32, 3) := by decide +kernel
theorem dX6_init_41 : decode cX6_init 41 = .ok (.dup, 1) := by decide +kernel
theorem dX6_init_42 : decode cX6_init 42 = .ok (.invokespecial 34, 3) := by decide +kernel
theorem dX6_init_45 : decode cX6_init 45 = .ok (.putfield 35, 3) := by decide +kernel
theorem dX6_init_48 : decode cX6_init 48 = .ok (.aload_n 0, 1) := by decide +kernel
theorem dX6_init_49 : decode cX6_init 49 = .ok (.new 39, 3) := by decide +kernel
theorem dX6_init_52 : decode cX6_init 52 = .ok (.dup, 1) := by decide +kernel
theorem dX6_init_53 : decode cX6_init 53 = .ok (.invokespecial 41, 3) := by decide +kernel
theorem dX6_init_56 : decode cX6_init 56 = .ok (.putfield 42, 3) := by decide +kernel
theorem dX6_init_59 : decode cX6_init 59 = .ok (.return_, 1) := by decide +kernel
set_option maxRecDepth 10000 in
theorem wX6_init_0 {g : zG} {I : Nat → Nat → Int32} {P : Nat → Nat → Option Nat} {r : Option Value} {h' : zH} {a0 : Nat} (H : ∀ h1 : zH, h1 = (zNew (g, I, P) 3 0) → ∃ (h3 : zH), Cl mX3_init [.ref ((g, I, P).1.1)] h1 none h3 ∧ zk h3.1 a0 6 ∧ ∀ h6 : zH, h6 = (h3.1, h3.2.1, zU h3.2.2 a0 0 (some ((g, I, P).1.1))) → ∀ h8 : zH, h8 = (zNew h6 0 0) → ∃ (h10 : zH), Cl mX0_init [.ref h6.1.1] h8 none h10 ∧ zk h10.1 a0 6 ∧ ∀ h13 : zH, h13 = (h10.1, h10.2.1, zU h10.2.2 a0 1 (some h6.1.1)) → ∀ h15 : zH, h15 = (zNew h13 4 0) → ∃ (h17 : zH), Cl mX4_init [.ref h13.1.1] h15 none h17 ∧ zk h17.1 a0 6 ∧ ∀ h20 : zH, h20 = (h17.1, h17.2.1, zU h17.2.2 a0 2 (some h13.1.1)) → ∀ h22 : zH, h22 = (zNew h20 5 0) → ∃ (h24 : zH), Cl mX5_init [.ref h20.1.1] h22 none h24 ∧ zk h24.1 a0 6 ∧ ∀ h27 : zH, h27 = (h24.1, h24.2.1, zU h24.2.2 a0 3 (some h20.1.1)) → ∀ h29 : zH, h29 = (zNew h27 8 0) → Cl mX8_init [.ref h27.1.1] h29 none h29 ∧ zk h29.1 a0 6 ∧ ∀ h33 : zH, h33 = (h29.1, h29.2.1, zU h29.2.2 a0 6 (some h27.1.1)) → r = none ∧ h' = h33) : Zt none mX6_init 0 0 0 [(0, .ref a0)] [] (g, I, P) r h' := by
  refine z_aload_n 0 dX6_init_0 rfl rfl (z_objInit dX6_init_1 wm_X6_3 w_objI w_objC (by decide) (Nat.le_of_ble_eq_true rfl) (z_aload_n 0 dX6_init_4 rfl rfl (z_new (c := 3) dX6_init_5 wc_X6_9 wn_3 wi_X3 (by decide) (by decide) (by decide) ?_)))
  refine z_nh (fun h1 e_h1 => ?_)
  have H2 := H h1 e_h1
  refine z_dup dX6_init_8 rfl ?_
  obtain ⟨h3, c4, H5⟩ := H2
  refine z_init (As := []) (st := [.ref ((g, I, P).1.1), .ref a0]) (h1 := h3) dX6_init_9 kX3_init wm_X6_11 ⟨by decide, by decide⟩ rfl rfl (Nat.le_of_ble_eq_true rfl) (by decide) (by decide) c4 ?_
  refine z_putP (g := h3.1) (I := h3.2.1) (Q := h3.2.2) dX6_init_12 wf_X6_12 (by decide) (by decide) rfl (Or.inr ⟨rfl, rfl⟩) H5.1 ?_
  refine z_nh (fun h6 e_h6 => ?_)
  have H7 := H5.2 h6 e_h6
  refine z_aload_n 0 dX6_init_15 rfl rfl (z_new (c := 0) dX6_init_16 wc_X6_18 wn_0 wi_X0 (by decide) (by decide) (by decide) ?_)
  refine z_nh (fun h8 e_h8 => ?_)
  have H9 := H7 h8 e_h8
  refine z_dup dX6_init_19 rfl ?_
  obtain ⟨h10, c11, H12⟩ := H9
  refine z_init (As := []) (st := [.ref h6.1.1, .ref a0]) (h1 := h10) dX6_init_20 kX0_init wm_X6_20 ⟨by decide, by decide⟩ rfl rfl (Nat.le_of_ble_eq_true rfl) (by decide) (by decide) c11 ?_
  refine z_putP (g := h10.1) (I := h10.2.1) (Q := h10.2.2) dX6_init_23 wf_X6_21 (by decide) (by decide) rfl (Or.inr ⟨rfl, rfl⟩) H12.1 ?_
  refine z_nh (fun h13 e_h13 => ?_)
  have H14 := H12.2 h13 e_h13
  refine z_aload_n 0 dX6_init_26 rfl rfl (z_new (c := 4) dX6_init_27 wc_X6_25 wn_4 wi_X4 (by decide) (by decide) (by decide) ?_)
  refine z_nh (fun h15 e_h15 => ?_)
  have H16 := H14 h15 e_h15
  refine z_dup dX6_init_30 rfl ?_
  obtain ⟨h17, c18, H19⟩ := H16
  refine z_init (As := []) (st := [.ref h13.1.1, .ref a0]) (h1 := h17) dX6_init_31 kX4_init wm_X6_27 ⟨by decide, by decide⟩ rfl rfl (Nat.le_of_ble_eq_true rfl) (by decide) (by decide) c18 ?_
  refine z_putP (g := h17.1) (I := h17.2.1) (Q := h17.2.2) dX6_init_34 wf_X6_28 (by decide) (by decide) rfl (Or.inr ⟨rfl, rfl⟩) H19.1 ?_
  refine z_nh (fun h20 e_h20 => ?_)
  have H21 := H19.2 h20 e_h20
  refine z_aload_n 0 dX6_init_37 rfl rfl (z_new (c := 5) dX6_init_38 wc_X6_32 wn_5 wi_X5 (by decide) (by decide) (by decide) ?_)
  refine z_nh (fun h22 e_h22 => ?_)
  have H23 := H21 h22 e_h22
  refine z_dup dX6_init_41 rfl ?_
  obtain ⟨h24, c25, H26⟩ := H23
  refine z_init (As := []) (st := [.ref h20.1.1, .ref a0]) (h1 := h24) dX6_init_42 kX5_init wm_X6_34 ⟨by decide, by decide⟩ rfl rfl (Nat.le_of_ble_eq_true rfl) (by decide) (by decide) c25 ?_
  refine z_putP (g := h24.1) (I := h24.2.1) (Q := h24.2.2) dX6_init_45 wf_X6_35 (by decide) (by decide) rfl (Or.inr ⟨rfl, rfl⟩) H26.1 ?_
  refine z_nh (fun h27 e_h27 => ?_)
  have H28 := H26.2 h27 e_h27
  refine z_aload_n 0 dX6_init_48 rfl rfl (z_new (c := 8) dX6_init_49 wc_X6_39 wn_8 wi_X8 (by decide) (by decide) (by decide) ?_)
  refine z_nh (fun h29 e_h29 => ?_)
  have H30 := H28 h29 e_h29
  refine z_dup dX6_init_52 rfl ?_
  obtain ⟨c31, H32⟩ := H30
  refine z_init (As := []) (st := [.ref h27.1.1, .ref a0]) (h1 := h29) dX6_init_53 kX8_init wm_X6_41 ⟨by decide, by decide⟩ rfl rfl (Nat.le_of_ble_eq_true rfl) (by decide) (by decide) c31 ?_
  refine z_putP (g := h29.1) (I := h29.2.1) (Q := h29.2.2) dX6_init_56 wf_X6_42 (by decide) (by decide) rfl (Or.inr ⟨rfl, rfl⟩) H32.1 ?_
  refine z_nh (fun h33 e_h33 => ?_)
  have H34 := H32.2 h33 e_h33
  obtain ⟨rfl, rfl⟩ := H34
  exact z_vret dX6_init_59 rfl (by decide) (by decide)
theorem eX6_init {g : zG} {I : Nat → Nat → Int32} {P : Nat → Nat → Option Nat} {r : Option Value} {h' : zH} {a0 : Nat} (H : Zt none mX6_init 0 0 0 [(0, .ref a0)] [] (g, I, P) r h') : Cl mX6_init [.ref a0] (g, I, P) r h' := Cl.of (by decide) (Nat.le_of_ble_eq_true rfl) H
theorem dX7_init_0 : decode cX7_init 0 = .ok (.aload_n 0, 1) := by decide +kernel
theorem dX7_init_1 : decode cX7_init 1 = .ok (.invokespecial 3, 3) := by decide +kernel
theorem dX7_init_4 : decode cX7_init 4 = .ok (.aload_n 0, 1) := by decide +kernel
theorem dX7_init_5 : decode cX7_init 5 = .ok (.new 9, 3) := by decide +kernel
theorem dX7_init_8 : decode cX7_init 8 = .ok (.dup, 1) := by decide +kernel
theorem dX7_init_9 : decode cX7_init 9 = .ok (.invokespecial 11, 3) := by decide +kernel
theorem dX7_init_12 : decode cX7_init 12 = .ok (.putfield 12, 3) := by decide +kernel
theorem dX7_init_15 : decode cX7_init 15 = .ok (.aload_n 0, 1) := by decide +kernel
theorem dX7_init_16 : decode cX7_init 16 = .ok (.bipush 10, 2) := by decide +kernel
theorem dX7_init_18 : decode cX7_init 18 = .ok (.newarray .int, 2) := by decide +kernel
theorem dX7_init_20 : decode cX7_init 20 = .ok (.putfield 18, 3) := by decide +kernel
theorem dX7_init_23 : decode cX7_init 23 = .ok (.aload_n 0, 1) := by decide +kernel
theorem dX7_init_24 : decode cX7_init 24 = .ok (.sipush 810, 3) := by decide +kernel
theorem dX7_init_27 : decode cX7_init 27 = .ok (.newarray .int, 2) := by decide +kernel
theorem dX7_init_29 : decode cX7_init 29 = .ok (.putfield 22, 3) := by decide +kernel
theorem dX7_init_32 : decode cX7_init 32 = .ok (.aload_n 0, 1) := by decide +kernel
theorem dX7_init_33 : decode cX7_init 33 = .ok (.sipush 810, 3) := by decide +kernel
theorem dX7_init_36 : decode cX7_init 36 = .ok (.newarray .int, 2) := by decide +kernel
theorem dX7_init_38 : decode cX7_init 38 = .ok (.putfield 25, 3) := by decide +kernel
theorem dX7_init_41 : decode cX7_init 41 = .ok (.return_, 1) := by decide +kernel
set_option maxRecDepth 10000 in
theorem wX7_init_0 {g : zG} {I : Nat → Nat → Int32} {P : Nat → Nat → Option Nat} {r : Option Value} {h' : zH} {a0 : Nat} (H : ∀ h1 : zH, h1 = (zNew (g, I, P) 5 0) → ∃ (h3 : zH), Cl mX5_init [.ref ((g, I, P).1.1)] h1 none h3 ∧ zk h3.1 a0 7 ∧ ∀ h6 : zH, h6 = (h3.1, h3.2.1, zU h3.2.2 a0 0 (some ((g, I, P).1.1))) → ∀ h8 : zH, h8 = (zNew h6 13 10) → zk h8.1 a0 7 ∧ ∀ h10 : zH, h10 = (h8.1, h8.2.1, zU h8.2.2 a0 3 (some h6.1.1)) → ∀ h12 : zH, h12 = (zNew h10 13 810) → zk h12.1 a0 7 ∧ ∀ h14 : zH, h14 = (h12.1, h12.2.1, zU h12.2.2 a0 4 (some h10.1.1)) → ∀ h16 : zH, h16 = (zNew h14 13 810) → zk h16.1 a0 7 ∧ ∀ h18 : zH, h18 = (h16.1, h16.2.1, zU h16.2.2 a0 5 (some h14.1.1)) → r = none ∧ h' = h18) : Zt none mX7_init 0 0 0 [(0, .ref a0)] [] (g, I, P) r h' := by
  refine z_aload_n 0 dX7_init_0 rfl rfl (z_objInit dX7_init_1 wm_X7_3 w_objI w_objC (by decide) (Nat.le_of_ble_eq_true rfl) (z_aload_n 0 dX7_init_4 rfl rfl (z_new (c := 5) dX7_init_5 wc_X7_9 wn_5 wi_X5 (by decide) (by decide) (by decide) ?_)))
  refine z_nh (fun h1 e_h1 => ?_)
  have H2 := H h1 e_h1
  refine z_dup dX7_init_8 rfl ?_
  obtain ⟨h3, c4, H5⟩ := H2
  refine z_init (As := []) (st := [.ref ((g, I, P).1.1), .ref a0]) (h1 := h3) dX7_init_9 kX5_init wm_X7_11 ⟨by decide, by decide⟩ rfl rfl (Nat.le_of_ble_eq_true rfl) (by decide) (by decide) c4 ?_
  refine z_putP (g := h3.1) (I := h3.2.1) (Q := h3.2.2) dX7_init_12 wf_X7_12 (by decide) (by decide) rfl (Or.inl rfl) H5.1 ?_
  refine z_nh (fun h6 e_h6 => ?_)
  have H7 := H5.2 h6 e_h6
  refine z_aload_n 0 dX7_init_15 rfl rfl (z_bipush (w := 10) dX7_init_16 (by decide) (z_newI (N := 10) dX7_init_18 w_arrI (by decide) (by decide) (by decide) (by decide) (by decide) ?_))
  refine z_nh (fun h8 e_h8 => ?_)
  have H9 := H7 h8 e_h8
  refine z_putP (g := h8.1) (I := h8.2.1) (Q := h8.2.2) dX7_init_20 wf_X7_18 (by decide) (by decide) rfl (Or.inr ⟨rfl, rfl⟩) H9.1 ?_
  refine z_nh (fun h10 e_h10 => ?_)
  have H11 := H9.2 h10 e_h10
  refine z_aload_n 0 dX7_init_23 rfl rfl (z_sipush (w := 810) dX7_init_24 (by decide) (z_newI (N := 810) dX7_init_27 w_arrI (by decide) (by decide) (by decide) (by decide) (by decide) ?_))
  refine z_nh (fun h12 e_h12 => ?_)
  have H13 := H11 h12 e_h12
  refine z_putP (g := h12.1) (I := h12.2.1) (Q := h12.2.2) dX7_init_29 wf_X7_22 (by decide) (by decide) rfl (Or.inr ⟨rfl, rfl⟩) H13.1 ?_
  refine z_nh (fun h14 e_h14 => ?_)
  have H15 := H13.2 h14 e_h14
  refine z_aload_n 0 dX7_init_32 rfl rfl (z_sipush (w := 810) dX7_init_33 (by decide) (z_newI (N := 810) dX7_init_36 w_arrI (by decide) (by decide) (by decide) (by decide) (by decide) ?_))
  refine z_nh (fun h16 e_h16 => ?_)
  have H17 := H15 h16 e_h16
  refine z_putP (g := h16.1) (I := h16.2.1) (Q := h16.2.2) dX7_init_38 wf_X7_25 (by decide) (by decide) rfl (Or.inr ⟨rfl, rfl⟩) H17.1 ?_
  refine z_nh (fun h18 e_h18 => ?_)
  have H19 := H17.2 h18 e_h18
  obtain ⟨rfl, rfl⟩ := H19
  exact z_vret dX7_init_41 rfl (by decide) (by decide)
theorem eX7_init {g : zG} {I : Nat → Nat → Int32} {P : Nat → Nat → Option Nat} {r : Option Value} {h' : zH} {a0 : Nat} (H : Zt none mX7_init 0 0 0 [(0, .ref a0)] [] (g, I, P) r h') : Cl mX7_init [.ref a0] (g, I, P) r h' := Cl.of (by decide) (Nat.le_of_ble_eq_true rfl) H
theorem dX9_init_0 : decode cX9_init 0 = .ok (.aload_n 0, 1) := by decide +kernel
theorem dX9_init_1 : decode cX9_init 1 = .ok (.invokespecial 3, 3) := by decide +kernel
theorem dX9_init_4 : decode cX9_init 4 = .ok (.aload_n 0, 1) := by decide +kernel
theorem dX9_init_5 : decode cX9_init 5 = .ok (.sipush 600, 3) := by decide +kernel
theorem dX9_init_8 : decode cX9_init 8 = .ok (.newarray .int, 2) := by decide +kernel
theorem dX9_init_10 : decode cX9_init 10 = .ok (.putfield 9, 3) := by decide +kernel
theorem dX9_init_13 : decode cX9_init 13 = .ok (.aload_n 0, 1) := by decide +kernel
theorem dX9_init_14 : decode cX9_init 14 = .ok (.iconst (-1), 1) := by decide +kernel
theorem dX9_init_15 : decode cX9_init 15 = .ok (.putfield 15, 3) := by decide +kernel
theorem dX9_init_18 : decode cX9_init 18 = .ok (.aload_n 0, 1) := by decide +kernel
theorem dX9_init_19 : decode cX9_init 19 = .ok (.iconst 4, 1) := by decide +kernel
theorem dX9_init_20 : decode cX9_init 20 = .ok (.newarray .int, 2) := by decide +kernel
theorem dX9_init_22 : decode cX9_init 22 = .ok (.putfield 19, 3) := by decide +kernel
theorem dX9_init_25 : decode cX9_init 25 = .ok (.aload_n 0, 1) := by decide +kernel
theorem dX9_init_26 : decode cX9_init 26 = .ok (.iconst 2, 1) := by decide +kernel
theorem dX9_init_27 : decode cX9_init 27 = .ok (.anewarray 22, 3) := by decide +kernel
theorem dX9_init_30 : decode cX9_init 30 = .ok (.putfield 24, 3) := by decide +kernel
theorem dX9_init_33 : decode cX9_init 33 = .ok (.aload_n 0, 1) := by decide +kernel
theorem dX9_init_34 : decode cX9_init 34 = .ok (.iconst 2, 1) := by decide +kernel
theorem dX9_init_35 : decode cX9_init 35 = .ok (.anewarray 28, 3) := by decide +kernel
theorem dX9_init_38 : decode cX9_init 38 = .ok (.putfield 30, 3) := by decide +kernel
theorem dX9_init_41 : decode cX9_init 41 = .ok (.aload_n 0, 1) := by decide +kernel
theorem dX9_init_42 : decode cX9_init 42 = .ok (.iconst 2, 1) := by decide +kernel
theorem dX9_init_43 : decode cX9_init 43 = .ok (.anewarray 34, 3) := by decide +kernel
theorem dX9_init_46 : decode cX9_init 46 = .ok (.putfield 36, 3) := by decide +kernel
theorem dX9_init_49 : decode cX9_init 49 = .ok (.aload_n 0, 1) := by decide +kernel
theorem dX9_init_50 : decode cX9_init 50 = .ok (.iconst 2, 1) := by decide +kernel
theorem dX9_init_51 : decode cX9_init 51 = .ok (.anewarray 40, 3) := by decide +kernel
theorem dX9_init_54 : decode cX9_init 54 = .ok (.putfield 42, 3) := by decide +kernel
theorem dX9_init_57 : decode cX9_init 57 = .ok (.iconst 0, 1) := by decide +kernel
theorem dX9_init_58 : decode cX9_init 58 = .ok (.istore_n 1, 1) := by decide +kernel
theorem dX9_init_59 : decode cX9_init 59 = .ok (.iload_n 1, 1) := by decide +kernel
theorem dX9_init_60 : decode cX9_init 60 = .ok (.iconst 2, 1) := by decide +kernel
theorem dX9_init_61 : decode cX9_init 61 = .ok (.if_icmp .ge 61, 3) := by decide +kernel
theorem dX9_init_64 : decode cX9_init 64 = .ok (.aload_n 0, 1) := by decide +kernel
theorem dX9_init_65 : decode cX9_init 65 = .ok (.getfield 24, 3) := by decide +kernel
theorem dX9_init_68 : decode cX9_init 68 = .ok (.iload_n 1, 1) := by decide +kernel
theorem dX9_init_69 : decode cX9_init 69 = .ok (.new 22, 3) := by decide +kernel
theorem dX9_init_72 : decode cX9_init 72 = .ok (.dup, 1) := by decide +kernel
theorem dX9_init_73 : decode cX9_init 73 = .ok (.invokespecial 46, 3) := by decide +kernel
theorem dX9_init_76 : decode cX9_init 76 = .ok (.aastore, 1) := by decide +kernel
theorem dX9_init_77 : decode cX9_init 77 = .ok (.aload_n 0, 1) := by decide +kernel
theorem dX9_init_78 : decode cX9_init 78 = .ok (.getfield 30, 3) := by decide +kernel
theorem dX9_init_81 : decode cX9_init 81 = .ok (.iload_n 1, 1) := by decide +kernel
theorem dX9_init_82 : decode cX9_init 82 = .ok (.new 28, 3) := by decide +kernel
theorem dX9_init_85 : decode cX9_init 85 = .ok (.dup, 1) := by decide +kernel
theorem dX9_init_86 : decode cX9_init 86 = .ok (.invokespecial 47, 3) := by decide +kernel
theorem dX9_init_89 : decode cX9_init 89 = .ok (.aastore, 1) := by decide +kernel
theorem dX9_init_90 : decode cX9_init 90 = .ok (.aload_n 0, 1) := by decide +kernel
theorem dX9_init_91 : decode cX9_init 91 = .ok (.getfield 36, 3) := by decide +kernel
theorem dX9_init_94 : decode cX9_init 94 = .ok (.iload_n 1, 1) := by decide +kernel
theorem dX9_init_95 : decode cX9_init 95 = .ok (.new 34, 3) := by decide +kernel
theorem dX9_init_98 : decode cX9_init 98 = .ok (.dup, 1) := by decide +kernel
theorem dX9_init_99 : decode cX9_init 99 = .ok (.invokespecial 48, 3) := by decide +kernel
theorem dX9_init_102 : decode cX9_init 102 = .ok (.aastore, 1) := by decide +kernel
theorem dX9_init_103 : decode cX9_init 103 = .ok (.aload_n 0, 1) := by decide +kernel
theorem dX9_init_104 : decode cX9_init 104 = .ok (.getfield 42, 3) := by decide +kernel
theorem dX9_init_107 : decode cX9_init 107 = .ok (.iload_n 1, 1) := by decide +kernel
theorem dX9_init_108 : decode cX9_init 108 = .ok (.new 40, 3) := by decide +kernel
theorem dX9_init_111 : decode cX9_init 111 = .ok (.dup, 1) := by decide +kernel
theorem dX9_init_112 : decode cX9_init 112 = .ok (.invokespecial 49, 3) := by decide +kernel
theorem dX9_init_115 : decode cX9_init 115 = .ok (.aastore, 1) := by decide +kernel
theorem dX9_init_116 : decode cX9_init 116 = .ok (.iinc 1 1, 3) := by decide +kernel
theorem dX9_init_119 : decode cX9_init 119 = .ok (.goto (-60), 3) := by decide +kernel
theorem dX9_init_122 : decode cX9_init 122 = .ok (.return_, 1) := by decide +kernel
set_option maxRecDepth 10000 in
theorem wX9_init_0 {g : zG} {I : Nat → Nat → Int32} {P : Nat → Nat → Option Nat} {r : Option Value} {h' : zH} {a0 : Nat} (H : ∀ h1 : zH, h1 = (zNew (g, I, P) 13 600) → zk h1.1 a0 9 ∧ ∀ h3 : zH, h3 = (h1.1, h1.2.1, zU h1.2.2 a0 0 (some ((g, I, P).1.1))) → zk h3.1 a0 9 ∧ ∀ h5 : zH, h5 = (h3.1, zU h3.2.1 a0 3 (-1), h3.2.2) → ∀ h7 : zH, h7 = (zNew h5 13 4) → zk h7.1 a0 9 ∧ ∀ h9 : zH, h9 = (h7.1, h7.2.1, zU h7.2.2 a0 4 (some h5.1.1)) → ∀ h11 : zH, h11 = (zNew h9 16 2) → zk h11.1 a0 9 ∧ ∀ h13 : zH, h13 = (h11.1, h11.2.1, zU h11.2.2 a0 5 (some h9.1.1)) → ∀ h15 : zH, h15 = (zNew h13 15 2) → zk h15.1 a0 9 ∧ ∀ h17 : zH, h17 = (h15.1, h15.2.1, zU h15.2.2 a0 6 (some h13.1.1)) → ∀ h19 : zH, h19 = (zNew h17 17 2) → zk h19.1 a0 9 ∧ ∀ h21 : zH, h21 = (h19.1, h19.2.1, zU h19.2.2 a0 7 (some h17.1.1)) → ∀ h23 : zH, h23 = (zNew h21 18 2) → zk h23.1 a0 9 ∧ ∀ h25 : zH, h25 = (h23.1, h23.2.1, zU h23.2.2 a0 8 (some h21.1.1)) → Zt none mX9_init 6 612 59 [(0, .ref a0), (1, .int 0)] [] h25 r h') : Zt none mX9_init 0 0 0 [(0, .ref a0)] [] (g, I, P) r h' := by
  refine z_aload_n 0 dX9_init_0 rfl rfl (z_objInit dX9_init_1 wm_X9_3 w_objI w_objC (by decide) (Nat.le_of_ble_eq_true rfl) (z_aload_n 0 dX9_init_4 rfl rfl (z_sipush (w := 600) dX9_init_5 (by decide) (z_newI (N := 600) dX9_init_8 w_arrI (by decide) (by decide) (by decide) (by decide) (by decide) ?_))))
  refine z_nh (fun h1 e_h1 => ?_)
  have H2 := H h1 e_h1
  refine z_putP (g := h1.1) (I := h1.2.1) (Q := h1.2.2) dX9_init_10 wf_X9_9 (by decide) (by decide) rfl (Or.inr ⟨rfl, rfl⟩) H2.1 ?_
  refine z_nh (fun h3 e_h3 => ?_)
  have H4 := H2.2 h3 e_h3
  refine z_aload_n 0 dX9_init_13 rfl rfl (z_iconst (w := (-1)) dX9_init_14 (by decide) (z_putI (g := h3.1) (I := h3.2.1) (Q := h3.2.2) dX9_init_15 wf_X9_15 (by decide) (by decide) rfl (Or.inl rfl) (zfit_int rfl) H4.1 ?_))
  refine z_nh (fun h5 e_h5 => ?_)
  have H6 := H4.2 h5 e_h5
  refine z_aload_n 0 dX9_init_18 rfl rfl (z_iconst (w := 4) dX9_init_19 (by decide) (z_newI (N := 4) dX9_init_20 w_arrI (by decide) (by decide) (by decide) (by decide) (by decide) ?_))
  refine z_nh (fun h7 e_h7 => ?_)
  have H8 := H6 h7 e_h7
  refine z_putP (g := h7.1) (I := h7.2.1) (Q := h7.2.2) dX9_init_22 wf_X9_19 (by decide) (by decide) rfl (Or.inr ⟨rfl, rfl⟩) H8.1 ?_
  refine z_nh (fun h9 e_h9 => ?_)
  have H10 := H8.2 h9 e_h9
  refine z_aload_n 0 dX9_init_25 rfl rfl (z_iconst (w := 2) dX9_init_26 (by decide) (z_anew (N := 2) (t := 16) dX9_init_27 wc_X9_22 (by decide) rfl (by decide) (by decide) (by decide) (by decide) (by decide) (by decide) ?_))
  refine z_nh (fun h11 e_h11 => ?_)
  have H12 := H10 h11 e_h11
  refine z_putP (g := h11.1) (I := h11.2.1) (Q := h11.2.2) dX9_init_30 wf_X9_24 (by decide) (by decide) rfl (Or.inr ⟨rfl, rfl⟩) H12.1 ?_
  refine z_nh (fun h13 e_h13 => ?_)
  have H14 := H12.2 h13 e_h13
  refine z_aload_n 0 dX9_init_33 rfl rfl (z_iconst (w := 2) dX9_init_34 (by decide) (z_anew (N := 2) (t := 15) dX9_init_35 wc_X9_28 (by decide) rfl (by decide) (by decide) (by decide) (by decide) (by decide) (by decide) ?_))
  refine z_nh (fun h15 e_h15 => ?_)
  have H16 := H14 h15 e_h15
  refine z_putP (g := h15.1) (I := h15.2.1) (Q := h15.2.2) dX9_init_38 wf_X9_30 (by decide) (by decide) rfl (Or.inr ⟨rfl, rfl⟩) H16.1 ?_
  refine z_nh (fun h17 e_h17 => ?_)
  have H18 := H16.2 h17 e_h17
  refine z_aload_n 0 dX9_init_41 rfl rfl (z_iconst (w := 2) dX9_init_42 (by decide) (z_anew (N := 2) (t := 17) dX9_init_43 wc_X9_34 (by decide) rfl (by decide) (by decide) (by decide) (by decide) (by decide) (by decide) ?_))
  refine z_nh (fun h19 e_h19 => ?_)
  have H20 := H18 h19 e_h19
  refine z_putP (g := h19.1) (I := h19.2.1) (Q := h19.2.2) dX9_init_46 wf_X9_36 (by decide) (by decide) rfl (Or.inr ⟨rfl, rfl⟩) H20.1 ?_
  refine z_nh (fun h21 e_h21 => ?_)
  have H22 := H20.2 h21 e_h21
  refine z_aload_n 0 dX9_init_49 rfl rfl (z_iconst (w := 2) dX9_init_50 (by decide) (z_anew (N := 2) (t := 18) dX9_init_51 wc_X9_40 (by decide) rfl (by decide) (by decide) (by decide) (by decide) (by decide) (by decide) ?_))
  refine z_nh (fun h23 e_h23 => ?_)
  have H24 := H22 h23 e_h23
  refine z_putP (g := h23.1) (I := h23.2.1) (Q := h23.2.2) dX9_init_54 wf_X9_42 (by decide) (by decide) rfl (Or.inr ⟨rfl, rfl⟩) H24.1 ?_
  refine z_nh (fun h25 e_h25 => ?_)
  have H26 := H24.2 h25 e_h25
  refine z_iconst (w := 0) dX9_init_57 (by decide) (z_istore_n (lv' := [(1, .int 0), (0, .ref a0)]) dX9_init_58 (by decide) rfl ?_)
  exact z_less [1, 0] rfl H26
theorem eX9_init {g : zG} {I : Nat → Nat → Int32} {P : Nat → Nat → Option Nat} {r : Option Value} {h' : zH} {a0 : Nat} (H : Zt none mX9_init 0 0 0 [(0, .ref a0)] [] (g, I, P) r h') : Cl mX9_init [.ref a0] (g, I, P) r h' := Cl.of (by decide) (Nat.le_of_ble_eq_true rfl) H
set_option maxRecDepth 10000 in
theorem wX9_init_59 {g : zG} {I : Nat → Nat → Int32} {P : Nat → Nat → Option Nat} {r : Option Value} {h' : zH} {a0 : Nat} {x1 : Int32} {u : Nat} {v : Nat} (H : ((2 ≤ x1) → u ≤ 38 ∧ v ≤ 1270 ∧ r = none ∧ h' = (g, I, P)) ∧ ((¬ 2 ≤ x1) → zk g a0 9 ∧ ∃ b3, P a0 5 = some b3 ∧ u + 1 ≤ 38 ∧ v + 9 ≤ 1270 ∧ ∀ h6 : zH, h6 = (zNew (g, I, P) 3 0) → (u + 1) + 5 ≤ 38 ∧ (v + 9) + 96 ≤ 1270 ∧ ∃ (h8 : zH), Cl mX3_init [.ref ((g, I, P).1.1)] h6 none h8 ∧ zk h8.1 b3 16 ∧ zk h8.1 ((g, I, P).1.1) 3 ∧ vp_in x1 (h8.1.2.2 b3) ∧ ∀ h11 : zH, h11 = (h8.1, h8.2.1, zU h8.2.2 b3 x1.toNatClampNeg (some ((g, I, P).1.1))) → zk h11.1 a0 9 ∧ ∃ b13, h11.2.2 a0 6 = some b13 ∧ ((u + 1) + 5) + 1 ≤ 38 ∧ ((v + 9) + 96) + 4 ≤ 1270 ∧ ∀ h16 : zH, h16 = (zNew h11 0 0) → (((u + 1) + 5) + 1) + 3 ≤ 38 ∧ (((v + 9) + 96) + 4) + 120 ≤ 1270 ∧ ∃ (h18 : zH), Cl mX0_init [.ref h11.1.1] h16 none h18 ∧ zk h18.1 b13 15 ∧ zk h18.1 h11.1.1 0 ∧ vp_in x1 (h18.1.2.2 b13) ∧ ∀ h21 : zH, h21 = (h18.1, h18.2.1, zU h18.2.2 b13 x1.toNatClampNeg (some h11.1.1)) → zk h21.1 a0 9 ∧ ∃ b23, h21.2.2 a0 7 = some b23 ∧ ((((u + 1) + 5) + 1) + 3) + 1 ≤ 38 ∧ ((((v + 9) + 96) + 4) + 120) + 3 ≤ 1270 ∧ ∀ h26 : zH, h26 = (zNew h21 4 0) → (((((u + 1) + 5) + 1) + 3) + 1) + 2 ≤ 38 ∧ (((((v + 9) + 96) + 4) + 120) + 3) + 78 ≤ 1270 ∧ ∃ (h28 : zH), Cl mX4_init [.ref h21.1.1] h26 none h28 ∧ zk h28.1 b23 17 ∧ zk h28.1 h21.1.1 4 ∧ vp_in x1 (h28.1.2.2 b23) ∧ ∀ h31 : zH, h31 = (h28.1, h28.2.1, zU h28.2.2 b23 x1.toNatClampNeg (some h21.1.1)) → zk h31.1 a0 9 ∧ ∃ b33, h31.2.2 a0 8 = some b33 ∧ ((((((u + 1) + 5) + 1) + 3) + 1) + 2) + 1 ≤ 38 ∧ ((((((v + 9) + 96) + 4) + 120) + 3) + 78) + 3 ≤ 1270 ∧ ∀ h36 : zH, h36 = (zNew h31 5 0) → (((((((u + 1) + 5) + 1) + 3) + 1) + 2) + 1) + 2 ≤ 38 ∧ (((((((v + 9) + 96) + 4) + 120) + 3) + 78) + 3) + 16 ≤ 1270 ∧ ∃ (h38 : zH), Cl mX5_init [.ref h31.1.1] h36 none h38 ∧ zk h38.1 b33 18 ∧ zk h38.1 h31.1.1 5 ∧ vp_in x1 (h38.1.2.2 b33) ∧ ∀ h41 : zH, h41 = (h38.1, h38.2.1, zU h38.2.2 b33 x1.toNatClampNeg (some h31.1.1)) → Zt none mX9_init ((((((((u + 1) + 5) + 1) + 3) + 1) + 2) + 1) + 2) ((((((((v + 9) + 96) + 4) + 120) + 3) + 78) + 3) + 16) 59 [(0, .ref a0), (1, .int (x1 + 1))] [] h41 r h')) : Zt none mX9_init u v 59 [(0, .ref a0), (1, .int x1)] [] (g, I, P) r h' := by
  refine z_iload_n 1 dX9_init_59 rfl (z_iconst (w := 2) dX9_init_60 (by decide) ?_)
  refine z_icmp_ge (t := 122) dX9_init_61 (by decide) (fun q => ?_) (fun q => ?_)
  · have H1 := H.1 q
    obtain ⟨hu, hv, rfl, rfl⟩ := H1
    exact z_vret dX9_init_122 rfl hu hv
  · have H2 := H.2 q
    refine z_aload_n 0 dX9_init_64 rfl rfl ?_
    obtain ⟨oe5, b3, e5, H4⟩ := H2
    refine z_getP dX9_init_65 wf_X9_24 (by decide) (by decide) rfl oe5 (fun q => (by cases q.symm.trans e5)) (fun j q => ?_)
    cases q.symm.trans e5
    refine z_iload_n 1 dX9_init_68 rfl (z_new (c := 3) dX9_init_69 wc_X9_22 wn_3 wi_X3 (by decide) H4.1 H4.2.1 ?_)
    refine z_nh (fun h6 e_h6 => ?_)
    have H7 := H4.2.2 h6 e_h6
    refine z_dup dX9_init_72 rfl ?_
    obtain ⟨huc9, hvc9, h8, c9, H10⟩ := H7
    refine z_init (As := []) (st := [.ref ((g, I, P).1.1), .int x1, .ref b3]) (h1 := h8) dX9_init_73 kX3_init wm_X9_46 ⟨by decide, by decide⟩ rfl rfl (Nat.le_of_ble_eq_true rfl) huc9 hvc9 c9 ?_
    refine z_aast (g := h8.1) (I := h8.2.1) (Q := h8.2.2) (cv := 3) dX9_init_76 H10.1 (by decide) (by decide) rfl H10.2.1 H10.2.2.1 ?_
    refine z_nh (fun h11 e_h11 => ?_)
    have H12 := H10.2.2.2 h11 e_h11
    refine z_aload_n 0 dX9_init_77 rfl rfl ?_
    obtain ⟨oe15, b13, e15, H14⟩ := H12
    refine z_getP dX9_init_78 wf_X9_30 (by decide) (by decide) rfl oe15 (fun q => (by cases q.symm.trans e15)) (fun j q => ?_)
    cases q.symm.trans e15
    refine z_iload_n 1 dX9_init_81 rfl (z_new (c := 0) dX9_init_82 wc_X9_28 wn_0 wi_X0 (by decide) H14.1 H14.2.1 ?_)
    refine z_nh (fun h16 e_h16 => ?_)
    have H17 := H14.2.2 h16 e_h16
    refine z_dup dX9_init_85 rfl ?_
    obtain ⟨huc19, hvc19, h18, c19, H20⟩ := H17
    refine z_init (As := []) (st := [.ref h11.1.1, .int x1, .ref b13]) (h1 := h18) dX9_init_86 kX0_init wm_X9_47 ⟨by decide, by decide⟩ rfl rfl (Nat.le_of_ble_eq_true rfl) huc19 hvc19 c19 ?_
    refine z_aast (g := h18.1) (I := h18.2.1) (Q := h18.2.2) (cv := 0) dX9_init_89 H20.1 (by decide) (by decide) rfl H20.2.1 H20.2.2.1 ?_
    refine z_nh (fun h21 e_h21 => ?_)
    have H22 := H20.2.2.2 h21 e_h21
    refine z_aload_n 0 dX9_init_90 rfl rfl ?_
    obtain ⟨oe25, b23, e25, H24⟩ := H22
    refine z_getP dX9_init_91 wf_X9_36 (by decide) (by decide) rfl oe25 (fun q => (by cases q.symm.trans e25)) (fun j q => ?_)
    cases q.symm.trans e25
    refine z_iload_n 1 dX9_init_94 rfl (z_new (c := 4) dX9_init_95 wc_X9_34 wn_4 wi_X4 (by decide) H24.1 H24.2.1 ?_)
    refine z_nh (fun h26 e_h26 => ?_)
    have H27 := H24.2.2 h26 e_h26
    refine z_dup dX9_init_98 rfl ?_
    obtain ⟨huc29, hvc29, h28, c29, H30⟩ := H27
    refine z_init (As := []) (st := [.ref h21.1.1, .int x1, .ref b23]) (h1 := h28) dX9_init_99 kX4_init wm_X9_48 ⟨by decide, by decide⟩ rfl rfl (Nat.le_of_ble_eq_true rfl) huc29 hvc29 c29 ?_
    refine z_aast (g := h28.1) (I := h28.2.1) (Q := h28.2.2) (cv := 4) dX9_init_102 H30.1 (by decide) (by decide) rfl H30.2.1 H30.2.2.1 ?_
    refine z_nh (fun h31 e_h31 => ?_)
    have H32 := H30.2.2.2 h31 e_h31
    refine z_aload_n 0 dX9_init_103 rfl rfl ?_
    obtain ⟨oe35, b33, e35, H34⟩ := H32
    refine z_getP dX9_init_104 wf_X9_42 (by decide) (by decide) rfl oe35 (fun q => (by cases q.symm.trans e35)) (fun j q => ?_)
    cases q.symm.trans e35
    refine z_iload_n 1 dX9_init_107 rfl (z_new (c := 5) dX9_init_108 wc_X9_40 wn_5 wi_X5 (by decide) H34.1 H34.2.1 ?_)
    refine z_nh (fun h36 e_h36 => ?_)
    have H37 := H34.2.2 h36 e_h36
    refine z_dup dX9_init_111 rfl ?_
    obtain ⟨huc39, hvc39, h38, c39, H40⟩ := H37
    refine z_init (As := []) (st := [.ref h31.1.1, .int x1, .ref b33]) (h1 := h38) dX9_init_112 kX5_init wm_X9_49 ⟨by decide, by decide⟩ rfl rfl (Nat.le_of_ble_eq_true rfl) huc39 hvc39 c39 ?_
    refine z_aast (g := h38.1) (I := h38.2.1) (Q := h38.2.2) (cv := 5) dX9_init_115 H40.1 (by decide) (by decide) rfl H40.2.1 H40.2.2.1 ?_
    refine z_nh (fun h41 e_h41 => ?_)
    have H42 := H40.2.2.2 h41 e_h41
    refine z_iinc (y := x1 + 1) (lv' := [(1, .int (x1 + 1)), (0, .ref a0)]) 1 dX9_init_116 rfl rfl (by decide) rfl (z_goto (t := 59) dX9_init_119 (by decide) ?_)
    exact z_less [1, 0] rfl H42
theorem dX10_init_0 : decode cX10_init 0 = .ok (.aload_n 0, 1) := by decide +kernel
theorem dX10_init_1 : decode cX10_init 1 = .ok (.invokespecial 3, 3) := by decide +kernel
theorem dX10_init_4 : decode cX10_init 4 = .ok (.aload_n 0, 1) := by decide +kernel
theorem dX10_init_5 : decode cX10_init 5 = .ok (.bipush 10, 2) := by decide +kernel
theorem dX10_init_7 : decode cX10_init 7 = .ok (.newarray .int, 2) := by decide +kernel
theorem dX10_init_9 : decode cX10_init 9 = .ok (.putfield 9, 3) := by decide +kernel
theorem dX10_init_12 : decode cX10_init 12 = .ok (.aload_n 0, 1) := by decide +kernel
theorem dX10_init_13 : decode cX10_init 13 = .ok (.bipush 10, 2) := by decide +kernel
theorem dX10_init_15 : decode cX10_init 15 = .ok (.newarray .int, 2) := by decide +kernel
theorem dX10_init_17 : decode cX10_init 17 = .ok (.putfield 15, 3) := by decide +kernel
theorem dX10_init_20 : decode cX10_init 20 = .ok (.aload_n 0, 1) := by decide +kernel
theorem dX10_init_21 : decode cX10_init 21 = .ok (.sipush 1024, 3) := by decide +kernel
theorem dX10_init_24 : decode cX10_init 24 = .ok (.newarray .int, 2) := by decide +kernel
theorem dX10_init_26 : decode cX10_init 26 = .ok (.putfield 18, 3) := by decide +kernel
theorem dX10_init_29 : decode cX10_init 29 = .ok (.aload_n 0, 1) := by decide +kernel
theorem dX10_init_30 : decode cX10_init 30 = .ok (.sipush 600, 3) := by decide +kernel
theorem dX10_init_33 : decode cX10_init 33 = .ok (.newarray .int, 2) := by decide +kernel
theorem dX10_init_35 : decode cX10_init 35 = .ok (.putfield 21, 3) := by decide +kernel
theorem dX10_init_38 : decode cX10_init 38 = .ok (.return_, 1) := by decide +kernel
set_option maxRecDepth 10000 in
theorem wX10_init_0 {g : zG} {I : Nat → Nat → Int32} {P : Nat → Nat → Option Nat} {r : Option Value} {h' : zH} {a0 : Nat} (H : ∀ h1 : zH, h1 = (zNew (g, I, P) 13 10) → zk h1.1 a0 10 ∧ ∀ h3 : zH, h3 = (h1.1, h1.2.1, zU h1.2.2 a0 0 (some ((g, I, P).1.1))) → ∀ h5 : zH, h5 = (zNew h3 13 10) → zk h5.1 a0 10 ∧ ∀ h7 : zH, h7 = (h5.1, h5.2.1, zU h5.2.2 a0 1 (some h3.1.1)) → ∀ h9 : zH, h9 = (zNew h7 13 1024) → zk h9.1 a0 10 ∧ ∀ h11 : zH, h11 = (h9.1, h9.2.1, zU h9.2.2 a0 2 (some h7.1.1)) → ∀ h13 : zH, h13 = (zNew h11 13 600) → zk h13.1 a0 10 ∧ ∀ h15 : zH, h15 = (h13.1, h13.2.1, zU h13.2.2 a0 3 (some h11.1.1)) → r = none ∧ h' = h15) : Zt none mX10_init 0 0 0 [(0, .ref a0)] [] (g, I, P) r h' := by
  refine z_aload_n 0 dX10_init_0 rfl rfl (z_objInit dX10_init_1 wm_X10_3 w_objI w_objC (by decide) (Nat.le_of_ble_eq_true rfl) (z_aload_n 0 dX10_init_4 rfl rfl (z_bipush (w := 10) dX10_init_5 (by decide) (z_newI (N := 10) dX10_init_7 w_arrI (by decide) (by decide) (by decide) (by decide) (by decide) ?_))))
  refine z_nh (fun h1 e_h1 => ?_)
  have H2 := H h1 e_h1
  refine z_putP (g := h1.1) (I := h1.2.1) (Q := h1.2.2) dX10_init_9 wf_X10_9 (by decide) (by decide) rfl (Or.inr ⟨rfl, rfl⟩) H2.1 ?_
  refine z_nh (fun h3 e_h3 => ?_)
  have H4 := H2.2 h3 e_h3
  refine z_aload_n 0 dX10_init_12 rfl rfl (z_bipush (w := 10) dX10_init_13 (by decide) (z_newI (N := 10) dX10_init_15 w_arrI (by decide) (by decide) (by decide) (by decide) (by decide) ?_))
  refine z_nh (fun h5 e_h5 => ?_)
  have H6 := H4 h5 e_h5
  refine z_putP (g := h5.1) (I := h5.2.1) (Q := h5.2.2) dX10_init_17 wf_X10_15 (by decide) (by decide) rfl (Or.inr ⟨rfl, rfl⟩) H6.1 ?_
  refine z_nh (fun h7 e_h7 => ?_)
  have H8 := H6.2 h7 e_h7
  refine z_aload_n 0 dX10_init_20 rfl rfl (z_sipush (w := 1024) dX10_init_21 (by decide) (z_newI (N := 1024) dX10_init_24 w_arrI (by decide) (by decide) (by decide) (by decide) (by decide) ?_))
  refine z_nh (fun h9 e_h9 => ?_)
  have H10 := H8 h9 e_h9
  refine z_putP (g := h9.1) (I := h9.2.1) (Q := h9.2.2) dX10_init_26 wf_X10_18 (by decide) (by decide) rfl (Or.inr ⟨rfl, rfl⟩) H10.1 ?_
  refine z_nh (fun h11 e_h11 => ?_)
  have H12 := H10.2 h11 e_h11
  refine z_aload_n 0 dX10_init_29 rfl rfl (z_sipush (w := 600) dX10_init_30 (by decide) (z_newI (N := 600) dX10_init_33 w_arrI (by decide) (by decide) (by decide) (by decide) (by decide) ?_))
  refine z_nh (fun h13 e_h13 => ?_)
  have H14 := H12 h13 e_h13
  refine z_putP (g := h13.1) (I := h13.2.1) (Q := h13.2.2) dX10_init_35 wf_X10_21 (by decide) (by decide) rfl (Or.inr ⟨rfl, rfl⟩) H14.1 ?_
  refine z_nh (fun h15 e_h15 => ?_)
  have H16 := H14.2 h15 e_h15
  obtain ⟨rfl, rfl⟩ := H16
  exact z_vret dX10_init_38 rfl (by decide) (by decide)
theorem eX10_init {g : zG} {I : Nat → Nat → Int32} {P : Nat → Nat → Option Nat} {r : Option Value} {h' : zH} {a0 : Nat} (H : Zt none mX10_init 0 0 0 [(0, .ref a0)] [] (g, I, P) r h') : Cl mX10_init [.ref a0] (g, I, P) r h' := Cl.of (by decide) (Nat.le_of_ble_eq_true rfl) H
theorem dX11_init_0 : decode cX11_init 0 = .ok (.aload_n 0, 1) := by decide +kernel
theorem dX11_init_1 : decode cX11_init 1 = .ok (.invokespecial 1, 3) := by decide +kernel
theorem dX11_init_4 : decode cX11_init 4 = .ok (.aload_n 0, 1) := by decide +kernel
theorem dX11_init_5 : decode cX11_init 5 = .ok (.new 7, 3) := by decide +kernel
theorem dX11_init_8 : decode cX11_init 8 = .ok (.dup, 1) := by decide +kernel
theorem dX11_init_9 : decode cX11_init 9 = .ok (.invokespecial 9, 3) := by decide +kernel
theorem dX11_init_12 : decode cX11_init 12 = .ok (.putfield 10, 3) := by decide +kernel
theorem dX11_init_15 : decode cX11_init 15 = .ok (.aload_n 0, 1) := by decide +kernel
theorem dX11_init_16 : decode cX11_init 16 = .ok (.iconst 3, 1) := by decide +kernel
theorem dX11_init_17 : decode cX11_init 17 = .ok (.anewarray 7, 3) := by decide +kernel
theorem dX11_init_20 : decode cX11_init 20 = .ok (.putfield 16, 3) := by decide +kernel
theorem dX11_init_23 : decode cX11_init 23 = .ok (.aload_n 0, 1) := by decide +kernel
theorem dX11_init_24 : decode cX11_init 24 = .ok (.new 20, 3) := by decide +kernel
theorem dX11_init_27 : decode cX11_init 27 = .ok (.dup, 1) := by decide +kernel
theorem dX11_init_28 : decode cX11_init 28 = .ok (.invokespecial 22, 3) := by decide +kernel
theorem dX11_init_31 : decode cX11_init 31 = .ok (.putfield 23, 3) := by decide +kernel
theorem dX11_init_34 : decode cX11_init 34 = .ok (.aload_n 0, 1) := by decide +kernel
theorem dX11_init_35 : decode cX11_init 35 = .ok (.new 27, 3) := by decide +kernel
theorem dX11_init_38 : decode cX11_init 38 = .ok (.dup, 1) := by decide +kernel
theorem dX11_init_39 : decode cX11_init 39 = .ok (.invokespecial 29, 3) := by decide +kernel
theorem dX11_init_42 : decode cX11_init 42 = .ok (.putfield 30, 3) := by decide +kernel
theorem dX11_init_45 : decode cX11_init 45 = .ok (.aload_n 0, 1) := by decide +kernel
theorem dX11_init_46 : decode cX11_init 46 = .ok (.new 34, 3) := by decide +kernel
theorem dX11_init_49 : decode cX11_init 49 = .ok (.dup, 1) := by decide +kernel
theorem dX11_init_50 : decode cX11_init 50 = .ok (.invokespecial 36, 3) := by decide +kernel
theorem dX11_init_53 : decode cX11_init 53 = .ok (.putfield 37, 3) := by decide +kernel
theorem dX11_init_56 : decode cX11_init 56 = .ok (.aload_n 0, 1) := by decide +kernel
theorem dX11_init_57 : decode cX11_init 57 = .ok (.new 41, 3) := by decide +kernel
theorem dX11_init_60 : decode cX11_init 60 = .ok (.dup, 1) := by decide +kernel
theorem dX11_init_61 : decode cX11_init 61 = .ok (.invokespecial 43, 3) := by decide +kernel
theorem dX11_init_64 : decode cX11_init 64 = .ok (.putfield 44, 3) := by decide +kernel
theorem dX11_init_67 : decode cX11_init 67 = .ok (.aload_n 0, 1) := by decide +kernel
theorem dX11_init_68 : decode cX11_init 68 = .ok (.new 48, 3) := by decide +kernel
theorem dX11_init_71 : decode cX11_init 71 = .ok (.dup, 1) := by decide +kernel
theorem dX11_init_72 : decode cX11_init 72 = .ok (.invokespecial 50, 3) := by decide +kernel
theorem dX11_init_75 : decode cX11_init 75 = .ok (.putfield 51, 3) := by decide +kernel
theorem dX11_init_78 : decode cX11_init 78 = .ok (.return_, 1) := by decide +kernel
set_option maxRecDepth 10000 in
theorem wX11_init_0 {g : zG} {I : Nat → Nat → Int32} {P : Nat → Nat → Option Nat} {r : Option Value} {h' : zH} {a0 : Nat} (H : ∀ h1 : zH, h1 = (zNew (g, I, P) 9 0) → ∃ (h3 : zH), Cl mX9_init [.ref ((g, I, P).1.1)] h1 none h3 ∧ zk h3.1 a0 11 ∧ ∀ h6 : zH, h6 = (h3.1, h3.2.1, zU h3.2.2 a0 0 (some ((g, I, P).1.1))) → ∀ h8 : zH, h8 = (zNew h6 19 3) → zk h8.1 a0 11 ∧ ∀ h10 : zH, h10 = (h8.1, h8.2.1, zU h8.2.2 a0 1 (some h6.1.1)) → ∀ h12 : zH, h12 = (zNew h10 6 0) → ∃ (h14 : zH), Cl mX6_init [.ref h10.1.1] h12 none h14 ∧ zk h14.1 a0 11 ∧ ∀ h17 : zH, h17 = (h14.1, h14.2.1, zU h14.2.2 a0 2 (some h10.1.1)) → ∀ h19 : zH, h19 = (zNew h17 2 0) → ∃ (h21 : zH), Cl mX2_init [.ref h17.1.1] h19 none h21 ∧ zk h21.1 a0 11 ∧ ∀ h24 : zH, h24 = (h21.1, h21.2.1, zU h21.2.2 a0 3 (some h17.1.1)) → ∀ h26 : zH, h26 = (zNew h24 1 0) → ∃ (h28 : zH), Cl mX1_init [.ref h24.1.1] h26 none h28 ∧ zk h28.1 a0 11 ∧ ∀ h31 : zH, h31 = (h28.1, h28.2.1, zU h28.2.2 a0 4 (some h24.1.1)) → ∀ h33 : zH, h33 = (zNew h31 10 0) → ∃ (h35 : zH), Cl mX10_init [.ref h31.1.1] h33 none h35 ∧ zk h35.1 a0 11 ∧ ∀ h38 : zH, h38 = (h35.1, h35.2.1, zU h35.2.2 a0 5 (some h31.1.1)) → ∀ h40 : zH, h40 = (zNew h38 7 0) → ∃ (h42 : zH), Cl mX7_init [.ref h38.1.1] h40 none h42 ∧ zk h42.1 a0 11 ∧ ∀ h45 : zH, h45 = (h42.1, h42.2.1, zU h42.2.2 a0 6 (some h38.1.1)) → r = none ∧ h' = h45) : Zt none mX11_init 0 0 0 [(0, .ref a0)] [] (g, I, P) r h' := by
  refine z_aload_n 0 dX11_init_0 rfl rfl (z_objInit dX11_init_1 wm_X11_1 w_objI w_objC (by decide) (Nat.le_of_ble_eq_true rfl) (z_aload_n 0 dX11_init_4 rfl rfl (z_new (c := 9) dX11_init_5 wc_X11_7 wn_9 wi_X9 (by decide) (by decide) (by decide) ?_)))
  refine z_nh (fun h1 e_h1 => ?_)
  have H2 := H h1 e_h1
  refine z_dup dX11_init_8 rfl ?_
  obtain ⟨h3, c4, H5⟩ := H2
  refine z_init (As := []) (st := [.ref ((g, I, P).1.1), .ref a0]) (h1 := h3) dX11_init_9 kX9_init wm_X11_9 ⟨by decide, by decide⟩ rfl rfl (Nat.le_of_ble_eq_true rfl) (by decide) (by decide) c4 ?_
  refine z_putP (g := h3.1) (I := h3.2.1) (Q := h3.2.2) dX11_init_12 wf_X11_10 (by decide) (by decide) rfl (Or.inr ⟨rfl, rfl⟩) H5.1 ?_
  refine z_nh (fun h6 e_h6 => ?_)
  have H7 := H5.2 h6 e_h6
  refine z_aload_n 0 dX11_init_15 rfl rfl (z_iconst (w := 3) dX11_init_16 (by decide) (z_anew (N := 3) (t := 19) dX11_init_17 wc_X11_7 (by decide) rfl (by decide) (by decide) (by decide) (by decide) (by decide) (by decide) ?_))
  refine z_nh (fun h8 e_h8 => ?_)
  have H9 := H7 h8 e_h8
  refine z_putP (g := h8.1) (I := h8.2.1) (Q := h8.2.2) dX11_init_20 wf_X11_16 (by decide) (by decide) rfl (Or.inr ⟨rfl, rfl⟩) H9.1 ?_
  refine z_nh (fun h10 e_h10 => ?_)
  have H11 := H9.2 h10 e_h10
  refine z_aload_n 0 dX11_init_23 rfl rfl (z_new (c := 6) dX11_init_24 wc_X11_20 wn_6 wi_X6 (by decide) (by decide) (by decide) ?_)
  refine z_nh (fun h12 e_h12 => ?_)
  have H13 := H11 h12 e_h12
  refine z_dup dX11_init_27 rfl ?_
  obtain ⟨h14, c15, H16⟩ := H13
  refine z_init (As := []) (st := [.ref h10.1.1, .ref a0]) (h1 := h14) dX11_init_28 kX6_init wm_X11_22 ⟨by decide, by decide⟩ rfl rfl (Nat.le_of_ble_eq_true rfl) (by decide) (by decide) c15 ?_
  refine z_putP (g := h14.1) (I := h14.2.1) (Q := h14.2.2) dX11_init_31 wf_X11_23 (by decide) (by decide) rfl (Or.inr ⟨rfl, rfl⟩) H16.1 ?_
  refine z_nh (fun h17 e_h17 => ?_)
  have H18 := H16.2 h17 e_h17
  refine z_aload_n 0 dX11_init_34 rfl rfl (z_new (c := 2) dX11_init_35 wc_X11_27 wn_2 wi_X2 (by decide) (by decide) (by decide) ?_)
  refine z_nh (fun h19 e_h19 => ?_)
  have H20 := H18 h19 e_h19
  refine z_dup dX11_init_38 rfl ?_
  obtain ⟨h21, c22, H23⟩ := H20
  refine z_init (As := []) (st := [.ref h17.1.1, .ref a0]) (h1 := h21) dX11_init_39 kX2_init wm_X11_29 ⟨by decide, by decide⟩ rfl rfl (Nat.le_of_ble_eq_true rfl) (by decide) (by decide) c22 ?_
  refine z_putP (g := h21.1) (I := h21.2.1) (Q := h21.2.2) dX11_init_42 wf_X11_30 (by decide) (by decide) rfl (Or.inr ⟨rfl, rfl⟩) H23.1 ?_
  refine z_nh (fun h24 e_h24 => ?_)
  have H25 := H23.2 h24 e_h24
  refine z_aload_n 0 dX11_init_45 rfl rfl (z_new (c := 1) dX11_init_46 wc_X11_34 wn_1 wi_X1 (by decide) (by decide) (by decide) ?_)
  refine z_nh (fun h26 e_h26 => ?_)
  have H27 := H25 h26 e_h26
  refine z_dup dX11_init_49 rfl ?_
  obtain ⟨h28, c29, H30⟩ := H27
  refine z_init (As := []) (st := [.ref h24.1.1, .ref a0]) (h1 := h28) dX11_init_50 kX1_init wm_X11_36 ⟨by decide, by decide⟩ rfl rfl (Nat.le_of_ble_eq_true rfl) (by decide) (by decide) c29 ?_
  refine z_putP (g := h28.1) (I := h28.2.1) (Q := h28.2.2) dX11_init_53 wf_X11_37 (by decide) (by decide) rfl (Or.inr ⟨rfl, rfl⟩) H30.1 ?_
  refine z_nh (fun h31 e_h31 => ?_)
  have H32 := H30.2 h31 e_h31
  refine z_aload_n 0 dX11_init_56 rfl rfl (z_new (c := 10) dX11_init_57 wc_X11_41 wn_10 wi_X10 (by decide) (by decide) (by decide) ?_)
  refine z_nh (fun h33 e_h33 => ?_)
  have H34 := H32 h33 e_h33
  refine z_dup dX11_init_60 rfl ?_
  obtain ⟨h35, c36, H37⟩ := H34
  refine z_init (As := []) (st := [.ref h31.1.1, .ref a0]) (h1 := h35) dX11_init_61 kX10_init wm_X11_43 ⟨by decide, by decide⟩ rfl rfl (Nat.le_of_ble_eq_true rfl) (by decide) (by decide) c36 ?_
  refine z_putP (g := h35.1) (I := h35.2.1) (Q := h35.2.2) dX11_init_64 wf_X11_44 (by decide) (by decide) rfl (Or.inr ⟨rfl, rfl⟩) H37.1 ?_
  refine z_nh (fun h38 e_h38 => ?_)
  have H39 := H37.2 h38 e_h38
  refine z_aload_n 0 dX11_init_67 rfl rfl (z_new (c := 7) dX11_init_68 wc_X11_48 wn_7 wi_X7 (by decide) (by decide) (by decide) ?_)
  refine z_nh (fun h40 e_h40 => ?_)
  have H41 := H39 h40 e_h40
  refine z_dup dX11_init_71 rfl ?_
  obtain ⟨h42, c43, H44⟩ := H41
  refine z_init (As := []) (st := [.ref h38.1.1, .ref a0]) (h1 := h42) dX11_init_72 kX7_init wm_X11_50 ⟨by decide, by decide⟩ rfl rfl (Nat.le_of_ble_eq_true rfl) (by decide) (by decide) c43 ?_
  refine z_putP (g := h42.1) (I := h42.2.1) (Q := h42.2.2) dX11_init_75 wf_X11_51 (by decide) (by decide) rfl (Or.inr ⟨rfl, rfl⟩) H44.1 ?_
  refine z_nh (fun h45 e_h45 => ?_)
  have H46 := H44.2 h45 e_h45
  obtain ⟨rfl, rfl⟩ := H46
  exact z_vret dX11_init_78 rfl (by decide) (by decide)
theorem eX11_init {g : zG} {I : Nat → Nat → Int32} {P : Nat → Nat → Option Nat} {r : Option Value} {h' : zH} {a0 : Nat} (H : Zt none mX11_init 0 0 0 [(0, .ref a0)] [] (g, I, P) r h') : Cl mX11_init [.ref a0] (g, I, P) r h' := Cl.of (by decide) (Nat.le_of_ble_eq_true rfl) H
theorem dX11_image_0 : decode cX11_image 0 = .ok (.iload_n 1, 1) := by decide +kernel
theorem dX11_image_1 : decode cX11_image 1 = .ok (.ifCond .lt 12, 3) := by decide +kernel
theorem dX11_image_4 : decode cX11_image 4 = .ok (.iload_n 1, 1) := by decide +kernel
theorem dX11_image_5 : decode cX11_image 5 = .ok (.aload_n 0, 1) := by decide +kernel
theorem dX11_image_6 : decode cX11_image 6 = .ok (.getfield 16, 3) := by decide +kernel
theorem dX11_image_9 : decode cX11_image 9 = .ok (.arraylength, 1) := by decide +kernel
theorem dX11_image_10 : decode cX11_image 10 = .ok (.if_icmp .lt 5, 3) := by decide +kernel
theorem dX11_image_13 : decode cX11_image 13 = .ok (.iconst 0, 1) := by decide +kernel
theorem dX11_image_14 : decode cX11_image 14 = .ok (.ireturn, 1) := by decide +kernel
theorem dX11_image_15 : decode cX11_image 15 = .ok (.aload_n 0, 1) := by decide +kernel
theorem dX11_image_16 : decode cX11_image 16 = .ok (.getfield 16, 3) := by decide +kernel
theorem dX11_image_19 : decode cX11_image 19 = .ok (.iload_n 1, 1) := by decide +kernel
theorem dX11_image_20 : decode cX11_image 20 = .ok (.aaload, 1) := by decide +kernel
theorem dX11_image_21 : decode cX11_image 21 = .ok (.astore_n 2, 1) := by decide +kernel
theorem dX11_image_22 : decode cX11_image 22 = .ok (.aload_n 2, 1) := by decide +kernel
theorem dX11_image_23 : decode cX11_image 23 = .ok (.ifnonnull 18, 3) := by decide +kernel
theorem dX11_image_26 : decode cX11_image 26 = .ok (.new 7, 3) := by decide +kernel
theorem dX11_image_29 : decode cX11_image 29 = .ok (.dup, 1) := by decide +kernel
theorem dX11_image_30 : decode cX11_image 30 = .ok (.invokespecial 9, 3) := by decide +kernel
theorem dX11_image_33 : decode cX11_image 33 = .ok (.astore_n 2, 1) := by decide +kernel
theorem dX11_image_34 : decode cX11_image 34 = .ok (.aload_n 0, 1) := by decide +kernel
theorem dX11_image_35 : decode cX11_image 35 = .ok (.getfield 16, 3) := by decide +kernel
theorem dX11_image_38 : decode cX11_image 38 = .ok (.iload_n 1, 1) := by decide +kernel
theorem dX11_image_39 : decode cX11_image 39 = .ok (.aload_n 2, 1) := by decide +kernel
theorem dX11_image_40 : decode cX11_image 40 = .ok (.aastore, 1) := by decide +kernel
theorem dX11_image_41 : decode cX11_image 41 = .ok (.aload_n 2, 1) := by decide +kernel
theorem dX11_image_42 : decode cX11_image 42 = .ok (.aload_n 0, 1) := by decide +kernel
theorem dX11_image_43 : decode cX11_image 43 = .ok (.getfield 10, 3) := by decide +kernel
theorem dX11_image_46 : decode cX11_image 46 = .ok (.invokevirtual 273, 3) := by decide +kernel
theorem dX11_image_49 : decode cX11_image 49 = .ok (.iconst 1, 1) := by decide +kernel
theorem dX11_image_50 : decode cX11_image 50 = .ok (.ireturn, 1) := by decide +kernel
set_option maxRecDepth 10000 in
theorem wX11_image_0 {g : zG} {I : Nat → Nat → Int32} {P : Nat → Nat → Option Nat} {r : Option Value} {h' : zH} {a0 : Nat} {x1 : Int32} (H : ((x1 < 0) → r = some (.int 0) ∧ h' = (g, I, P)) ∧ ((¬ x1 < 0) → zk g a0 11 ∧ ∃ b3, P a0 1 = some b3 ∧ zk g b3 19 ∧ ((x1 < Int32.ofNat (g.2.2 b3)) → zk g a0 11 ∧ ∃ b7, P a0 1 = some b7 ∧ zk g b7 19 ∧ vp_in x1 (g.2.2 b7) ∧ ((P b7 x1.toNatClampNeg = none) → ∀ h12 : zH, h12 = (zNew (g, I, P) 9 0) → ∃ (h14 : zH), Cl mX9_init [.ref ((g, I, P).1.1)] h12 none h14 ∧ zk h14.1 a0 11 ∧ ∃ b17, h14.2.2 a0 1 = some b17 ∧ zk h14.1 b17 19 ∧ zk h14.1 ((g, I, P).1.1) 9 ∧ vp_in x1 (h14.1.2.2 b17) ∧ ∀ h20 : zH, h20 = (h14.1, h14.2.1, zU h14.2.2 b17 x1.toNatClampNeg (some ((g, I, P).1.1))) → zk h20.1 a0 11 ∧ ∃ b22, h20.2.2 a0 0 = some b22 ∧ zk h20.1 ((g, I, P).1.1) 9 ∧ ∃ (I25 : Nat → Nat → Int32), Cl mX9_copy [.ref ((g, I, P).1.1), .ref b22] h20 none (h20.1, I25, h20.2.2) ∧ r = some (.int 1) ∧ h' = (h20.1, I25, h20.2.2)) ∧ (∀ b10, P b7 x1.toNatClampNeg = some b10 → zk g a0 11 ∧ ∃ b29, P a0 0 = some b29 ∧ zk g b10 9 ∧ ∃ (I32 : Nat → Nat → Int32), Cl mX9_copy [.ref b10, .ref b29] (g, I, P) none (g, I32, P) ∧ r = some (.int 1) ∧ h' = (g, I32, P))) ∧ ((¬ x1 < Int32.ofNat (g.2.2 b3)) → r = some (.int 0) ∧ h' = (g, I, P)))) : Zt none mX11_image 0 0 0 [(0, .ref a0), (1, .int x1)] [] (g, I, P) r h' := by
  refine z_iload_n 1 dX11_image_0 rfl ?_
  refine z_if_lt (t := 13) dX11_image_1 (by decide) (fun q => ?_) (fun q => ?_)
  · have H1 := H.1 q
    refine z_iconst (w := 0) dX11_image_13 (by decide) ?_
    obtain ⟨rfl, rfl⟩ := H1
    exact z_zret dX11_image_14 rfl (Or.inl rfl) (by decide) (by decide)
  · have H2 := H.2 q
    refine z_iload_n 1 dX11_image_4 rfl (z_aload_n 0 dX11_image_5 rfl rfl ?_)
    obtain ⟨oe5, b3, e5, H4⟩ := H2
    refine z_getP dX11_image_6 wf_X11_16 (by decide) (by decide) rfl oe5 (fun q => (by cases q.symm.trans e5)) (fun j q => ?_)
    cases q.symm.trans e5
    refine z_alen dX11_image_9 H4.1 (by decide) (by decide) ?_
    refine z_icmp_lt (t := 15) dX11_image_10 (by decide) (fun q => ?_) (fun q => ?_)
    · have H6 := H4.2.1 q
      refine z_aload_n 0 dX11_image_15 rfl rfl ?_
      obtain ⟨oe9, b7, e9, H8⟩ := H6
      refine z_getP dX11_image_16 wf_X11_16 (by decide) (by decide) rfl oe9 (fun q => (by cases q.symm.trans e9)) (fun j q => ?_)
      cases q.symm.trans e9
      refine z_iload_n 1 dX11_image_19 rfl ?_
      refine z_aald dX11_image_20 H8.1 (by decide) (by decide) H8.2.1 (fun q => ?_) (fun b10 q => ?_)
      · have H11 := H8.2.2.1 q
        refine z_astore_n (lv' := [(2, .null), (0, .ref a0), (1, .int x1)]) dX11_image_21 (by decide) rfl rfl (z_aload_n 0 dX11_image_22 rfl rfl (z_ifnonnullN dX11_image_23 (z_new (c := 9) dX11_image_26 wc_X11_7 wn_9 wi_X9 (by decide) (by decide) (by decide) ?_)))
        refine z_nh (fun h12 e_h12 => ?_)
        have H13 := H11 h12 e_h12
        refine z_dup dX11_image_29 rfl ?_
        obtain ⟨h14, c15, H16⟩ := H13
        refine z_init (As := []) (st := [.ref ((g, I, P).1.1)]) (h1 := h14) dX11_image_30 kX9_init wm_X11_9 ⟨by decide, by decide⟩ rfl rfl (Nat.le_of_ble_eq_true rfl) (by decide) (by decide) c15 ?_
        refine z_astore_n (lv' := [(2, .ref ((g, I, P).1.1)), (0, .ref a0), (1, .int x1)]) dX11_image_33 (by decide) rfl rfl (z_aload_n 1 dX11_image_34 rfl rfl ?_)
        obtain ⟨oe19, b17, e19, H18⟩ := H16
        refine z_getP dX11_image_35 wf_X11_16 (by decide) (by decide) rfl oe19 (fun q => (by cases q.symm.trans e19)) (fun j q => ?_)
        cases q.symm.trans e19
        refine z_iload_n 2 dX11_image_38 rfl (z_aload_n 0 dX11_image_39 rfl rfl (z_aast (g := h14.1) (I := h14.2.1) (Q := h14.2.2) (cv := 9) dX11_image_40 H18.1 (by decide) (by decide) rfl H18.2.1 H18.2.2.1 ?_))
        refine z_nh (fun h20 e_h20 => ?_)
        have H21 := H18.2.2.2 h20 e_h20
        refine z_aload_n 0 dX11_image_41 rfl rfl (z_aload_n 1 dX11_image_42 rfl rfl ?_)
        obtain ⟨oe24, b22, e24, H23⟩ := H21
        refine z_getP dX11_image_43 wf_X11_10 (by decide) (by decide) rfl oe24 (fun q => (by cases q.symm.trans e24)) (fun j q => ?_)
        cases q.symm.trans e24
        obtain ⟨oc26, I25, c26, H27⟩ := H23
        refine z_virt (As := [.ref b22]) (st := []) (r1 := none) (h1 := (h20.1, I25, h20.2.2)) dX11_image_46 kX9_copy wm_X11_273 ⟨by decide, by decide⟩ rfl rfl (Nat.le_of_ble_eq_true rfl) (by decide) (by decide) oc26 c26 ?_
        refine z_iconst (w := 1) dX11_image_49 (by decide) ?_
        obtain ⟨rfl, rfl⟩ := H27
        exact z_zret dX11_image_50 rfl (Or.inr rfl) (by decide) (by decide)
      · have H28 := H8.2.2.2 b10 q
        refine z_astore_n (lv' := [(2, .ref b10), (0, .ref a0), (1, .int x1)]) dX11_image_21 (by decide) rfl rfl (z_aload_n 0 dX11_image_22 rfl rfl (z_ifnonnullR (t := 41) dX11_image_23 (by decide) (z_aload_n 0 dX11_image_41 rfl rfl (z_aload_n 1 dX11_image_42 rfl rfl ?_))))
        obtain ⟨oe31, b29, e31, H30⟩ := H28
        refine z_getP dX11_image_43 wf_X11_10 (by decide) (by decide) rfl oe31 (fun q => (by cases q.symm.trans e31)) (fun j q => ?_)
        cases q.symm.trans e31
        obtain ⟨oc33, I32, c33, H34⟩ := H30
        refine z_virt (As := [.ref b29]) (st := []) (r1 := none) (h1 := (g, I32, P)) dX11_image_46 kX9_copy wm_X11_273 ⟨by decide, by decide⟩ rfl rfl (Nat.le_of_ble_eq_true rfl) (by decide) (by decide) oc33 c33 ?_
        refine z_iconst (w := 1) dX11_image_49 (by decide) ?_
        obtain ⟨rfl, rfl⟩ := H34
        exact z_zret dX11_image_50 rfl (Or.inr rfl) (by decide) (by decide)
    · have H35 := H4.2.2 q
      refine z_iconst (w := 0) dX11_image_13 (by decide) ?_
      obtain ⟨rfl, rfl⟩ := H35
      exact z_zret dX11_image_14 rfl (Or.inl rfl) (by decide) (by decide)
theorem eX11_image {g : zG} {I : Nat → Nat → Int32} {P : Nat → Nat → Option Nat} {r : Option Value} {h' : zH} {a0 : Nat} {x1 : Int32} (H : Zt none mX11_image 0 0 0 [(0, .ref a0), (1, .int x1)] [] (g, I, P) r h') : Cl mX11_image [.ref a0, .int x1] (g, I, P) r h' := Cl.of (by decide) (Nat.le_of_ble_eq_true rfl) H
theorem dX12_init_0 : decode cX12_init 0 = .ok (.aload_n 0, 1) := by decide +kernel
theorem dX12_init_1 : decode cX12_init 1 = .ok (.invokespecial 1, 3) := by decide +kernel
theorem dX12_init_4 : decode cX12_init 4 = .ok (.aload_n 0, 1) := by decide +kernel
theorem dX12_init_5 : decode cX12_init 5 = .ok (.sipush 4968, 3) := by decide +kernel
theorem dX12_init_8 : decode cX12_init 8 = .ok (.newarray .int, 2) := by decide +kernel
theorem dX12_init_10 : decode cX12_init 10 = .ok (.putfield 7, 3) := by decide +kernel
theorem dX12_init_13 : decode cX12_init 13 = .ok (.aload_n 0, 1) := by decide +kernel
theorem dX12_init_14 : decode cX12_init 14 = .ok (.iconst 3, 1) := by decide +kernel
theorem dX12_init_15 : decode cX12_init 15 = .ok (.newarray .boolean, 2) := by decide +kernel
theorem dX12_init_17 : decode cX12_init 17 = .ok (.putfield 13, 3) := by decide +kernel
theorem dX12_init_20 : decode cX12_init 20 = .ok (.aload_n 0, 1) := by decide +kernel
theorem dX12_init_21 : decode cX12_init 21 = .ok (.bipush 121, 2) := by decide +kernel
theorem dX12_init_23 : decode cX12_init 23 = .ok (.newarray .int, 2) := by decide +kernel
theorem dX12_init_25 : decode cX12_init 25 = .ok (.putfield 17, 3) := by decide +kernel
theorem dX12_init_28 : decode cX12_init 28 = .ok (.aload_n 0, 1) := by decide +kernel
theorem dX12_init_29 : decode cX12_init 29 = .ok (.bipush 12, 2) := by decide +kernel
theorem dX12_init_31 : decode cX12_init 31 = .ok (.newarray .int, 2) := by decide +kernel
theorem dX12_init_33 : decode cX12_init 33 = .ok (.putfield 20, 3) := by decide +kernel
theorem dX12_init_36 : decode cX12_init 36 = .ok (.aload_n 0, 1) := by decide +kernel
theorem dX12_init_37 : decode cX12_init 37 = .ok (.bipush 48, 2) := by decide +kernel
theorem dX12_init_39 : decode cX12_init 39 = .ok (.newarray .int, 2) := by decide +kernel
theorem dX12_init_41 : decode cX12_init 41 = .ok (.putfield 23, 3) := by decide +kernel
theorem dX12_init_44 : decode cX12_init 44 = .ok (.aload_n 0, 1) := by decide +kernel
theorem dX12_init_45 : decode cX12_init 45 = .ok (.bipush 48, 2) := by decide +kernel
theorem dX12_init_47 : decode cX12_init 47 = .ok (.newarray .int, 2) := by decide +kernel
theorem dX12_init_49 : decode cX12_init 49 = .ok (.putfield 26, 3) := by decide +kernel
theorem dX12_init_52 : decode cX12_init 52 = .ok (.aload_n 0, 1) := by decide +kernel
theorem dX12_init_53 : decode cX12_init 53 = .ok (.bipush 48, 2) := by decide +kernel
theorem dX12_init_55 : decode cX12_init 55 = .ok (.newarray .boolean, 2) := by decide +kernel
theorem dX12_init_57 : decode cX12_init 57 = .ok (.putfield 29, 3) := by decide +kernel
theorem dX12_init_60 : decode cX12_init 60 = .ok (.aload_n 0, 1) := by decide +kernel
theorem dX12_init_61 : decode cX12_init 61 = .ok (.iconst 4, 1) := by decide +kernel
theorem dX12_init_62 : decode cX12_init 62 = .ok (.newarray .int, 2) := by decide +kernel
theorem dX12_init_64 : decode cX12_init 64 = .ok (.putfield 32, 3) := by decide +kernel
theorem dX12_init_67 : decode cX12_init 67 = .ok (.aload_n 0, 1) := by decide +kernel
theorem dX12_init_68 : decode cX12_init 68 = .ok (.iconst 4, 1) := by decide +kernel
theorem dX12_init_69 : decode cX12_init 69 = .ok (.newarray .int, 2) := by decide +kernel
theorem dX12_init_71 : decode cX12_init 71 = .ok (.putfield 35, 3) := by decide +kernel
theorem dX12_init_74 : decode cX12_init 74 = .ok (.aload_n 0, 1) := by decide +kernel
theorem dX12_init_75 : decode cX12_init 75 = .ok (.iconst 4, 1) := by decide +kernel
theorem dX12_init_76 : decode cX12_init 76 = .ok (.newarray .int, 2) := by decide +kernel
theorem dX12_init_78 : decode cX12_init 78 = .ok (.putfield 38, 3) := by decide +kernel
theorem dX12_init_81 : decode cX12_init 81 = .ok (.aload_n 0, 1) := by decide +kernel
theorem dX12_init_82 : decode cX12_init 82 = .ok (.iconst 4, 1) := by decide +kernel
theorem dX12_init_83 : decode cX12_init 83 = .ok (.newarray .int, 2) := by decide +kernel
theorem dX12_init_85 : decode cX12_init 85 = .ok (.putfield 41, 3) := by decide +kernel
theorem dX12_init_88 : decode cX12_init 88 = .ok (.aload_n 0, 1) := by decide +kernel
theorem dX12_init_89 : decode cX12_init 89 = .ok (.sipush 143, 3) := by decide +kernel
theorem dX12_init_92 : decode cX12_init 92 = .ok (.newarray .int, 2) := by decide +kernel
theorem dX12_init_94 : decode cX12_init 94 = .ok (.putfield 44, 3) := by decide +kernel
theorem dX12_init_97 : decode cX12_init 97 = .ok (.aload_n 0, 1) := by decide +kernel
theorem dX12_init_98 : decode cX12_init 98 = .ok (.bipush 12, 2) := by decide +kernel
theorem dX12_init_100 : decode cX12_init 100 = .ok (.newarray .int, 2) := by decide +kernel
theorem dX12_init_102 : decode cX12_init 102 = .ok (.putfield 47, 3) := by decide +kernel
theorem dX12_init_105 : decode cX12_init 105 = .ok (.aload_n 0, 1) := by decide +kernel
theorem dX12_init_106 : decode cX12_init 106 = .ok (.bipush 12, 2) := by decide +kernel
theorem dX12_init_108 : decode cX12_init 108 = .ok (.newarray .int, 2) := by decide +kernel
theorem dX12_init_110 : decode cX12_init 110 = .ok (.putfield 50, 3) := by decide +kernel
theorem dX12_init_113 : decode cX12_init 113 = .ok (.aload_n 0, 1) := by decide +kernel
theorem dX12_init_114 : decode cX12_init 114 = .ok (.sipush 169, 3) := by decide +kernel
theorem dX12_init_117 : decode cX12_init 117 = .ok (.newarray .int, 2) := by decide +kernel
theorem dX12_init_119 : decode cX12_init 119 = .ok (.putfield 53, 3) := by decide +kernel
theorem dX12_init_122 : decode cX12_init 122 = .ok (.aload_n 0, 1) := by decide +kernel
theorem dX12_init_123 : decode cX12_init 123 = .ok (.sipush 10240, 3) := by decide +kernel
theorem dX12_init_126 : decode cX12_init 126 = .ok (.newarray .int, 2) := by decide +kernel
theorem dX12_init_128 : decode cX12_init 128 = .ok (.putfield 56, 3) := by decide +kernel
theorem dX12_init_131 : decode cX12_init 131 = .ok (.aload_n 0, 1) := by decide +kernel
theorem dX12_init_132 : decode cX12_init 132 = .ok (.sipush 600, 3) := by decide +kernel
theorem dX12_init_135 : decode cX12_init 135 = .ok (.newarray .int, 2) := by decide +kernel
theorem dX12_init_137 : decode cX12_init 137 = .ok (.putfield 59, 3) := by decide +kernel
theorem dX12_init_140 : decode cX12_init 140 = .ok (.aload_n 0, 1) := by decide +kernel
theorem dX12_init_141 : decode cX12_init 141 = .ok (.bipush 70, 2) := by decide +kernel
theorem dX12_init_143 : decode cX12_init 143 = .ok (.newarray .boolean, 2) := by decide +kernel
theorem dX12_init_145 : decode cX12_init 145 = .ok (.putfield 62, 3) := by decide +kernel
theorem dX12_init_148 : decode cX12_init 148 = .ok (.aload_n 0, 1) := by decide +kernel
theorem dX12_init_149 : decode cX12_init 149 = .ok (.getfield 7, 3) := by decide +kernel
theorem dX12_init_152 : decode cX12_init 152 = .ok (.bipush 6, 2) := by decide +kernel
theorem dX12_init_154 : decode cX12_init 154 = .ok (.iconst (-1), 1) := by decide +kernel
theorem dX12_init_155 : decode cX12_init 155 = .ok (.iastore, 1) := by decide +kernel
theorem dX12_init_156 : decode cX12_init 156 = .ok (.return_, 1) := by decide +kernel
set_option maxRecDepth 10000 in
theorem wX12_init_0 {g : zG} {I : Nat → Nat → Int32} {P : Nat → Nat → Option Nat} {r : Option Value} {h' : zH} {a0 : Nat} (H : ∀ h1 : zH, h1 = (zNew (g, I, P) 13 4968) → zk h1.1 a0 12 ∧ ∀ h3 : zH, h3 = (h1.1, h1.2.1, zU h1.2.2 a0 0 (some ((g, I, P).1.1))) → ∀ h5 : zH, h5 = (zNew h3 14 3) → zk h5.1 a0 12 ∧ ∀ h7 : zH, h7 = (h5.1, h5.2.1, zU h5.2.2 a0 1 (some h3.1.1)) → ∀ h9 : zH, h9 = (zNew h7 13 121) → zk h9.1 a0 12 ∧ ∀ h11 : zH, h11 = (h9.1, h9.2.1, zU h9.2.2 a0 10 (some h7.1.1)) → ∀ h13 : zH, h13 = (zNew h11 13 12) → zk h13.1 a0 12 ∧ ∀ h15 : zH, h15 = (h13.1, h13.2.1, zU h13.2.2 a0 11 (some h11.1.1)) → ∀ h17 : zH, h17 = (zNew h15 13 48) → zk h17.1 a0 12 ∧ ∀ h19 : zH, h19 = (h17.1, h17.2.1, zU h17.2.2 a0 18 (some h15.1.1)) → ∀ h21 : zH, h21 = (zNew h19 13 48) → zk h21.1 a0 12 ∧ ∀ h23 : zH, h23 = (h21.1, h21.2.1, zU h21.2.2 a0 19 (some h19.1.1)) → ∀ h25 : zH, h25 = (zNew h23 14 48) → zk h25.1 a0 12 ∧ ∀ h27 : zH, h27 = (h25.1, h25.2.1, zU h25.2.2 a0 20 (some h23.1.1)) → ∀ h29 : zH, h29 = (zNew h27 13 4) → zk h29.1 a0 12 ∧ ∀ h31 : zH, h31 = (h29.1, h29.2.1, zU h29.2.2 a0 21 (some h27.1.1)) → ∀ h33 : zH, h33 = (zNew h31 13 4) → zk h33.1 a0 12 ∧ ∀ h35 : zH, h35 = (h33.1, h33.2.1, zU h33.2.2 a0 22 (some h31.1.1)) → ∀ h37 : zH, h37 = (zNew h35 13 4) → zk h37.1 a0 12 ∧ ∀ h39 : zH, h39 = (h37.1, h37.2.1, zU h37.2.2 a0 23 (some h35.1.1)) → ∀ h41 : zH, h41 = (zNew h39 13 4) → zk h41.1 a0 12 ∧ ∀ h43 : zH, h43 = (h41.1, h41.2.1, zU h41.2.2 a0 24 (some h39.1.1)) → ∀ h45 : zH, h45 = (zNew h43 13 143) → zk h45.1 a0 12 ∧ ∀ h47 : zH, h47 = (h45.1, h45.2.1, zU h45.2.2 a0 28 (some h43.1.1)) → ∀ h49 : zH, h49 = (zNew h47 13 12) → zk h49.1 a0 12 ∧ ∀ h51 : zH, h51 = (h49.1, h49.2.1, zU h49.2.2 a0 29 (some h47.1.1)) → ∀ h53 : zH, h53 = (zNew h51 13 12) → zk h53.1 a0 12 ∧ ∀ h55 : zH, h55 = (h53.1, h53.2.1, zU h53.2.2 a0 30 (some h51.1.1)) → ∀ h57 : zH, h57 = (zNew h55 13 169) → zk h57.1 a0 12 ∧ ∀ h59 : zH, h59 = (h57.1, h57.2.1, zU h57.2.2 a0 33 (some h55.1.1)) → ∀ h61 : zH, h61 = (zNew h59 13 10240) → zk h61.1 a0 12 ∧ ∀ h63 : zH, h63 = (h61.1, h61.2.1, zU h61.2.2 a0 34 (some h59.1.1)) → ∀ h65 : zH, h65 = (zNew h63 13 600) → zk h65.1 a0 12 ∧ ∀ h67 : zH, h67 = (h65.1, h65.2.1, zU h65.2.2 a0 35 (some h63.1.1)) → ∀ h69 : zH, h69 = (zNew h67 14 70) → zk h69.1 a0 12 ∧ ∀ h71 : zH, h71 = (h69.1, h69.2.1, zU h69.2.2 a0 37 (some h67.1.1)) → zk h71.1 a0 12 ∧ ∃ b73, h71.2.2 a0 0 = some b73 ∧ zk h71.1 b73 13 ∧ vp_in 6 (h71.1.2.2 b73) ∧ r = none ∧ h' = (h71.1, zU h71.2.1 b73 (6 : Int32).toNatClampNeg (-1), h71.2.2)) : Zt none mX12_init 0 0 0 [(0, .ref a0)] [] (g, I, P) r h' := by
  refine z_aload_n 0 dX12_init_0 rfl rfl (z_objInit dX12_init_1 wm_X12_1 w_objI w_objC (by decide) (Nat.le_of_ble_eq_true rfl) (z_aload_n 0 dX12_init_4 rfl rfl (z_sipush (w := 4968) dX12_init_5 (by decide) (z_newI (N := 4968) dX12_init_8 w_arrI (by decide) (by decide) (by decide) (by decide) (by decide) ?_))))
  refine z_nh (fun h1 e_h1 => ?_)
  have H2 := H h1 e_h1
  refine z_putP (g := h1.1) (I := h1.2.1) (Q := h1.2.2) dX12_init_10 wf_X12_7 (by decide) (by decide) rfl (Or.inr ⟨rfl, rfl⟩) H2.1 ?_
  refine z_nh (fun h3 e_h3 => ?_)
  have H4 := H2.2 h3 e_h3
  refine z_aload_n 0 dX12_init_13 rfl rfl (z_iconst (w := 3) dX12_init_14 (by decide) (z_newZ (N := 3) dX12_init_15 w_arrZ (by decide) (by decide) (by decide) (by decide) (by decide) ?_))
  refine z_nh (fun h5 e_h5 => ?_)
  have H6 := H4 h5 e_h5
  refine z_putP (g := h5.1) (I := h5.2.1) (Q := h5.2.2) dX12_init_17 wf_X12_13 (by decide) (by decide) rfl (Or.inr ⟨rfl, rfl⟩) H6.1 ?_
  refine z_nh (fun h7 e_h7 => ?_)
  have H8 := H6.2 h7 e_h7
  refine z_aload_n 0 dX12_init_20 rfl rfl (z_bipush (w := 121) dX12_init_21 (by decide) (z_newI (N := 121) dX12_init_23 w_arrI (by decide) (by decide) (by decide) (by decide) (by decide) ?_))
  refine z_nh (fun h9 e_h9 => ?_)
  have H10 := H8 h9 e_h9
  refine z_putP (g := h9.1) (I := h9.2.1) (Q := h9.2.2) dX12_init_25 wf_X12_17 (by decide) (by decide) rfl (Or.inr ⟨rfl, rfl⟩) H10.1 ?_
  refine z_nh (fun h11 e_h11 => ?_)
  have H12 := H10.2 h11 e_h11
  refine z_aload_n 0 dX12_init_28 rfl rfl (z_bipush (w := 12) dX12_init_29 (by decide) (z_newI (N := 12) dX12_init_31 w_arrI (by decide) (by decide) (by decide) (by decide) (by decide) ?_))
  refine z_nh (fun h13 e_h13 => ?_)
  have H14 := H12 h13 e_h13
  refine z_putP (g := h13.1) (I := h13.2.1) (Q := h13.2.2) dX12_init_33 wf_X12_20 (by decide) (by decide) rfl (Or.inr ⟨rfl, rfl⟩) H14.1 ?_
  refine z_nh (fun h15 e_h15 => ?_)
  have H16 := H14.2 h15 e_h15
  refine z_aload_n 0 dX12_init_36 rfl rfl (z_bipush (w := 48) dX12_init_37 (by decide) (z_newI (N := 48) dX12_init_39 w_arrI (by decide) (by decide) (by decide) (by decide) (by decide) ?_))
  refine z_nh (fun h17 e_h17 => ?_)
  have H18 := H16 h17 e_h17
  refine z_putP (g := h17.1) (I := h17.2.1) (Q := h17.2.2) dX12_init_41 wf_X12_23 (by decide) (by decide) rfl (Or.inr ⟨rfl, rfl⟩) H18.1 ?_
  refine z_nh (fun h19 e_h19 => ?_)
  have H20 := H18.2 h19 e_h19
  refine z_aload_n 0 dX12_init_44 rfl rfl (z_bipush (w := 48) dX12_init_45 (by decide) (z_newI (N := 48) dX12_init_47 w_arrI (by decide) (by decide) (by decide) (by decide) (by decide) ?_))
  refine z_nh (fun h21 e_h21 => ?_)
  have H22 := H20 h21 e_h21
  refine z_putP (g := h21.1) (I := h21.2.1) (Q := h21.2.2) dX12_init_49 wf_X12_26 (by decide) (by decide) rfl (Or.inr ⟨rfl, rfl⟩) H22.1 ?_
  refine z_nh (fun h23 e_h23 => ?_)
  have H24 := H22.2 h23 e_h23
  refine z_aload_n 0 dX12_init_52 rfl rfl (z_bipush (w := 48) dX12_init_53 (by decide) (z_newZ (N := 48) dX12_init_55 w_arrZ (by decide) (by decide) (by decide) (by decide) (by decide) ?_))
  refine z_nh (fun h25 e_h25 => ?_)
  have H26 := H24 h25 e_h25
  refine z_putP (g := h25.1) (I := h25.2.1) (Q := h25.2.2) dX12_init_57 wf_X12_29 (by decide) (by decide) rfl (Or.inr ⟨rfl, rfl⟩) H26.1 ?_
  refine z_nh (fun h27 e_h27 => ?_)
  have H28 := H26.2 h27 e_h27
  refine z_aload_n 0 dX12_init_60 rfl rfl (z_iconst (w := 4) dX12_init_61 (by decide) (z_newI (N := 4) dX12_init_62 w_arrI (by decide) (by decide) (by decide) (by decide) (by decide) ?_))
  refine z_nh (fun h29 e_h29 => ?_)
  have H30 := H28 h29 e_h29
  refine z_putP (g := h29.1) (I := h29.2.1) (Q := h29.2.2) dX12_init_64 wf_X12_32 (by decide) (by decide) rfl (Or.inr ⟨rfl, rfl⟩) H30.1 ?_
  refine z_nh (fun h31 e_h31 => ?_)
  have H32 := H30.2 h31 e_h31
  refine z_aload_n 0 dX12_init_67 rfl rfl (z_iconst (w := 4) dX12_init_68 (by decide) (z_newI (N := 4) dX12_init_69 w_arrI (by decide) (by decide) (by decide) (by decide) (by decide) ?_))
  refine z_nh (fun h33 e_h33 => ?_)
  have H34 := H32 h33 e_h33
  refine z_putP (g := h33.1) (I := h33.2.1) (Q := h33.2.2) dX12_init_71 wf_X12_35 (by decide) (by decide) rfl (Or.inr ⟨rfl, rfl⟩) H34.1 ?_
  refine z_nh (fun h35 e_h35 => ?_)
  have H36 := H34.2 h35 e_h35
  refine z_aload_n 0 dX12_init_74 rfl rfl (z_iconst (w := 4) dX12_init_75 (by decide) (z_newI (N := 4) dX12_init_76 w_arrI (by decide) (by decide) (by decide) (by decide) (by decide) ?_))
  refine z_nh (fun h37 e_h37 => ?_)
  have H38 := H36 h37 e_h37
  refine z_putP (g := h37.1) (I := h37.2.1) (Q := h37.2.2) dX12_init_78 wf_X12_38 (by decide) (by decide) rfl (Or.inr ⟨rfl, rfl⟩) H38.1 ?_
  refine z_nh (fun h39 e_h39 => ?_)
  have H40 := H38.2 h39 e_h39
  refine z_aload_n 0 dX12_init_81 rfl rfl (z_iconst (w := 4) dX12_init_82 (by decide) (z_newI (N := 4) dX12_init_83 w_arrI (by decide) (by decide) (by decide) (by decide) (by decide) ?_))
  refine z_nh (fun h41 e_h41 => ?_)
  have H42 := H40 h41 e_h41
  refine z_putP (g := h41.1) (I := h41.2.1) (Q := h41.2.2) dX12_init_85 wf_X12_41 (by decide) (by decide) rfl (Or.inr ⟨rfl, rfl⟩) H42.1 ?_
  refine z_nh (fun h43 e_h43 => ?_)
  have H44 := H42.2 h43 e_h43
  refine z_aload_n 0 dX12_init_88 rfl rfl (z_sipush (w := 143) dX12_init_89 (by decide) (z_newI (N := 143) dX12_init_92 w_arrI (by decide) (by decide) (by decide) (by decide) (by decide) ?_))
  refine z_nh (fun h45 e_h45 => ?_)
  have H46 := H44 h45 e_h45
  refine z_putP (g := h45.1) (I := h45.2.1) (Q := h45.2.2) dX12_init_94 wf_X12_44 (by decide) (by decide) rfl (Or.inr ⟨rfl, rfl⟩) H46.1 ?_
  refine z_nh (fun h47 e_h47 => ?_)
  have H48 := H46.2 h47 e_h47
  refine z_aload_n 0 dX12_init_97 rfl rfl (z_bipush (w := 12) dX12_init_98 (by decide) (z_newI (N := 12) dX12_init_100 w_arrI (by decide) (by decide) (by decide) (by decide) (by decide) ?_))
  refine z_nh (fun h49 e_h49 => ?_)
  have H50 := H48 h49 e_h49
  refine z_putP (g := h49.1) (I := h49.2.1) (Q := h49.2.2) dX12_init_102 wf_X12_47 (by decide) (by decide) rfl (Or.inr ⟨rfl, rfl⟩) H50.1 ?_
  refine z_nh (fun h51 e_h51 => ?_)
  have H52 := H50.2 h51 e_h51
  refine z_aload_n 0 dX12_init_105 rfl rfl (z_bipush (w := 12) dX12_init_106 (by decide) (z_newI (N := 12) dX12_init_108 w_arrI (by decide) (by decide) (by decide) (by decide) (by decide) ?_))
  refine z_nh (fun h53 e_h53 => ?_)
  have H54 := H52 h53 e_h53
  refine z_putP (g := h53.1) (I := h53.2.1) (Q := h53.2.2) dX12_init_110 wf_X12_50 (by decide) (by decide) rfl (Or.inr ⟨rfl, rfl⟩) H54.1 ?_
  refine z_nh (fun h55 e_h55 => ?_)
  have H56 := H54.2 h55 e_h55
  refine z_aload_n 0 dX12_init_113 rfl rfl (z_sipush (w := 169) dX12_init_114 (by decide) (z_newI (N := 169) dX12_init_117 w_arrI (by decide) (by decide) (by decide) (by decide) (by decide) ?_))
  refine z_nh (fun h57 e_h57 => ?_)
  have H58 := H56 h57 e_h57
  refine z_putP (g := h57.1) (I := h57.2.1) (Q := h57.2.2) dX12_init_119 wf_X12_53 (by decide) (by decide) rfl (Or.inr ⟨rfl, rfl⟩) H58.1 ?_
  refine z_nh (fun h59 e_h59 => ?_)
  have H60 := H58.2 h59 e_h59
  refine z_aload_n 0 dX12_init_122 rfl rfl (z_sipush (w := 10240) dX12_init_123 (by decide) (z_newI (N := 10240) dX12_init_126 w_arrI (by decide) (by decide) (by decide) (by decide) (by decide) ?_))
  refine z_nh (fun h61 e_h61 => ?_)
  have H62 := H60 h61 e_h61
  refine z_putP (g := h61.1) (I := h61.2.1) (Q := h61.2.2) dX12_init_128 wf_X12_56 (by decide) (by decide) rfl (Or.inr ⟨rfl, rfl⟩) H62.1 ?_
  refine z_nh (fun h63 e_h63 => ?_)
  have H64 := H62.2 h63 e_h63
  refine z_aload_n 0 dX12_init_131 rfl rfl (z_sipush (w := 600) dX12_init_132 (by decide) (z_newI (N := 600) dX12_init_135 w_arrI (by decide) (by decide) (by decide) (by decide) (by decide) ?_))
  refine z_nh (fun h65 e_h65 => ?_)
  have H66 := H64 h65 e_h65
  refine z_putP (g := h65.1) (I := h65.2.1) (Q := h65.2.2) dX12_init_137 wf_X12_59 (by decide) (by decide) rfl (Or.inr ⟨rfl, rfl⟩) H66.1 ?_
  refine z_nh (fun h67 e_h67 => ?_)
  have H68 := H66.2 h67 e_h67
  refine z_aload_n 0 dX12_init_140 rfl rfl (z_bipush (w := 70) dX12_init_141 (by decide) (z_newZ (N := 70) dX12_init_143 w_arrZ (by decide) (by decide) (by decide) (by decide) (by decide) ?_))
  refine z_nh (fun h69 e_h69 => ?_)
  have H70 := H68 h69 e_h69
  refine z_putP (g := h69.1) (I := h69.2.1) (Q := h69.2.2) dX12_init_145 wf_X12_62 (by decide) (by decide) rfl (Or.inr ⟨rfl, rfl⟩) H70.1 ?_
  refine z_nh (fun h71 e_h71 => ?_)
  have H72 := H70.2 h71 e_h71
  refine z_aload_n 0 dX12_init_148 rfl rfl ?_
  obtain ⟨oe75, b73, e75, H74⟩ := H72
  refine z_getP dX12_init_149 wf_X12_7 (by decide) (by decide) rfl oe75 (fun q => (by cases q.symm.trans e75)) (fun j q => ?_)
  cases q.symm.trans e75
  refine z_bipush (w := 6) dX12_init_152 (by decide) (z_iconst (w := (-1)) dX12_init_154 (by decide) (z_iast (g := h71.1) (I := h71.2.1) (Q := h71.2.2) dX12_init_155 H74.1 H74.2.1 ?_))
  obtain ⟨rfl, rfl⟩ := H74.2.2
  exact z_vret dX12_init_156 rfl (by decide) (by decide)
theorem eX12_init {g : zG} {I : Nat → Nat → Int32} {P : Nat → Nat → Option Nat} {r : Option Value} {h' : zH} {a0 : Nat} (H : Zt none mX12_init 0 0 0 [(0, .ref a0)] [] (g, I, P) r h') : Cl mX12_init [.ref a0] (g, I, P) r h' := Cl.of (by decide) (Nat.le_of_ble_eq_true rfl) H
