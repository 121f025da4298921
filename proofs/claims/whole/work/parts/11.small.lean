theorem dX0_copy_0 : decode cX0_copy 0 = .ok (.aload_n 0, 1) := by decide +kernel
theorem dX0_copy_1 : decode cX0_copy 1 = .ok (.ifnull 7, 3) := by decide +kernel
theorem dX0_copy_4 : decode cX0_copy 4 = .ok (.aload_n 1, 1) := by decide +kernel
theorem dX0_copy_5 : decode cX0_copy 5 = .ok (.ifnonnull 4, 3) := by decide +kernel
theorem dX0_copy_8 : decode cX0_copy 8 = .ok (.return_, 1) := by decide +kernel
theorem dX0_copy_9 : decode cX0_copy 9 = .ok (.aload_n 1, 1) := by decide +kernel
theorem dX0_copy_10 : decode cX0_copy 10 = .ok (.aload_n 0, 1) := by decide +kernel
theorem dX0_copy_11 : decode cX0_copy 11 = .ok (.getfield 21, 3) := by decide +kernel
theorem dX0_copy_14 : decode cX0_copy 14 = .ok (.putfield 21, 3) := by decide +kernel
theorem dX0_copy_17 : decode cX0_copy 17 = .ok (.aload_n 0, 1) := by decide +kernel
theorem dX0_copy_18 : decode cX0_copy 18 = .ok (.getfield 9, 3) := by decide +kernel
theorem dX0_copy_21 : decode cX0_copy 21 = .ok (.aload_n 1, 1) := by decide +kernel
theorem dX0_copy_22 : decode cX0_copy 22 = .ok (.getfield 9, 3) := by decide +kernel
theorem dX0_copy_25 : decode cX0_copy 25 = .ok (.invokestatic 25, 3) := by decide +kernel
theorem dX0_copy_28 : decode cX0_copy 28 = .ok (.aload_n 0, 1) := by decide +kernel
theorem dX0_copy_29 : decode cX0_copy 29 = .ok (.getfield 15, 3) := by decide +kernel
theorem dX0_copy_32 : decode cX0_copy 32 = .ok (.aload_n 1, 1) := by decide +kernel
theorem dX0_copy_33 : decode cX0_copy 33 = .ok (.getfield 15, 3) := by decide +kernel
theorem dX0_copy_36 : decode cX0_copy 36 = .ok (.invokestatic 25, 3) := by decide +kernel
theorem dX0_copy_39 : decode cX0_copy 39 = .ok (.aload_n 0, 1) := by decide +kernel
theorem dX0_copy_40 : decode cX0_copy 40 = .ok (.getfield 18, 3) := by decide +kernel
theorem dX0_copy_43 : decode cX0_copy 43 = .ok (.aload_n 1, 1) := by decide +kernel
theorem dX0_copy_44 : decode cX0_copy 44 = .ok (.getfield 18, 3) := by decide +kernel
theorem dX0_copy_47 : decode cX0_copy 47 = .ok (.invokestatic 25, 3) := by decide +kernel
theorem dX0_copy_50 : decode cX0_copy 50 = .ok (.return_, 1) := by decide +kernel
set_option maxRecDepth 10000 in
theorem wX0_copy_0 {g : zG} {I : Nat → Nat → Int32} {P : Nat → Nat → Option Nat} {r : Option Value} {h' : zH} {a0 : Nat} {a1 : Nat} (H : zk g a0 0 ∧ zk g a1 0 ∧ zk g a0 0 ∧ ∃ b1, P a0 1 = some b1 ∧ zk g a1 0 ∧ ∃ b4, P a1 1 = some b4 ∧ ∃ (I7 : Nat → Nat → Int32), Cl mX11_copyRow [.ref b1, .ref b4] (g, zU I a1 0 (I a0 0), P) none (g, I7, P) ∧ zk g a0 0 ∧ ∃ b10, P a0 2 = some b10 ∧ zk g a1 0 ∧ ∃ b13, P a1 2 = some b13 ∧ ∃ (I16 : Nat → Nat → Int32), Cl mX11_copyRow [.ref b10, .ref b13] (g, I7, P) none (g, I16, P) ∧ zk g a0 0 ∧ ∃ b19, P a0 3 = some b19 ∧ zk g a1 0 ∧ ∃ b22, P a1 3 = some b22 ∧ ∃ (I25 : Nat → Nat → Int32), Cl mX11_copyRow [.ref b19, .ref b22] (g, I16, P) none (g, I25, P) ∧ r = none ∧ h' = (g, I25, P)) : Zt none mX0_copy 0 0 0 [(0, .ref a0), (1, .ref a1)] [] (g, I, P) r h' := by
  refine z_aload_n 0 dX0_copy_0 rfl rfl (z_ifnullR dX0_copy_1 (z_aload_n 1 dX0_copy_4 rfl rfl (z_ifnonnullR (t := 9) dX0_copy_5 (by decide) (z_aload_n 1 dX0_copy_9 rfl rfl (z_aload_n 0 dX0_copy_10 rfl rfl (z_getI dX0_copy_11 wf_X0_21 (by decide) (by decide) rfl H.1 (z_putI (g := g) (I := I) (Q := P) dX0_copy_14 wf_X0_21 (by decide) (by decide) rfl (Or.inl rfl) (zfit_int rfl) H.2.1 (z_aload_n 0 dX0_copy_17 rfl rfl ?_))))))))
  obtain ⟨oe3, b1, e3, H2⟩ := H.2.2
  refine z_getP dX0_copy_18 wf_X0_9 (by decide) (by decide) rfl oe3 (fun q => (by cases q.symm.trans e3)) (fun j q => ?_)
  cases q.symm.trans e3
  refine z_aload_n 1 dX0_copy_21 rfl rfl ?_
  obtain ⟨oe6, b4, e6, H5⟩ := H2
  refine z_getP dX0_copy_22 wf_X0_9 (by decide) (by decide) rfl oe6 (fun q => (by cases q.symm.trans e6)) (fun j q => ?_)
  cases q.symm.trans e6
  obtain ⟨I7, c8, H9⟩ := H5
  refine z_stat (As := [.ref b1, .ref b4]) (st := []) (r1 := none) (h1 := (g, I7, P)) dX0_copy_25 kX11_copyRow wm_X0_25 ⟨by decide, by decide⟩ rfl rfl (Nat.le_of_ble_eq_true rfl) (by decide) (by decide) c8 ?_
  refine z_aload_n 0 dX0_copy_28 rfl rfl ?_
  obtain ⟨oe12, b10, e12, H11⟩ := H9
  refine z_getP dX0_copy_29 wf_X0_15 (by decide) (by decide) rfl oe12 (fun q => (by cases q.symm.trans e12)) (fun j q => ?_)
  cases q.symm.trans e12
  refine z_aload_n 1 dX0_copy_32 rfl rfl ?_
  obtain ⟨oe15, b13, e15, H14⟩ := H11
  refine z_getP dX0_copy_33 wf_X0_15 (by decide) (by decide) rfl oe15 (fun q => (by cases q.symm.trans e15)) (fun j q => ?_)
  cases q.symm.trans e15
  obtain ⟨I16, c17, H18⟩ := H14
  refine z_stat (As := [.ref b10, .ref b13]) (st := []) (r1 := none) (h1 := (g, I16, P)) dX0_copy_36 kX11_copyRow wm_X0_25 ⟨by decide, by decide⟩ rfl rfl (Nat.le_of_ble_eq_true rfl) (by decide) (by decide) c17 ?_
  refine z_aload_n 0 dX0_copy_39 rfl rfl ?_
  obtain ⟨oe21, b19, e21, H20⟩ := H18
  refine z_getP dX0_copy_40 wf_X0_18 (by decide) (by decide) rfl oe21 (fun q => (by cases q.symm.trans e21)) (fun j q => ?_)
  cases q.symm.trans e21
  refine z_aload_n 1 dX0_copy_43 rfl rfl ?_
  obtain ⟨oe24, b22, e24, H23⟩ := H20
  refine z_getP dX0_copy_44 wf_X0_18 (by decide) (by decide) rfl oe24 (fun q => (by cases q.symm.trans e24)) (fun j q => ?_)
  cases q.symm.trans e24
  obtain ⟨I25, c26, H27⟩ := H23
  refine z_stat (As := [.ref b19, .ref b22]) (st := []) (r1 := none) (h1 := (g, I25, P)) dX0_copy_47 kX11_copyRow wm_X0_25 ⟨by decide, by decide⟩ rfl rfl (Nat.le_of_ble_eq_true rfl) (by decide) (by decide) c26 ?_
  obtain ⟨rfl, rfl⟩ := H27
  exact z_vret dX0_copy_50 rfl (by decide) (by decide)
theorem eX0_copy {g : zG} {I : Nat → Nat → Int32} {P : Nat → Nat → Option Nat} {r : Option Value} {h' : zH} {a0 : Nat} {a1 : Nat} (H : Zt none mX0_copy 0 0 0 [(0, .ref a0), (1, .ref a1)] [] (g, I, P) r h') : Cl mX0_copy [.ref a0, .ref a1] (g, I, P) r h' := Cl.of (by decide) (Nat.le_of_ble_eq_true rfl) H
theorem dX0_look_0 : decode cX0_look 0 = .ok (.iload_n 1, 1) := by decide +kernel
theorem dX0_look_1 : decode cX0_look 1 = .ok (.iconst (-1), 1) := by decide +kernel
theorem dX0_look_2 : decode cX0_look 2 = .ok (.if_icmp .ne 12, 3) := by decide +kernel
theorem dX0_look_5 : decode cX0_look 5 = .ok (.iload_n 2, 1) := by decide +kernel
theorem dX0_look_6 : decode cX0_look 6 = .ok (.ifCond .ne 8, 3) := by decide +kernel
theorem dX0_look_9 : decode cX0_look 9 = .ok (.aload_n 0, 1) := by decide +kernel
theorem dX0_look_10 : decode cX0_look 10 = .ok (.getfield 21, 3) := by decide +kernel
theorem dX0_look_13 : decode cX0_look 13 = .ok (.ireturn, 1) := by decide +kernel
theorem dX0_look_14 : decode cX0_look 14 = .ok (.iload_n 1, 1) := by decide +kernel
theorem dX0_look_15 : decode cX0_look 15 = .ok (.ifCond .lt 11, 3) := by decide +kernel
theorem dX0_look_18 : decode cX0_look 18 = .ok (.iload_n 1, 1) := by decide +kernel
theorem dX0_look_19 : decode cX0_look 19 = .ok (.aload_n 0, 1) := by decide +kernel
theorem dX0_look_20 : decode cX0_look 20 = .ok (.getfield 21, 3) := by decide +kernel
theorem dX0_look_23 : decode cX0_look 23 = .ok (.if_icmp .lt 6, 3) := by decide +kernel
theorem dX0_look_26 : decode cX0_look 26 = .ok (.bipush (-2), 2) := by decide +kernel
theorem dX0_look_28 : decode cX0_look 28 = .ok (.ireturn, 1) := by decide +kernel
theorem dX0_look_29 : decode cX0_look 29 = .ok (.iload_n 2, 1) := by decide +kernel
theorem dX0_look_30 : decode cX0_look 30 = .ok (.tableswitch 53 0 2 #[26, 35, 44], 26) := by decide +kernel
theorem dX0_look_56 : decode cX0_look 56 = .ok (.aload_n 0, 1) := by decide +kernel
theorem dX0_look_57 : decode cX0_look 57 = .ok (.getfield 9, 3) := by decide +kernel
theorem dX0_look_60 : decode cX0_look 60 = .ok (.iload_n 1, 1) := by decide +kernel
theorem dX0_look_61 : decode cX0_look 61 = .ok (.invokestatic 29, 3) := by decide +kernel
theorem dX0_look_64 : decode cX0_look 64 = .ok (.ireturn, 1) := by decide +kernel
theorem dX0_look_65 : decode cX0_look 65 = .ok (.aload_n 0, 1) := by decide +kernel
theorem dX0_look_66 : decode cX0_look 66 = .ok (.getfield 15, 3) := by decide +kernel
theorem dX0_look_69 : decode cX0_look 69 = .ok (.iload_n 1, 1) := by decide +kernel
theorem dX0_look_70 : decode cX0_look 70 = .ok (.invokestatic 29, 3) := by decide +kernel
theorem dX0_look_73 : decode cX0_look 73 = .ok (.ireturn, 1) := by decide +kernel
theorem dX0_look_74 : decode cX0_look 74 = .ok (.aload_n 0, 1) := by decide +kernel
theorem dX0_look_75 : decode cX0_look 75 = .ok (.getfield 18, 3) := by decide +kernel
theorem dX0_look_78 : decode cX0_look 78 = .ok (.iload_n 1, 1) := by decide +kernel
theorem dX0_look_79 : decode cX0_look 79 = .ok (.invokestatic 29, 3) := by decide +kernel
theorem dX0_look_82 : decode cX0_look 82 = .ok (.ireturn, 1) := by decide +kernel
theorem dX0_look_83 : decode cX0_look 83 = .ok (.bipush (-2), 2) := by decide +kernel
theorem dX0_look_85 : decode cX0_look 85 = .ok (.ireturn, 1) := by decide +kernel
set_option maxRecDepth 10000 in
theorem wX0_look_0 {g : zG} {I : Nat → Nat → Int32} {P : Nat → Nat → Option Nat} {r : Option Value} {h' : zH} {a0 : Nat} {x1 : Int32} {x2 : Int32} (H : ((¬ x1 = (-1)) → Zt none mX0_look 0 0 14 [(0, .ref a0), (1, .int x1), (2, .int x2)] [] (g, I, P) r h') ∧ ((x1 = (-1)) → ((¬ x2 = 0) → Zt none mX0_look 0 0 14 [(0, .ref a0), (1, .int x1), (2, .int x2)] [] (g, I, P) r h') ∧ ((x2 = 0) → zk g a0 0 ∧ r = some (.int (I a0 0)) ∧ h' = (g, I, P)))) : Zt none mX0_look 0 0 0 [(0, .ref a0), (1, .int x1), (2, .int x2)] [] (g, I, P) r h' := by
  refine z_iload_n 1 dX0_look_0 rfl (z_iconst (w := (-1)) dX0_look_1 (by decide) ?_)
  refine z_icmp_ne (t := 14) dX0_look_2 (by decide) (fun q => ?_) (fun q => ?_)
  · have H1 := H.1 q
    exact z_less [0, 1, 2] rfl H1
  · have H2 := H.2 q
    refine z_iload_n 2 dX0_look_5 rfl ?_
    refine z_if_ne (t := 14) dX0_look_6 (by decide) (fun q => ?_) (fun q => ?_)
    · have H3 := H2.1 q
      exact z_less [0, 1, 2] rfl H3
    · have H4 := H2.2 q
      refine z_aload_n 0 dX0_look_9 rfl rfl (z_getI dX0_look_10 wf_X0_21 (by decide) (by decide) rfl H4.1 ?_)
      obtain ⟨rfl, rfl⟩ := H4.2
      exact z_iret dX0_look_13 rfl (by decide) (by decide)
theorem eX0_look {g : zG} {I : Nat → Nat → Int32} {P : Nat → Nat → Option Nat} {r : Option Value} {h' : zH} {a0 : Nat} {x1 : Int32} {x2 : Int32} (H : Zt none mX0_look 0 0 0 [(0, .ref a0), (1, .int x1), (2, .int x2)] [] (g, I, P) r h') : Cl mX0_look [.ref a0, .int x1, .int x2] (g, I, P) r h' := Cl.of (by decide) (Nat.le_of_ble_eq_true rfl) H
set_option maxRecDepth 10000 in
theorem wX0_look_14 {g : zG} {I : Nat → Nat → Int32} {P : Nat → Nat → Option Nat} {r : Option Value} {h' : zH} {a0 : Nat} {x1 : Int32} {x2 : Int32} (H : ((x1 < 0) → r = some (.int (-2)) ∧ h' = (g, I, P)) ∧ ((¬ x1 < 0) → zk g a0 0 ∧ ((x1 < I a0 0) → ((x2 = 0) → zk g a0 0 ∧ ∃ b6, P a0 1 = some b6 ∧ ∃ (w9 : Int32), Cl mX11_got [.ref b6, .int x1] (g, I, P) (some (.int w9)) (g, I, P) ∧ r = some (.int w9) ∧ h' = (g, I, P)) ∧ ((x2 = 1) → zk g a0 0 ∧ ∃ b14, P a0 2 = some b14 ∧ ∃ (w17 : Int32), Cl mX11_got [.ref b14, .int x1] (g, I, P) (some (.int w17)) (g, I, P) ∧ r = some (.int w17) ∧ h' = (g, I, P)) ∧ ((x2 = 2) → zk g a0 0 ∧ ∃ b22, P a0 3 = some b22 ∧ ∃ (w25 : Int32), Cl mX11_got [.ref b22, .int x1] (g, I, P) (some (.int w25)) (g, I, P) ∧ r = some (.int w25) ∧ h' = (g, I, P)) ∧ (¬ x2 = 0 → ¬ x2 = 1 → ¬ x2 = 2 → r = some (.int (-2)) ∧ h' = (g, I, P))) ∧ ((¬ x1 < I a0 0) → r = some (.int (-2)) ∧ h' = (g, I, P)))) : Zt none mX0_look 0 0 14 [(0, .ref a0), (1, .int x1), (2, .int x2)] [] (g, I, P) r h' := by
  refine z_iload_n 1 dX0_look_14 rfl ?_
  refine z_if_lt (t := 26) dX0_look_15 (by decide) (fun q => ?_) (fun q => ?_)
  · have H1 := H.1 q
    refine z_bipush (w := (-2)) dX0_look_26 (by decide) ?_
    obtain ⟨rfl, rfl⟩ := H1
    exact z_iret dX0_look_28 rfl (by decide) (by decide)
  · have H2 := H.2 q
    refine z_iload_n 1 dX0_look_18 rfl (z_aload_n 0 dX0_look_19 rfl rfl (z_getI dX0_look_20 wf_X0_21 (by decide) (by decide) rfl H2.1 ?_))
    refine z_icmp_lt (t := 29) dX0_look_23 (by decide) (fun q => ?_) (fun q => ?_)
    · have H3 := H2.2.1 q
      refine z_iload_n 2 dX0_look_29 rfl ?_
      by_cases q4 : x2 = 0
      · have H5 := H3.1 q4
        have eq4 : (x2 : Int32).toInt = 0 := by rw [q4]; decide
        refine z_tableIn (off := 26) (t := 56) dX0_look_30 (by rw [eq4]; decide) (by rw [eq4]; decide) (by rw [eq4]; rfl) (by decide) ?_
        refine z_aload_n 0 dX0_look_56 rfl rfl ?_
        obtain ⟨oe8, b6, e8, H7⟩ := H5
        refine z_getP dX0_look_57 wf_X0_9 (by decide) (by decide) rfl oe8 (fun q => (by cases q.symm.trans e8)) (fun j q => ?_)
        cases q.symm.trans e8
        refine z_iload_n 1 dX0_look_60 rfl ?_
        obtain ⟨w9, c10, H11⟩ := H7
        refine z_stat (As := [.ref b6, .int x1]) (st := []) (r1 := (some (.int w9))) (h1 := (g, I, P)) dX0_look_61 kX11_got wm_X0_29 ⟨by decide, by decide⟩ rfl rfl (Nat.le_of_ble_eq_true rfl) (by decide) (by decide) c10 ?_
        obtain ⟨rfl, rfl⟩ := H11
        exact z_iret dX0_look_64 rfl (by decide) (by decide)
      by_cases q12 : x2 = 1
      · have H13 := H3.2.1 q12
        have eq12 : (x2 : Int32).toInt = 1 := by rw [q12]; decide
        refine z_tableIn (off := 35) (t := 65) dX0_look_30 (by rw [eq12]; decide) (by rw [eq12]; decide) (by rw [eq12]; rfl) (by decide) ?_
        refine z_aload_n 0 dX0_look_65 rfl rfl ?_
        obtain ⟨oe16, b14, e16, H15⟩ := H13
        refine z_getP dX0_look_66 wf_X0_15 (by decide) (by decide) rfl oe16 (fun q => (by cases q.symm.trans e16)) (fun j q => ?_)
        cases q.symm.trans e16
        refine z_iload_n 1 dX0_look_69 rfl ?_
        obtain ⟨w17, c18, H19⟩ := H15
        refine z_stat (As := [.ref b14, .int x1]) (st := []) (r1 := (some (.int w17))) (h1 := (g, I, P)) dX0_look_70 kX11_got wm_X0_29 ⟨by decide, by decide⟩ rfl rfl (Nat.le_of_ble_eq_true rfl) (by decide) (by decide) c18 ?_
        obtain ⟨rfl, rfl⟩ := H19
        exact z_iret dX0_look_73 rfl (by decide) (by decide)
      by_cases q20 : x2 = 2
      · have H21 := H3.2.2.1 q20
        have eq20 : (x2 : Int32).toInt = 2 := by rw [q20]; decide
        refine z_tableIn (off := 44) (t := 74) dX0_look_30 (by rw [eq20]; decide) (by rw [eq20]; decide) (by rw [eq20]; rfl) (by decide) ?_
        refine z_aload_n 0 dX0_look_74 rfl rfl ?_
        obtain ⟨oe24, b22, e24, H23⟩ := H21
        refine z_getP dX0_look_75 wf_X0_18 (by decide) (by decide) rfl oe24 (fun q => (by cases q.symm.trans e24)) (fun j q => ?_)
        cases q.symm.trans e24
        refine z_iload_n 1 dX0_look_78 rfl ?_
        obtain ⟨w25, c26, H27⟩ := H23
        refine z_stat (As := [.ref b22, .int x1]) (st := []) (r1 := (some (.int w25))) (h1 := (g, I, P)) dX0_look_79 kX11_got wm_X0_29 ⟨by decide, by decide⟩ rfl rfl (Nat.le_of_ble_eq_true rfl) (by decide) (by decide) c26 ?_
        obtain ⟨rfl, rfl⟩ := H27
        exact z_iret dX0_look_82 rfl (by decide) (by decide)
      have H28 := H3.2.2.2 q4 q12 q20
      have nq4 := lv_neT q4 (show (0 : Int32).toInt = 0 by decide)
      have nq12 := lv_neT q12 (show (1 : Int32).toInt = 1 by decide)
      have nq20 := lv_neT q20 (show (2 : Int32).toInt = 2 by decide)
      refine z_tableOut (t := 83) dX0_look_30 (by omega) (by decide) ?_
      refine z_bipush (w := (-2)) dX0_look_83 (by decide) ?_
      obtain ⟨rfl, rfl⟩ := H28
      exact z_iret dX0_look_85 rfl (by decide) (by decide)
    · have H29 := H2.2.2 q
      refine z_bipush (w := (-2)) dX0_look_26 (by decide) ?_
      obtain ⟨rfl, rfl⟩ := H29
      exact z_iret dX0_look_28 rfl (by decide) (by decide)
theorem dX4_copy_0 : decode cX4_copy 0 = .ok (.aload_n 0, 1) := by decide +kernel
theorem dX4_copy_1 : decode cX4_copy 1 = .ok (.ifnull 7, 3) := by decide +kernel
theorem dX4_copy_4 : decode cX4_copy 4 = .ok (.aload_n 1, 1) := by decide +kernel
theorem dX4_copy_5 : decode cX4_copy 5 = .ok (.ifnonnull 4, 3) := by decide +kernel
theorem dX4_copy_8 : decode cX4_copy 8 = .ok (.return_, 1) := by decide +kernel
theorem dX4_copy_9 : decode cX4_copy 9 = .ok (.aload_n 1, 1) := by decide +kernel
theorem dX4_copy_10 : decode cX4_copy 10 = .ok (.aload_n 0, 1) := by decide +kernel
theorem dX4_copy_11 : decode cX4_copy 11 = .ok (.getfield 18, 3) := by decide +kernel
theorem dX4_copy_14 : decode cX4_copy 14 = .ok (.putfield 18, 3) := by decide +kernel
theorem dX4_copy_17 : decode cX4_copy 17 = .ok (.aload_n 0, 1) := by decide +kernel
theorem dX4_copy_18 : decode cX4_copy 18 = .ok (.getfield 9, 3) := by decide +kernel
theorem dX4_copy_21 : decode cX4_copy 21 = .ok (.aload_n 1, 1) := by decide +kernel
theorem dX4_copy_22 : decode cX4_copy 22 = .ok (.getfield 9, 3) := by decide +kernel
theorem dX4_copy_25 : decode cX4_copy 25 = .ok (.invokestatic 22, 3) := by decide +kernel
theorem dX4_copy_28 : decode cX4_copy 28 = .ok (.aload_n 0, 1) := by decide +kernel
theorem dX4_copy_29 : decode cX4_copy 29 = .ok (.getfield 15, 3) := by decide +kernel
theorem dX4_copy_32 : decode cX4_copy 32 = .ok (.aload_n 1, 1) := by decide +kernel
theorem dX4_copy_33 : decode cX4_copy 33 = .ok (.getfield 15, 3) := by decide +kernel
theorem dX4_copy_36 : decode cX4_copy 36 = .ok (.invokestatic 22, 3) := by decide +kernel
theorem dX4_copy_39 : decode cX4_copy 39 = .ok (.return_, 1) := by decide +kernel
set_option maxRecDepth 10000 in
theorem wX4_copy_0 {g : zG} {I : Nat → Nat → Int32} {P : Nat → Nat → Option Nat} {r : Option Value} {h' : zH} {a0 : Nat} {a1 : Nat} (H : zk g a0 4 ∧ zk g a1 4 ∧ zk g a0 4 ∧ ∃ b1, P a0 1 = some b1 ∧ zk g a1 4 ∧ ∃ b4, P a1 1 = some b4 ∧ ∃ (I7 : Nat → Nat → Int32), Cl mX11_copyRow [.ref b1, .ref b4] (g, zU I a1 0 (I a0 0), P) none (g, I7, P) ∧ zk g a0 4 ∧ ∃ b10, P a0 2 = some b10 ∧ zk g a1 4 ∧ ∃ b13, P a1 2 = some b13 ∧ ∃ (I16 : Nat → Nat → Int32), Cl mX11_copyRow [.ref b10, .ref b13] (g, I7, P) none (g, I16, P) ∧ r = none ∧ h' = (g, I16, P)) : Zt none mX4_copy 0 0 0 [(0, .ref a0), (1, .ref a1)] [] (g, I, P) r h' := by
  refine z_aload_n 0 dX4_copy_0 rfl rfl (z_ifnullR dX4_copy_1 (z_aload_n 1 dX4_copy_4 rfl rfl (z_ifnonnullR (t := 9) dX4_copy_5 (by decide) (z_aload_n 1 dX4_copy_9 rfl rfl (z_aload_n 0 dX4_copy_10 rfl rfl (z_getI dX4_copy_11 wf_X4_18 (by decide) (by decide) rfl H.1 (z_putI (g := g) (I := I) (Q := P) dX4_copy_14 wf_X4_18 (by decide) (by decide) rfl (Or.inl rfl) (zfit_int rfl) H.2.1 (z_aload_n 0 dX4_copy_17 rfl rfl ?_))))))))
  obtain ⟨oe3, b1, e3, H2⟩ := H.2.2
  refine z_getP dX4_copy_18 wf_X4_9 (by decide) (by decide) rfl oe3 (fun q => (by cases q.symm.trans e3)) (fun j q => ?_)
  cases q.symm.trans e3
  refine z_aload_n 1 dX4_copy_21 rfl rfl ?_
  obtain ⟨oe6, b4, e6, H5⟩ := H2
  refine z_getP dX4_copy_22 wf_X4_9 (by decide) (by decide) rfl oe6 (fun q => (by cases q.symm.trans e6)) (fun j q => ?_)
  cases q.symm.trans e6
  obtain ⟨I7, c8, H9⟩ := H5
  refine z_stat (As := [.ref b1, .ref b4]) (st := []) (r1 := none) (h1 := (g, I7, P)) dX4_copy_25 kX11_copyRow wm_X4_22 ⟨by decide, by decide⟩ rfl rfl (Nat.le_of_ble_eq_true rfl) (by decide) (by decide) c8 ?_
  refine z_aload_n 0 dX4_copy_28 rfl rfl ?_
  obtain ⟨oe12, b10, e12, H11⟩ := H9
  refine z_getP dX4_copy_29 wf_X4_15 (by decide) (by decide) rfl oe12 (fun q => (by cases q.symm.trans e12)) (fun j q => ?_)
  cases q.symm.trans e12
  refine z_aload_n 1 dX4_copy_32 rfl rfl ?_
  obtain ⟨oe15, b13, e15, H14⟩ := H11
  refine z_getP dX4_copy_33 wf_X4_15 (by decide) (by decide) rfl oe15 (fun q => (by cases q.symm.trans e15)) (fun j q => ?_)
  cases q.symm.trans e15
  obtain ⟨I16, c17, H18⟩ := H14
  refine z_stat (As := [.ref b10, .ref b13]) (st := []) (r1 := none) (h1 := (g, I16, P)) dX4_copy_36 kX11_copyRow wm_X4_22 ⟨by decide, by decide⟩ rfl rfl (Nat.le_of_ble_eq_true rfl) (by decide) (by decide) c17 ?_
  obtain ⟨rfl, rfl⟩ := H18
  exact z_vret dX4_copy_39 rfl (by decide) (by decide)
theorem eX4_copy {g : zG} {I : Nat → Nat → Int32} {P : Nat → Nat → Option Nat} {r : Option Value} {h' : zH} {a0 : Nat} {a1 : Nat} (H : Zt none mX4_copy 0 0 0 [(0, .ref a0), (1, .ref a1)] [] (g, I, P) r h') : Cl mX4_copy [.ref a0, .ref a1] (g, I, P) r h' := Cl.of (by decide) (Nat.le_of_ble_eq_true rfl) H
theorem dX4_hasLine_0 : decode cX4_hasLine 0 = .ok (.iload_n 1, 1) := by decide +kernel
theorem dX4_hasLine_1 : decode cX4_hasLine 1 = .ok (.ifCond .lt 15, 3) := by decide +kernel
theorem dX4_hasLine_4 : decode cX4_hasLine 4 = .ok (.iload_n 1, 1) := by decide +kernel
theorem dX4_hasLine_5 : decode cX4_hasLine 5 = .ok (.aload_n 0, 1) := by decide +kernel
theorem dX4_hasLine_6 : decode cX4_hasLine 6 = .ok (.getfield 18, 3) := by decide +kernel
theorem dX4_hasLine_9 : decode cX4_hasLine 9 = .ok (.if_icmp .ge 7, 3) := by decide +kernel
theorem dX4_hasLine_12 : decode cX4_hasLine 12 = .ok (.iconst 1, 1) := by decide +kernel
theorem dX4_hasLine_13 : decode cX4_hasLine 13 = .ok (.goto 4, 3) := by decide +kernel
theorem dX4_hasLine_16 : decode cX4_hasLine 16 = .ok (.iconst 0, 1) := by decide +kernel
theorem dX4_hasLine_17 : decode cX4_hasLine 17 = .ok (.ireturn, 1) := by decide +kernel
set_option maxRecDepth 10000 in
theorem wX4_hasLine_0 {g : zG} {I : Nat → Nat → Int32} {P : Nat → Nat → Option Nat} {r : Option Value} {h' : zH} {a0 : Nat} {x1 : Int32} (H : ((x1 < 0) → r = some (.int 0) ∧ h' = (g, I, P)) ∧ ((¬ x1 < 0) → zk g a0 4 ∧ ((I a0 0 ≤ x1) → r = some (.int 0) ∧ h' = (g, I, P)) ∧ ((¬ I a0 0 ≤ x1) → r = some (.int 1) ∧ h' = (g, I, P)))) : Zt none mX4_hasLine 0 0 0 [(0, .ref a0), (1, .int x1)] [] (g, I, P) r h' := by
  refine z_iload_n 1 dX4_hasLine_0 rfl ?_
  refine z_if_lt (t := 16) dX4_hasLine_1 (by decide) (fun q => ?_) (fun q => ?_)
  · have H1 := H.1 q
    refine z_iconst (w := 0) dX4_hasLine_16 (by decide) ?_
    obtain ⟨rfl, rfl⟩ := H1
    exact z_zret dX4_hasLine_17 rfl (Or.inl rfl) (by decide) (by decide)
  · have H2 := H.2 q
    refine z_iload_n 1 dX4_hasLine_4 rfl (z_aload_n 0 dX4_hasLine_5 rfl rfl (z_getI dX4_hasLine_6 wf_X4_18 (by decide) (by decide) rfl H2.1 ?_))
    refine z_icmp_ge (t := 16) dX4_hasLine_9 (by decide) (fun q => ?_) (fun q => ?_)
    · have H3 := H2.2.1 q
      refine z_iconst (w := 0) dX4_hasLine_16 (by decide) ?_
      obtain ⟨rfl, rfl⟩ := H3
      exact z_zret dX4_hasLine_17 rfl (Or.inl rfl) (by decide) (by decide)
    · have H4 := H2.2.2 q
      refine z_iconst (w := 1) dX4_hasLine_12 (by decide) (z_goto (t := 17) dX4_hasLine_13 (by decide) ?_)
      obtain ⟨rfl, rfl⟩ := H4
      exact z_zret dX4_hasLine_17 rfl (Or.inr rfl) (by decide) (by decide)
theorem eX4_hasLine {g : zG} {I : Nat → Nat → Int32} {P : Nat → Nat → Option Nat} {r : Option Value} {h' : zH} {a0 : Nat} {x1 : Int32} (H : Zt none mX4_hasLine 0 0 0 [(0, .ref a0), (1, .int x1)] [] (g, I, P) r h') : Cl mX4_hasLine [.ref a0, .int x1] (g, I, P) r h' := Cl.of (by decide) (Nat.le_of_ble_eq_true rfl) H
theorem dX4_letterOf_0 : decode cX4_letterOf 0 = .ok (.aload_n 0, 1) := by decide +kernel
theorem dX4_letterOf_1 : decode cX4_letterOf 1 = .ok (.getfield 15, 3) := by decide +kernel
theorem dX4_letterOf_4 : decode cX4_letterOf 4 = .ok (.iload_n 1, 1) := by decide +kernel
theorem dX4_letterOf_5 : decode cX4_letterOf 5 = .ok (.bipush 12, 2) := by decide +kernel
theorem dX4_letterOf_7 : decode cX4_letterOf 7 = .ok (.imul, 1) := by decide +kernel
theorem dX4_letterOf_8 : decode cX4_letterOf 8 = .ok (.iload_n 2, 1) := by decide +kernel
theorem dX4_letterOf_9 : decode cX4_letterOf 9 = .ok (.iadd, 1) := by decide +kernel
theorem dX4_letterOf_10 : decode cX4_letterOf 10 = .ok (.invokestatic 26, 3) := by decide +kernel
theorem dX4_letterOf_13 : decode cX4_letterOf 13 = .ok (.ireturn, 1) := by decide +kernel
set_option maxRecDepth 10000 in
theorem wX4_letterOf_0 {g : zG} {I : Nat → Nat → Int32} {P : Nat → Nat → Option Nat} {r : Option Value} {h' : zH} {a0 : Nat} {x1 : Int32} {x2 : Int32} (H : zk g a0 4 ∧ ∃ b1, P a0 2 = some b1 ∧ ∃ (w4 : Int32), Cl mX11_got [.ref b1, .int ((x1 * 12) + x2)] (g, I, P) (some (.int w4)) (g, I, P) ∧ r = some (.int w4) ∧ h' = (g, I, P)) : Zt none mX4_letterOf 0 0 0 [(0, .ref a0), (1, .int x1), (2, .int x2)] [] (g, I, P) r h' := by
  refine z_aload_n 0 dX4_letterOf_0 rfl rfl ?_
  obtain ⟨oe3, b1, e3, H2⟩ := H
  refine z_getP dX4_letterOf_1 wf_X4_15 (by decide) (by decide) rfl oe3 (fun q => (by cases q.symm.trans e3)) (fun j q => ?_)
  cases q.symm.trans e3
  refine z_iload_n 1 dX4_letterOf_4 rfl (z_bipush (w := 12) dX4_letterOf_5 (by decide) (z_imul dX4_letterOf_7 (z_iload_n 2 dX4_letterOf_8 rfl (z_iadd dX4_letterOf_9 ?_))))
  obtain ⟨w4, c5, H6⟩ := H2
  refine z_stat (As := [.ref b1, .int ((x1 * 12) + x2)]) (st := []) (r1 := (some (.int w4))) (h1 := (g, I, P)) dX4_letterOf_10 kX11_got wm_X4_26 ⟨by decide, by decide⟩ rfl rfl (Nat.le_of_ble_eq_true rfl) (by decide) (by decide) c5 ?_
  obtain ⟨rfl, rfl⟩ := H6
  exact z_iret dX4_letterOf_13 rfl (by decide) (by decide)
theorem eX4_letterOf {g : zG} {I : Nat → Nat → Int32} {P : Nat → Nat → Option Nat} {r : Option Value} {h' : zH} {a0 : Nat} {x1 : Int32} {x2 : Int32} (H : Zt none mX4_letterOf 0 0 0 [(0, .ref a0), (1, .int x1), (2, .int x2)] [] (g, I, P) r h') : Cl mX4_letterOf [.ref a0, .int x1, .int x2] (g, I, P) r h' := Cl.of (by decide) (Nat.le_of_ble_eq_true rfl) H
theorem dX4_look_0 : decode cX4_look 0 = .ok (.iload_n 1, 1) := by decide +kernel
theorem dX4_look_1 : decode cX4_look 1 = .ok (.iconst (-1), 1) := by decide +kernel
theorem dX4_look_2 : decode cX4_look 2 = .ok (.if_icmp .ne 12, 3) := by decide +kernel
theorem dX4_look_5 : decode cX4_look 5 = .ok (.iload_n 2, 1) := by decide +kernel
theorem dX4_look_6 : decode cX4_look 6 = .ok (.ifCond .ne 8, 3) := by decide +kernel
theorem dX4_look_9 : decode cX4_look 9 = .ok (.aload_n 0, 1) := by decide +kernel
theorem dX4_look_10 : decode cX4_look 10 = .ok (.getfield 18, 3) := by decide +kernel
theorem dX4_look_13 : decode cX4_look 13 = .ok (.ireturn, 1) := by decide +kernel
theorem dX4_look_14 : decode cX4_look 14 = .ok (.aload_n 0, 1) := by decide +kernel
theorem dX4_look_15 : decode cX4_look 15 = .ok (.iload_n 1, 1) := by decide +kernel
theorem dX4_look_16 : decode cX4_look 16 = .ok (.invokevirtual 30, 3) := by decide +kernel
theorem dX4_look_19 : decode cX4_look 19 = .ok (.ifCond .ne 6, 3) := by decide +kernel
theorem dX4_look_22 : decode cX4_look 22 = .ok (.bipush (-2), 2) := by decide +kernel
theorem dX4_look_24 : decode cX4_look 24 = .ok (.ireturn, 1) := by decide +kernel
theorem dX4_look_25 : decode cX4_look 25 = .ok (.iload_n 2, 1) := by decide +kernel
theorem dX4_look_26 : decode cX4_look 26 = .ok (.iconst (-1), 1) := by decide +kernel
theorem dX4_look_27 : decode cX4_look 27 = .ok (.if_icmp .ne 12, 3) := by decide +kernel
theorem dX4_look_30 : decode cX4_look 30 = .ok (.aload_n 0, 1) := by decide +kernel
theorem dX4_look_31 : decode cX4_look 31 = .ok (.getfield 9, 3) := by decide +kernel
theorem dX4_look_34 : decode cX4_look 34 = .ok (.iload_n 1, 1) := by decide +kernel
theorem dX4_look_35 : decode cX4_look 35 = .ok (.invokestatic 26, 3) := by decide +kernel
theorem dX4_look_38 : decode cX4_look 38 = .ok (.ireturn, 1) := by decide +kernel
theorem dX4_look_39 : decode cX4_look 39 = .ok (.iload_n 2, 1) := by decide +kernel
theorem dX4_look_40 : decode cX4_look 40 = .ok (.ifCond .lt 24, 3) := by decide +kernel
theorem dX4_look_43 : decode cX4_look 43 = .ok (.iload_n 2, 1) := by decide +kernel
theorem dX4_look_44 : decode cX4_look 44 = .ok (.aload_n 0, 1) := by decide +kernel
theorem dX4_look_45 : decode cX4_look 45 = .ok (.getfield 9, 3) := by decide +kernel
theorem dX4_look_48 : decode cX4_look 48 = .ok (.iload_n 1, 1) := by decide +kernel
theorem dX4_look_49 : decode cX4_look 49 = .ok (.invokestatic 26, 3) := by decide +kernel
theorem dX4_look_52 : decode cX4_look 52 = .ok (.if_icmp .ge 12, 3) := by decide +kernel
theorem dX4_look_55 : decode cX4_look 55 = .ok (.aload_n 0, 1) := by decide +kernel
theorem dX4_look_56 : decode cX4_look 56 = .ok (.iload_n 1, 1) := by decide +kernel
theorem dX4_look_57 : decode cX4_look 57 = .ok (.iload_n 2, 1) := by decide +kernel
theorem dX4_look_58 : decode cX4_look 58 = .ok (.invokevirtual 34, 3) := by decide +kernel
theorem dX4_look_61 : decode cX4_look 61 = .ok (.goto 5, 3) := by decide +kernel
theorem dX4_look_64 : decode cX4_look 64 = .ok (.bipush (-2), 2) := by decide +kernel
theorem dX4_look_66 : decode cX4_look 66 = .ok (.ireturn, 1) := by decide +kernel
set_option maxRecDepth 10000 in
theorem wX4_look_0 {g : zG} {I : Nat → Nat → Int32} {P : Nat → Nat → Option Nat} {r : Option Value} {h' : zH} {a0 : Nat} {x1 : Int32} {x2 : Int32} (H : ((¬ x1 = (-1)) → Zt none mX4_look 0 0 14 [(0, .ref a0), (1, .int x1), (2, .int x2)] [] (g, I, P) r h') ∧ ((x1 = (-1)) → ((¬ x2 = 0) → Zt none mX4_look 0 0 14 [(0, .ref a0), (1, .int x1), (2, .int x2)] [] (g, I, P) r h') ∧ ((x2 = 0) → zk g a0 4 ∧ r = some (.int (I a0 0)) ∧ h' = (g, I, P)))) : Zt none mX4_look 0 0 0 [(0, .ref a0), (1, .int x1), (2, .int x2)] [] (g, I, P) r h' := by
  refine z_iload_n 1 dX4_look_0 rfl (z_iconst (w := (-1)) dX4_look_1 (by decide) ?_)
  refine z_icmp_ne (t := 14) dX4_look_2 (by decide) (fun q => ?_) (fun q => ?_)
  · have H1 := H.1 q
    exact z_less [0, 1, 2] rfl H1
  · have H2 := H.2 q
    refine z_iload_n 2 dX4_look_5 rfl ?_
    refine z_if_ne (t := 14) dX4_look_6 (by decide) (fun q => ?_) (fun q => ?_)
    · have H3 := H2.1 q
      exact z_less [0, 1, 2] rfl H3
    · have H4 := H2.2 q
      refine z_aload_n 0 dX4_look_9 rfl rfl (z_getI dX4_look_10 wf_X4_18 (by decide) (by decide) rfl H4.1 ?_)
      obtain ⟨rfl, rfl⟩ := H4.2
      exact z_iret dX4_look_13 rfl (by decide) (by decide)
theorem eX4_look {g : zG} {I : Nat → Nat → Int32} {P : Nat → Nat → Option Nat} {r : Option Value} {h' : zH} {a0 : Nat} {x1 : Int32} {x2 : Int32} (H : Zt none mX4_look 0 0 0 [(0, .ref a0), (1, .int x1), (2, .int x2)] [] (g, I, P) r h') : Cl mX4_look [.ref a0, .int x1, .int x2] (g, I, P) r h' := Cl.of (by decide) (Nat.le_of_ble_eq_true rfl) H
set_option maxRecDepth 10000 in
theorem wX4_look_14 {g : zG} {I : Nat → Nat → Int32} {P : Nat → Nat → Option Nat} {r : Option Value} {h' : zH} {a0 : Nat} {x1 : Int32} {x2 : Int32} (H : zk g a0 4 ∧ ∃ (w1 : Int32), Cl mX4_hasLine [.ref a0, .int x1] (g, I, P) (some (.int w1)) (g, I, P) ∧ ((¬ w1 = 0) → ((¬ x2 = (-1)) → ((x2 < 0) → r = some (.int (-2)) ∧ h' = (g, I, P)) ∧ ((¬ x2 < 0) → zk g a0 4 ∧ ∃ b8, P a0 1 = some b8 ∧ ∃ (w11 : Int32), Cl mX11_got [.ref b8, .int x1] (g, I, P) (some (.int w11)) (g, I, P) ∧ ((w11 ≤ x2) → r = some (.int (-2)) ∧ h' = (g, I, P)) ∧ ((¬ w11 ≤ x2) → zk g a0 4 ∧ ∃ (w16 : Int32), Cl mX4_letterOf [.ref a0, .int x1, .int x2] (g, I, P) (some (.int w16)) (g, I, P) ∧ r = some (.int w16) ∧ h' = (g, I, P)))) ∧ ((x2 = (-1)) → zk g a0 4 ∧ ∃ b20, P a0 1 = some b20 ∧ ∃ (w23 : Int32), Cl mX11_got [.ref b20, .int x1] (g, I, P) (some (.int w23)) (g, I, P) ∧ r = some (.int w23) ∧ h' = (g, I, P))) ∧ ((w1 = 0) → r = some (.int (-2)) ∧ h' = (g, I, P))) : Zt none mX4_look 0 0 14 [(0, .ref a0), (1, .int x1), (2, .int x2)] [] (g, I, P) r h' := by
  refine z_aload_n 0 dX4_look_14 rfl rfl (z_iload_n 1 dX4_look_15 rfl ?_)
  obtain ⟨oc2, w1, c2, H3⟩ := H
  refine z_virt (As := [.int x1]) (st := []) (r1 := (some (.int w1))) (h1 := (g, I, P)) dX4_look_16 kX4_hasLine wm_X4_30 ⟨by decide, by decide⟩ rfl rfl (Nat.le_of_ble_eq_true rfl) (by decide) (by decide) oc2 c2 ?_
  refine z_if_ne (t := 25) dX4_look_19 (by decide) (fun q => ?_) (fun q => ?_)
  · have H4 := H3.1 q
    refine z_iload_n 2 dX4_look_25 rfl (z_iconst (w := (-1)) dX4_look_26 (by decide) ?_)
    refine z_icmp_ne (t := 39) dX4_look_27 (by decide) (fun q => ?_) (fun q => ?_)
    · have H5 := H4.1 q
      refine z_iload_n 2 dX4_look_39 rfl ?_
      refine z_if_lt (t := 64) dX4_look_40 (by decide) (fun q => ?_) (fun q => ?_)
      · have H6 := H5.1 q
        refine z_bipush (w := (-2)) dX4_look_64 (by decide) ?_
        obtain ⟨rfl, rfl⟩ := H6
        exact z_iret dX4_look_66 rfl (by decide) (by decide)
      · have H7 := H5.2 q
        refine z_iload_n 2 dX4_look_43 rfl (z_aload_n 0 dX4_look_44 rfl rfl ?_)
        obtain ⟨oe10, b8, e10, H9⟩ := H7
        refine z_getP dX4_look_45 wf_X4_9 (by decide) (by decide) rfl oe10 (fun q => (by cases q.symm.trans e10)) (fun j q => ?_)
        cases q.symm.trans e10
        refine z_iload_n 1 dX4_look_48 rfl ?_
        obtain ⟨w11, c12, H13⟩ := H9
        refine z_stat (As := [.ref b8, .int x1]) (st := [.int x2]) (r1 := (some (.int w11))) (h1 := (g, I, P)) dX4_look_49 kX11_got wm_X4_26 ⟨by decide, by decide⟩ rfl rfl (Nat.le_of_ble_eq_true rfl) (by decide) (by decide) c12 ?_
        refine z_icmp_ge (t := 64) dX4_look_52 (by decide) (fun q => ?_) (fun q => ?_)
        · have H14 := H13.1 q
          refine z_bipush (w := (-2)) dX4_look_64 (by decide) ?_
          obtain ⟨rfl, rfl⟩ := H14
          exact z_iret dX4_look_66 rfl (by decide) (by decide)
        · have H15 := H13.2 q
          refine z_aload_n 0 dX4_look_55 rfl rfl (z_iload_n 1 dX4_look_56 rfl (z_iload_n 2 dX4_look_57 rfl ?_))
          obtain ⟨oc17, w16, c17, H18⟩ := H15
          refine z_virt (As := [.int x1, .int x2]) (st := []) (r1 := (some (.int w16))) (h1 := (g, I, P)) dX4_look_58 kX4_letterOf wm_X4_34 ⟨by decide, by decide⟩ rfl rfl (Nat.le_of_ble_eq_true rfl) (by decide) (by decide) oc17 c17 ?_
          refine z_goto (t := 66) dX4_look_61 (by decide) ?_
          obtain ⟨rfl, rfl⟩ := H18
          exact z_iret dX4_look_66 rfl (by decide) (by decide)
    · have H19 := H4.2 q
      refine z_aload_n 0 dX4_look_30 rfl rfl ?_
      obtain ⟨oe22, b20, e22, H21⟩ := H19
      refine z_getP dX4_look_31 wf_X4_9 (by decide) (by decide) rfl oe22 (fun q => (by cases q.symm.trans e22)) (fun j q => ?_)
      cases q.symm.trans e22
      refine z_iload_n 1 dX4_look_34 rfl ?_
      obtain ⟨w23, c24, H25⟩ := H21
      refine z_stat (As := [.ref b20, .int x1]) (st := []) (r1 := (some (.int w23))) (h1 := (g, I, P)) dX4_look_35 kX11_got wm_X4_26 ⟨by decide, by decide⟩ rfl rfl (Nat.le_of_ble_eq_true rfl) (by decide) (by decide) c24 ?_
      obtain ⟨rfl, rfl⟩ := H25
      exact z_iret dX4_look_38 rfl (by decide) (by decide)
  · have H26 := H3.2 q
    refine z_bipush (w := (-2)) dX4_look_22 (by decide) ?_
    obtain ⟨rfl, rfl⟩ := H26
    exact z_iret dX4_look_24 rfl (by decide) (by decide)
theorem dX4_longestInBoth_0 : decode cX4_longestInBoth 0 = .ok (.iconst 0, 1) := by decide +kernel
theorem dX4_longestInBoth_1 : decode cX4_longestInBoth 1 = .ok (.istore 4, 2) := by decide +kernel
theorem dX4_longestInBoth_3 : decode cX4_longestInBoth 3 = .ok (.iconst (-1), 1) := by decide +kernel
theorem dX4_longestInBoth_4 : decode cX4_longestInBoth 4 = .ok (.istore 5, 2) := by decide +kernel
theorem dX4_longestInBoth_6 : decode cX4_longestInBoth 6 = .ok (.iconst 0, 1) := by decide +kernel
theorem dX4_longestInBoth_7 : decode cX4_longestInBoth 7 = .ok (.istore 6, 2) := by decide +kernel
theorem dX4_longestInBoth_9 : decode cX4_longestInBoth 9 = .ok (.iload 6, 2) := by decide +kernel
theorem dX4_longestInBoth_11 : decode cX4_longestInBoth 11 = .ok (.aload_n 0, 1) := by decide +kernel
theorem dX4_longestInBoth_12 : decode cX4_longestInBoth 12 = .ok (.getfield 9, 3) := by decide +kernel
theorem dX4_longestInBoth_15 : decode cX4_longestInBoth 15 = .ok (.iload_n 1, 1) := by decide +kernel
theorem dX4_longestInBoth_16 : decode cX4_longestInBoth 16 = .ok (.invokestatic 26, 3) := by decide +kernel
theorem dX4_longestInBoth_19 : decode cX4_longestInBoth 19 = .ok (.if_icmp .ge 58, 3) := by decide +kernel
theorem dX4_longestInBoth_22 : decode cX4_longestInBoth 22 = .ok (.iconst 0, 1) := by decide +kernel
theorem dX4_longestInBoth_23 : decode cX4_longestInBoth 23 = .ok (.istore 7, 2) := by decide +kernel
theorem dX4_longestInBoth_25 : decode cX4_longestInBoth 25 = .ok (.iload 7, 2) := by decide +kernel
theorem dX4_longestInBoth_27 : decode cX4_longestInBoth 27 = .ok (.aload_n 0, 1) := by decide +kernel
theorem dX4_longestInBoth_28 : decode cX4_longestInBoth 28 = .ok (.getfield 9, 3) := by decide +kernel
theorem dX4_longestInBoth_31 : decode cX4_longestInBoth 31 = .ok (.iload_n 2, 1) := by decide +kernel
theorem dX4_longestInBoth_32 : decode cX4_longestInBoth 32 = .ok (.invokestatic 26, 3) := by decide +kernel
theorem dX4_longestInBoth_35 : decode cX4_longestInBoth 35 = .ok (.if_icmp .ge 36, 3) := by decide +kernel
theorem dX4_longestInBoth_38 : decode cX4_longestInBoth 38 = .ok (.aload_n 0, 1) := by decide +kernel
theorem dX4_longestInBoth_39 : decode cX4_longestInBoth 39 = .ok (.iload_n 1, 1) := by decide +kernel
theorem dX4_longestInBoth_40 : decode cX4_longestInBoth 40 = .ok (.iload 6, 2) := by decide +kernel
theorem dX4_longestInBoth_42 : decode cX4_longestInBoth 42 = .ok (.iload_n 2, 1) := by decide +kernel
theorem dX4_longestInBoth_43 : decode cX4_longestInBoth 43 = .ok (.iload 7, 2) := by decide +kernel
theorem dX4_longestInBoth_45 : decode cX4_longestInBoth 45 = .ok (.invokevirtual 38, 3) := by decide +kernel
theorem dX4_longestInBoth_48 : decode cX4_longestInBoth 48 = .ok (.istore 8, 2) := by decide +kernel
theorem dX4_longestInBoth_50 : decode cX4_longestInBoth 50 = .ok (.iload 8, 2) := by decide +kernel
theorem dX4_longestInBoth_52 : decode cX4_longestInBoth 52 = .ok (.iload 4, 2) := by decide +kernel
theorem dX4_longestInBoth_54 : decode cX4_longestInBoth 54 = .ok (.if_icmp .le 11, 3) := by decide +kernel
theorem dX4_longestInBoth_57 : decode cX4_longestInBoth 57 = .ok (.iload 8, 2) := by decide +kernel
theorem dX4_longestInBoth_59 : decode cX4_longestInBoth 59 = .ok (.istore 4, 2) := by decide +kernel
theorem dX4_longestInBoth_61 : decode cX4_longestInBoth 61 = .ok (.iload 6, 2) := by decide +kernel
theorem dX4_longestInBoth_63 : decode cX4_longestInBoth 63 = .ok (.istore 5, 2) := by decide +kernel
theorem dX4_longestInBoth_65 : decode cX4_longestInBoth 65 = .ok (.iinc 7 1, 3) := by decide +kernel
theorem dX4_longestInBoth_68 : decode cX4_longestInBoth 68 = .ok (.goto (-43), 3) := by decide +kernel
theorem dX4_longestInBoth_71 : decode cX4_longestInBoth 71 = .ok (.iinc 6 1, 3) := by decide +kernel
theorem dX4_longestInBoth_74 : decode cX4_longestInBoth 74 = .ok (.goto (-65), 3) := by decide +kernel
theorem dX4_longestInBoth_77 : decode cX4_longestInBoth 77 = .ok (.iload_n 3, 1) := by decide +kernel
theorem dX4_longestInBoth_78 : decode cX4_longestInBoth 78 = .ok (.ifCond .eq 8, 3) := by decide +kernel
theorem dX4_longestInBoth_81 : decode cX4_longestInBoth 81 = .ok (.iload 5, 2) := by decide +kernel
theorem dX4_longestInBoth_83 : decode cX4_longestInBoth 83 = .ok (.goto 5, 3) := by decide +kernel
theorem dX4_longestInBoth_86 : decode cX4_longestInBoth 86 = .ok (.iload 4, 2) := by decide +kernel
theorem dX4_longestInBoth_88 : decode cX4_longestInBoth 88 = .ok (.ireturn, 1) := by decide +kernel
set_option maxRecDepth 10000 in
theorem wX4_longestInBoth_0 {g : zG} {I : Nat → Nat → Int32} {P : Nat → Nat → Option Nat} {r : Option Value} {h' : zH} {a0 : Nat} {x1 : Int32} {x2 : Int32} {x3 : Int32} (H : Zt none mX4_longestInBoth 0 0 9 [(0, .ref a0), (1, .int x1), (2, .int x2), (3, .int x3), (4, .int 0), (5, .int (-1)), (6, .int 0)] [] (g, I, P) r h') : Zt none mX4_longestInBoth 0 0 0 [(0, .ref a0), (1, .int x1), (2, .int x2), (3, .int x3)] [] (g, I, P) r h' := by
  refine z_iconst (w := 0) dX4_longestInBoth_0 (by decide) (z_istore (lv' := [(4, .int 0), (0, .ref a0), (1, .int x1), (2, .int x2), (3, .int x3)]) dX4_longestInBoth_1 (by decide) rfl (z_iconst (w := (-1)) dX4_longestInBoth_3 (by decide) (z_istore (lv' := [(5, .int (-1)), (4, .int 0), (0, .ref a0), (1, .int x1), (2, .int x2), (3, .int x3)]) dX4_longestInBoth_4 (by decide) rfl (z_iconst (w := 0) dX4_longestInBoth_6 (by decide) (z_istore (lv' := [(6, .int 0), (5, .int (-1)), (4, .int 0), (0, .ref a0), (1, .int x1), (2, .int x2), (3, .int x3)]) dX4_longestInBoth_7 (by decide) rfl ?_)))))
  exact z_less [3, 4, 5, 6, 2, 1, 0] rfl H
theorem eX4_longestInBoth {g : zG} {I : Nat → Nat → Int32} {P : Nat → Nat → Option Nat} {r : Option Value} {h' : zH} {a0 : Nat} {x1 : Int32} {x2 : Int32} {x3 : Int32} (H : Zt none mX4_longestInBoth 0 0 0 [(0, .ref a0), (1, .int x1), (2, .int x2), (3, .int x3)] [] (g, I, P) r h') : Cl mX4_longestInBoth [.ref a0, .int x1, .int x2, .int x3] (g, I, P) r h' := Cl.of (by decide) (Nat.le_of_ble_eq_true rfl) H
set_option maxRecDepth 10000 in
theorem wX4_longestInBoth_9 {g : zG} {I : Nat → Nat → Int32} {P : Nat → Nat → Option Nat} {r : Option Value} {h' : zH} {a0 : Nat} {x1 : Int32} {x2 : Int32} {x3 : Int32} {x4 : Int32} {x5 : Int32} {x6 : Int32} (H : zk g a0 4 ∧ ∃ b1, P a0 1 = some b1 ∧ ∃ (w4 : Int32), Cl mX11_got [.ref b1, .int x1] (g, I, P) (some (.int w4)) (g, I, P) ∧ ((w4 ≤ x6) → ((x3 = 0) → r = some (.int x4) ∧ h' = (g, I, P)) ∧ ((¬ x3 = 0) → r = some (.int x5) ∧ h' = (g, I, P))) ∧ ((¬ w4 ≤ x6) → Zt none mX4_longestInBoth 0 0 25 [(0, .ref a0), (1, .int x1), (2, .int x2), (3, .int x3), (4, .int x4), (5, .int x5), (6, .int x6), (7, .int 0)] [] (g, I, P) r h')) : Zt none mX4_longestInBoth 0 0 9 [(0, .ref a0), (1, .int x1), (2, .int x2), (3, .int x3), (4, .int x4), (5, .int x5), (6, .int x6)] [] (g, I, P) r h' := by
  refine z_iload 6 dX4_longestInBoth_9 rfl (z_aload_n 0 dX4_longestInBoth_11 rfl rfl ?_)
  obtain ⟨oe3, b1, e3, H2⟩ := H
  refine z_getP dX4_longestInBoth_12 wf_X4_9 (by decide) (by decide) rfl oe3 (fun q => (by cases q.symm.trans e3)) (fun j q => ?_)
  cases q.symm.trans e3
  refine z_iload_n 1 dX4_longestInBoth_15 rfl ?_
  obtain ⟨w4, c5, H6⟩ := H2
  refine z_stat (As := [.ref b1, .int x1]) (st := [.int x6]) (r1 := (some (.int w4))) (h1 := (g, I, P)) dX4_longestInBoth_16 kX11_got wm_X4_26 ⟨by decide, by decide⟩ rfl rfl (Nat.le_of_ble_eq_true rfl) (by decide) (by decide) c5 ?_
  refine z_icmp_ge (t := 77) dX4_longestInBoth_19 (by decide) (fun q => ?_) (fun q => ?_)
  · have H7 := H6.1 q
    refine z_iload_n 3 dX4_longestInBoth_77 rfl ?_
    refine z_if_eq (t := 86) dX4_longestInBoth_78 (by decide) (fun q => ?_) (fun q => ?_)
    · have H8 := H7.1 q
      refine z_iload 4 dX4_longestInBoth_86 rfl ?_
      obtain ⟨rfl, rfl⟩ := H8
      exact z_iret dX4_longestInBoth_88 rfl (by decide) (by decide)
    · have H9 := H7.2 q
      refine z_iload 5 dX4_longestInBoth_81 rfl (z_goto (t := 88) dX4_longestInBoth_83 (by decide) ?_)
      obtain ⟨rfl, rfl⟩ := H9
      exact z_iret dX4_longestInBoth_88 rfl (by decide) (by decide)
  · have H10 := H6.2 q
    refine z_iconst (w := 0) dX4_longestInBoth_22 (by decide) (z_istore (lv' := [(7, .int 0), (0, .ref a0), (1, .int x1), (2, .int x2), (3, .int x3), (4, .int x4), (5, .int x5), (6, .int x6)]) dX4_longestInBoth_23 (by decide) rfl ?_)
    exact z_less [1, 2, 3, 4, 5, 6, 7, 0] rfl H10
set_option maxRecDepth 10000 in
theorem wX4_longestInBoth_25 {g : zG} {I : Nat → Nat → Int32} {P : Nat → Nat → Option Nat} {r : Option Value} {h' : zH} {a0 : Nat} {x1 : Int32} {x2 : Int32} {x3 : Int32} {x4 : Int32} {x5 : Int32} {x6 : Int32} {x7 : Int32} (H : zk g a0 4 ∧ ∃ b1, P a0 1 = some b1 ∧ ∃ (w4 : Int32), Cl mX11_got [.ref b1, .int x2] (g, I, P) (some (.int w4)) (g, I, P) ∧ ((w4 ≤ x7) → Zt none mX4_longestInBoth 0 0 9 [(0, .ref a0), (1, .int x1), (2, .int x2), (3, .int x3), (4, .int x4), (5, .int x5), (6, .int (x6 + 1))] [] (g, I, P) r h') ∧ ((¬ w4 ≤ x7) → zk g a0 4 ∧ ∃ (w9 : Int32), Cl mX4_sameFrom [.ref a0, .int x1, .int x6, .int x2, .int x7] (g, I, P) (some (.int w9)) (g, I, P) ∧ ((w9 ≤ x4) → Zt none mX4_longestInBoth 0 0 25 [(0, .ref a0), (1, .int x1), (2, .int x2), (3, .int x3), (4, .int x4), (5, .int x5), (6, .int x6), (7, .int (x7 + 1))] [] (g, I, P) r h') ∧ ((¬ w9 ≤ x4) → Zt none mX4_longestInBoth 0 0 25 [(0, .ref a0), (1, .int x1), (2, .int x2), (3, .int x3), (4, .int w9), (5, .int x6), (6, .int x6), (7, .int (x7 + 1))] [] (g, I, P) r h'))) : Zt none mX4_longestInBoth 0 0 25 [(0, .ref a0), (1, .int x1), (2, .int x2), (3, .int x3), (4, .int x4), (5, .int x5), (6, .int x6), (7, .int x7)] [] (g, I, P) r h' := by
  refine z_iload 7 dX4_longestInBoth_25 rfl (z_aload_n 0 dX4_longestInBoth_27 rfl rfl ?_)
  obtain ⟨oe3, b1, e3, H2⟩ := H
  refine z_getP dX4_longestInBoth_28 wf_X4_9 (by decide) (by decide) rfl oe3 (fun q => (by cases q.symm.trans e3)) (fun j q => ?_)
  cases q.symm.trans e3
  refine z_iload_n 2 dX4_longestInBoth_31 rfl ?_
  obtain ⟨w4, c5, H6⟩ := H2
  refine z_stat (As := [.ref b1, .int x2]) (st := [.int x7]) (r1 := (some (.int w4))) (h1 := (g, I, P)) dX4_longestInBoth_32 kX11_got wm_X4_26 ⟨by decide, by decide⟩ rfl rfl (Nat.le_of_ble_eq_true rfl) (by decide) (by decide) c5 ?_
  refine z_icmp_ge (t := 71) dX4_longestInBoth_35 (by decide) (fun q => ?_) (fun q => ?_)
  · have H7 := H6.1 q
    refine z_iinc (y := x6 + 1) (lv' := [(6, .int (x6 + 1)), (0, .ref a0), (1, .int x1), (2, .int x2), (3, .int x3), (4, .int x4), (5, .int x5), (7, .int x7)]) 6 dX4_longestInBoth_71 rfl rfl (by decide) rfl (z_goto (t := 9) dX4_longestInBoth_74 (by decide) ?_)
    exact z_less [1, 2, 3, 4, 5, 6, 0] rfl H7
  · have H8 := H6.2 q
    refine z_aload_n 0 dX4_longestInBoth_38 rfl rfl (z_iload_n 1 dX4_longestInBoth_39 rfl (z_iload 6 dX4_longestInBoth_40 rfl (z_iload_n 2 dX4_longestInBoth_42 rfl (z_iload 7 dX4_longestInBoth_43 rfl ?_))))
    obtain ⟨oc10, w9, c10, H11⟩ := H8
    refine z_virt (As := [.int x1, .int x6, .int x2, .int x7]) (st := []) (r1 := (some (.int w9))) (h1 := (g, I, P)) dX4_longestInBoth_45 kX4_sameFrom wm_X4_38 ⟨by decide, by decide⟩ rfl rfl (Nat.le_of_ble_eq_true rfl) (by decide) (by decide) oc10 c10 ?_
    refine z_istore (lv' := [(8, .int w9), (0, .ref a0), (1, .int x1), (2, .int x2), (3, .int x3), (4, .int x4), (5, .int x5), (6, .int x6), (7, .int x7)]) dX4_longestInBoth_48 (by decide) rfl (z_iload 0 dX4_longestInBoth_50 rfl (z_iload 5 dX4_longestInBoth_52 rfl ?_))
    refine z_icmp_le (t := 65) dX4_longestInBoth_54 (by decide) (fun q => ?_) (fun q => ?_)
    · have H12 := H11.1 q
      refine z_iinc (y := x7 + 1) (lv' := [(7, .int (x7 + 1)), (8, .int w9), (0, .ref a0), (1, .int x1), (2, .int x2), (3, .int x3), (4, .int x4), (5, .int x5), (6, .int x6)]) 8 dX4_longestInBoth_65 rfl rfl (by decide) rfl (z_goto (t := 25) dX4_longestInBoth_68 (by decide) ?_)
      exact z_less [2, 3, 4, 5, 6, 7, 8, 0] rfl H12
    · have H13 := H11.2 q
      refine z_iload 0 dX4_longestInBoth_57 rfl (z_istore (lv' := [(4, .int w9), (8, .int w9), (0, .ref a0), (1, .int x1), (2, .int x2), (3, .int x3), (5, .int x5), (6, .int x6), (7, .int x7)]) dX4_longestInBoth_59 (by decide) rfl (z_iload 7 dX4_longestInBoth_61 rfl (z_istore (lv' := [(5, .int x6), (4, .int w9), (8, .int w9), (0, .ref a0), (1, .int x1), (2, .int x2), (3, .int x3), (6, .int x6), (7, .int x7)]) dX4_longestInBoth_63 (by decide) rfl (z_iinc (y := x7 + 1) (lv' := [(7, .int (x7 + 1)), (5, .int x6), (4, .int w9), (8, .int w9), (0, .ref a0), (1, .int x1), (2, .int x2), (3, .int x3), (6, .int x6)]) 8 dX4_longestInBoth_65 rfl rfl (by decide) rfl (z_goto (t := 25) dX4_longestInBoth_68 (by decide) ?_)))))
      exact z_less [4, 5, 6, 7, 2, 1, 8, 0] rfl H13
theorem dX4_sameFrom_0 : decode cX4_sameFrom 0 = .ok (.aload_n 0, 1) := by decide +kernel
theorem dX4_sameFrom_1 : decode cX4_sameFrom 1 = .ok (.getfield 9, 3) := by decide +kernel
theorem dX4_sameFrom_4 : decode cX4_sameFrom 4 = .ok (.iload_n 1, 1) := by decide +kernel
theorem dX4_sameFrom_5 : decode cX4_sameFrom 5 = .ok (.invokestatic 26, 3) := by decide +kernel
theorem dX4_sameFrom_8 : decode cX4_sameFrom 8 = .ok (.iload_n 2, 1) := by decide +kernel
theorem dX4_sameFrom_9 : decode cX4_sameFrom 9 = .ok (.isub, 1) := by decide +kernel
theorem dX4_sameFrom_10 : decode cX4_sameFrom 10 = .ok (.aload_n 0, 1) := by decide +kernel
theorem dX4_sameFrom_11 : decode cX4_sameFrom 11 = .ok (.getfield 9, 3) := by decide +kernel
theorem dX4_sameFrom_14 : decode cX4_sameFrom 14 = .ok (.iload_n 3, 1) := by decide +kernel
theorem dX4_sameFrom_15 : decode cX4_sameFrom 15 = .ok (.invokestatic 26, 3) := by decide +kernel
theorem dX4_sameFrom_18 : decode cX4_sameFrom 18 = .ok (.iload 4, 2) := by decide +kernel
theorem dX4_sameFrom_20 : decode cX4_sameFrom 20 = .ok (.isub, 1) := by decide +kernel
theorem dX4_sameFrom_21 : decode cX4_sameFrom 21 = .ok (.invokestatic 42, 3) := by decide +kernel
theorem dX4_sameFrom_24 : decode cX4_sameFrom 24 = .ok (.istore 5, 2) := by decide +kernel
theorem dX4_sameFrom_26 : decode cX4_sameFrom 26 = .ok (.iconst 0, 1) := by decide +kernel
theorem dX4_sameFrom_27 : decode cX4_sameFrom 27 = .ok (.istore 6, 2) := by decide +kernel
theorem dX4_sameFrom_29 : decode cX4_sameFrom 29 = .ok (.iload 6, 2) := by decide +kernel
theorem dX4_sameFrom_31 : decode cX4_sameFrom 31 = .ok (.iload 5, 2) := by decide +kernel
theorem dX4_sameFrom_33 : decode cX4_sameFrom 33 = .ok (.if_icmp .ge 31, 3) := by decide +kernel
theorem dX4_sameFrom_36 : decode cX4_sameFrom 36 = .ok (.aload_n 0, 1) := by decide +kernel
theorem dX4_sameFrom_37 : decode cX4_sameFrom 37 = .ok (.iload_n 1, 1) := by decide +kernel
theorem dX4_sameFrom_38 : decode cX4_sameFrom 38 = .ok (.iload_n 2, 1) := by decide +kernel
theorem dX4_sameFrom_39 : decode cX4_sameFrom 39 = .ok (.iload 6, 2) := by decide +kernel
theorem dX4_sameFrom_41 : decode cX4_sameFrom 41 = .ok (.iadd, 1) := by decide +kernel
theorem dX4_sameFrom_42 : decode cX4_sameFrom 42 = .ok (.invokevirtual 34, 3) := by decide +kernel
theorem dX4_sameFrom_45 : decode cX4_sameFrom 45 = .ok (.aload_n 0, 1) := by decide +kernel
theorem dX4_sameFrom_46 : decode cX4_sameFrom 46 = .ok (.iload_n 3, 1) := by decide +kernel
theorem dX4_sameFrom_47 : decode cX4_sameFrom 47 = .ok (.iload 4, 2) := by decide +kernel
theorem dX4_sameFrom_49 : decode cX4_sameFrom 49 = .ok (.iload 6, 2) := by decide +kernel
theorem dX4_sameFrom_51 : decode cX4_sameFrom 51 = .ok (.iadd, 1) := by decide +kernel
theorem dX4_sameFrom_52 : decode cX4_sameFrom 52 = .ok (.invokevirtual 34, 3) := by decide +kernel
theorem dX4_sameFrom_55 : decode cX4_sameFrom 55 = .ok (.if_icmp .ne 9, 3) := by decide +kernel
theorem dX4_sameFrom_58 : decode cX4_sameFrom 58 = .ok (.iinc 6 1, 3) := by decide +kernel
theorem dX4_sameFrom_61 : decode cX4_sameFrom 61 = .ok (.goto (-32), 3) := by decide +kernel
theorem dX4_sameFrom_64 : decode cX4_sameFrom 64 = .ok (.iload 6, 2) := by decide +kernel
theorem dX4_sameFrom_66 : decode cX4_sameFrom 66 = .ok (.ireturn, 1) := by decide +kernel
set_option maxRecDepth 10000 in
theorem wX4_sameFrom_0 {g : zG} {I : Nat → Nat → Int32} {P : Nat → Nat → Option Nat} {r : Option Value} {h' : zH} {a0 : Nat} {x1 : Int32} {x2 : Int32} {x3 : Int32} {x4 : Int32} (H : zk g a0 4 ∧ ∃ b1, P a0 1 = some b1 ∧ ∃ (w4 : Int32), Cl mX11_got [.ref b1, .int x1] (g, I, P) (some (.int w4)) (g, I, P) ∧ zk g a0 4 ∧ ∃ b7, P a0 1 = some b7 ∧ ∃ (w10 : Int32), Cl mX11_got [.ref b7, .int x3] (g, I, P) (some (.int w10)) (g, I, P) ∧ ∀ y13 : Int32, y13 = zmmin (w4 - x2) (w10 - x4) → Zt none mX4_sameFrom 0 0 29 [(0, .ref a0), (1, .int x1), (2, .int x2), (3, .int x3), (4, .int x4), (5, .int y13), (6, .int 0)] [] (g, I, P) r h') : Zt none mX4_sameFrom 0 0 0 [(0, .ref a0), (1, .int x1), (2, .int x2), (3, .int x3), (4, .int x4)] [] (g, I, P) r h' := by
  refine z_aload_n 0 dX4_sameFrom_0 rfl rfl ?_
  obtain ⟨oe3, b1, e3, H2⟩ := H
  refine z_getP dX4_sameFrom_1 wf_X4_9 (by decide) (by decide) rfl oe3 (fun q => (by cases q.symm.trans e3)) (fun j q => ?_)
  cases q.symm.trans e3
  refine z_iload_n 1 dX4_sameFrom_4 rfl ?_
  obtain ⟨w4, c5, H6⟩ := H2
  refine z_stat (As := [.ref b1, .int x1]) (st := []) (r1 := (some (.int w4))) (h1 := (g, I, P)) dX4_sameFrom_5 kX11_got wm_X4_26 ⟨by decide, by decide⟩ rfl rfl (Nat.le_of_ble_eq_true rfl) (by decide) (by decide) c5 ?_
  refine z_iload_n 2 dX4_sameFrom_8 rfl (z_isub dX4_sameFrom_9 (z_aload_n 0 dX4_sameFrom_10 rfl rfl ?_))
  obtain ⟨oe9, b7, e9, H8⟩ := H6
  refine z_getP dX4_sameFrom_11 wf_X4_9 (by decide) (by decide) rfl oe9 (fun q => (by cases q.symm.trans e9)) (fun j q => ?_)
  cases q.symm.trans e9
  refine z_iload_n 3 dX4_sameFrom_14 rfl ?_
  obtain ⟨w10, c11, H12⟩ := H8
  refine z_stat (As := [.ref b7, .int x3]) (st := [.int (w4 - x2)]) (r1 := (some (.int w10))) (h1 := (g, I, P)) dX4_sameFrom_15 kX11_got wm_X4_26 ⟨by decide, by decide⟩ rfl rfl (Nat.le_of_ble_eq_true rfl) (by decide) (by decide) c11 ?_
  refine z_iload 4 dX4_sameFrom_18 rfl (z_isub dX4_sameFrom_20 (z_mmin dX4_sameFrom_21 wm_X4_42 (by decide) (Nat.le_of_ble_eq_true rfl) (by decide) (by decide) w_mnS w_mI w_mnC ?_))
  refine z_nm (fun y13 e_y13 => ?_)
  have H14 := H12 y13 e_y13
  refine z_istore (lv' := [(5, .int y13), (0, .ref a0), (1, .int x1), (2, .int x2), (3, .int x3), (4, .int x4)]) dX4_sameFrom_24 (by decide) rfl (z_iconst (w := 0) dX4_sameFrom_26 (by decide) (z_istore (lv' := [(6, .int 0), (5, .int y13), (0, .ref a0), (1, .int x1), (2, .int x2), (3, .int x3), (4, .int x4)]) dX4_sameFrom_27 (by decide) rfl ?_))
  exact z_less [2, 3, 4, 5, 6, 1, 0] rfl H14
theorem eX4_sameFrom {g : zG} {I : Nat → Nat → Int32} {P : Nat → Nat → Option Nat} {r : Option Value} {h' : zH} {a0 : Nat} {x1 : Int32} {x2 : Int32} {x3 : Int32} {x4 : Int32} (H : Zt none mX4_sameFrom 0 0 0 [(0, .ref a0), (1, .int x1), (2, .int x2), (3, .int x3), (4, .int x4)] [] (g, I, P) r h') : Cl mX4_sameFrom [.ref a0, .int x1, .int x2, .int x3, .int x4] (g, I, P) r h' := Cl.of (by decide) (Nat.le_of_ble_eq_true rfl) H
set_option maxRecDepth 10000 in
theorem wX4_sameFrom_29 {g : zG} {I : Nat → Nat → Int32} {P : Nat → Nat → Option Nat} {r : Option Value} {h' : zH} {a0 : Nat} {x1 : Int32} {x2 : Int32} {x3 : Int32} {x4 : Int32} {x5 : Int32} {x6 : Int32} (H : ((x5 ≤ x6) → r = some (.int x6) ∧ h' = (g, I, P)) ∧ ((¬ x5 ≤ x6) → zk g a0 4 ∧ ∃ (w3 : Int32), Cl mX4_letterOf [.ref a0, .int x1, .int (x2 + x6)] (g, I, P) (some (.int w3)) (g, I, P) ∧ zk g a0 4 ∧ ∃ (w6 : Int32), Cl mX4_letterOf [.ref a0, .int x3, .int (x4 + x6)] (g, I, P) (some (.int w6)) (g, I, P) ∧ ((¬ w3 = w6) → r = some (.int x6) ∧ h' = (g, I, P)) ∧ ((w3 = w6) → Zt none mX4_sameFrom 0 0 29 [(0, .ref a0), (1, .int x1), (2, .int x2), (3, .int x3), (4, .int x4), (5, .int x5), (6, .int (x6 + 1))] [] (g, I, P) r h'))) : Zt none mX4_sameFrom 0 0 29 [(0, .ref a0), (1, .int x1), (2, .int x2), (3, .int x3), (4, .int x4), (5, .int x5), (6, .int x6)] [] (g, I, P) r h' := by
  refine z_iload 6 dX4_sameFrom_29 rfl (z_iload 5 dX4_sameFrom_31 rfl ?_)
  refine z_icmp_ge (t := 64) dX4_sameFrom_33 (by decide) (fun q => ?_) (fun q => ?_)
  · have H1 := H.1 q
    refine z_iload 6 dX4_sameFrom_64 rfl ?_
    obtain ⟨rfl, rfl⟩ := H1
    exact z_iret dX4_sameFrom_66 rfl (by decide) (by decide)
  · have H2 := H.2 q
    refine z_aload_n 0 dX4_sameFrom_36 rfl rfl (z_iload_n 1 dX4_sameFrom_37 rfl (z_iload_n 2 dX4_sameFrom_38 rfl (z_iload 6 dX4_sameFrom_39 rfl (z_iadd dX4_sameFrom_41 ?_))))
    obtain ⟨oc4, w3, c4, H5⟩ := H2
    refine z_virt (As := [.int x1, .int (x2 + x6)]) (st := []) (r1 := (some (.int w3))) (h1 := (g, I, P)) dX4_sameFrom_42 kX4_letterOf wm_X4_34 ⟨by decide, by decide⟩ rfl rfl (Nat.le_of_ble_eq_true rfl) (by decide) (by decide) oc4 c4 ?_
    refine z_aload_n 0 dX4_sameFrom_45 rfl rfl (z_iload_n 3 dX4_sameFrom_46 rfl (z_iload 4 dX4_sameFrom_47 rfl (z_iload 6 dX4_sameFrom_49 rfl (z_iadd dX4_sameFrom_51 ?_))))
    obtain ⟨oc7, w6, c7, H8⟩ := H5
    refine z_virt (As := [.int x3, .int (x4 + x6)]) (st := [.int w3]) (r1 := (some (.int w6))) (h1 := (g, I, P)) dX4_sameFrom_52 kX4_letterOf wm_X4_34 ⟨by decide, by decide⟩ rfl rfl (Nat.le_of_ble_eq_true rfl) (by decide) (by decide) oc7 c7 ?_
    refine z_icmp_ne (t := 64) dX4_sameFrom_55 (by decide) (fun q => ?_) (fun q => ?_)
    · have H9 := H8.1 q
      refine z_iload 6 dX4_sameFrom_64 rfl ?_
      obtain ⟨rfl, rfl⟩ := H9
      exact z_iret dX4_sameFrom_66 rfl (by decide) (by decide)
    · have H10 := H8.2 q
      refine z_iinc (y := x6 + 1) (lv' := [(6, .int (x6 + 1)), (0, .ref a0), (1, .int x1), (2, .int x2), (3, .int x3), (4, .int x4), (5, .int x5)]) 6 dX4_sameFrom_58 rfl rfl (by decide) rfl (z_goto (t := 29) dX4_sameFrom_61 (by decide) ?_)
      exact z_less [1, 2, 3, 4, 5, 6, 0] rfl H10
theorem dX5_copy_0 : decode cX5_copy 0 = .ok (.aload_n 0, 1) := by decide +kernel
theorem dX5_copy_1 : decode cX5_copy 1 = .ok (.ifnull 7, 3) := by decide +kernel
theorem dX5_copy_4 : decode cX5_copy 4 = .ok (.aload_n 1, 1) := by decide +kernel
theorem dX5_copy_5 : decode cX5_copy 5 = .ok (.ifnonnull 4, 3) := by decide +kernel
theorem dX5_copy_8 : decode cX5_copy 8 = .ok (.return_, 1) := by decide +kernel
theorem dX5_copy_9 : decode cX5_copy 9 = .ok (.aload_n 1, 1) := by decide +kernel
theorem dX5_copy_10 : decode cX5_copy 10 = .ok (.aload_n 0, 1) := by decide +kernel
theorem dX5_copy_11 : decode cX5_copy 11 = .ok (.getfield 18, 3) := by decide +kernel
theorem dX5_copy_14 : decode cX5_copy 14 = .ok (.putfield 18, 3) := by decide +kernel
theorem dX5_copy_17 : decode cX5_copy 17 = .ok (.aload_n 0, 1) := by decide +kernel
theorem dX5_copy_18 : decode cX5_copy 18 = .ok (.getfield 9, 3) := by decide +kernel
theorem dX5_copy_21 : decode cX5_copy 21 = .ok (.aload_n 1, 1) := by decide +kernel
theorem dX5_copy_22 : decode cX5_copy 22 = .ok (.getfield 9, 3) := by decide +kernel
theorem dX5_copy_25 : decode cX5_copy 25 = .ok (.invokestatic 22, 3) := by decide +kernel
theorem dX5_copy_28 : decode cX5_copy 28 = .ok (.aload_n 0, 1) := by decide +kernel
theorem dX5_copy_29 : decode cX5_copy 29 = .ok (.getfield 15, 3) := by decide +kernel
theorem dX5_copy_32 : decode cX5_copy 32 = .ok (.aload_n 1, 1) := by decide +kernel
theorem dX5_copy_33 : decode cX5_copy 33 = .ok (.getfield 15, 3) := by decide +kernel
theorem dX5_copy_36 : decode cX5_copy 36 = .ok (.invokestatic 22, 3) := by decide +kernel
theorem dX5_copy_39 : decode cX5_copy 39 = .ok (.return_, 1) := by decide +kernel
set_option maxRecDepth 10000 in
theorem wX5_copy_0 {g : zG} {I : Nat → Nat → Int32} {P : Nat → Nat → Option Nat} {r : Option Value} {h' : zH} {a0 : Nat} {a1 : Nat} (H : zk g a0 5 ∧ zk g a1 5 ∧ zk g a0 5 ∧ ∃ b1, P a0 1 = some b1 ∧ zk g a1 5 ∧ ∃ b4, P a1 1 = some b4 ∧ ∃ (I7 : Nat → Nat → Int32), Cl mX11_copyRow [.ref b1, .ref b4] (g, zU I a1 0 (I a0 0), P) none (g, I7, P) ∧ zk g a0 5 ∧ ∃ b10, P a0 2 = some b10 ∧ zk g a1 5 ∧ ∃ b13, P a1 2 = some b13 ∧ ∃ (I16 : Nat → Nat → Int32), Cl mX11_copyRow [.ref b10, .ref b13] (g, I7, P) none (g, I16, P) ∧ r = none ∧ h' = (g, I16, P)) : Zt none mX5_copy 0 0 0 [(0, .ref a0), (1, .ref a1)] [] (g, I, P) r h' := by
  refine z_aload_n 0 dX5_copy_0 rfl rfl (z_ifnullR dX5_copy_1 (z_aload_n 1 dX5_copy_4 rfl rfl (z_ifnonnullR (t := 9) dX5_copy_5 (by decide) (z_aload_n 1 dX5_copy_9 rfl rfl (z_aload_n 0 dX5_copy_10 rfl rfl (z_getI dX5_copy_11 wf_X5_18 (by decide) (by decide) rfl H.1 (z_putI (g := g) (I := I) (Q := P) dX5_copy_14 wf_X5_18 (by decide) (by decide) rfl (Or.inl rfl) (zfit_int rfl) H.2.1 (z_aload_n 0 dX5_copy_17 rfl rfl ?_))))))))
  obtain ⟨oe3, b1, e3, H2⟩ := H.2.2
  refine z_getP dX5_copy_18 wf_X5_9 (by decide) (by decide) rfl oe3 (fun q => (by cases q.symm.trans e3)) (fun j q => ?_)
  cases q.symm.trans e3
  refine z_aload_n 1 dX5_copy_21 rfl rfl ?_
  obtain ⟨oe6, b4, e6, H5⟩ := H2
  refine z_getP dX5_copy_22 wf_X5_9 (by decide) (by decide) rfl oe6 (fun q => (by cases q.symm.trans e6)) (fun j q => ?_)
  cases q.symm.trans e6
  obtain ⟨I7, c8, H9⟩ := H5
  refine z_stat (As := [.ref b1, .ref b4]) (st := []) (r1 := none) (h1 := (g, I7, P)) dX5_copy_25 kX11_copyRow wm_X5_22 ⟨by decide, by decide⟩ rfl rfl (Nat.le_of_ble_eq_true rfl) (by decide) (by decide) c8 ?_
  refine z_aload_n 0 dX5_copy_28 rfl rfl ?_
  obtain ⟨oe12, b10, e12, H11⟩ := H9
  refine z_getP dX5_copy_29 wf_X5_15 (by decide) (by decide) rfl oe12 (fun q => (by cases q.symm.trans e12)) (fun j q => ?_)
  cases q.symm.trans e12
  refine z_aload_n 1 dX5_copy_32 rfl rfl ?_
  obtain ⟨oe15, b13, e15, H14⟩ := H11
  refine z_getP dX5_copy_33 wf_X5_15 (by decide) (by decide) rfl oe15 (fun q => (by cases q.symm.trans e15)) (fun j q => ?_)
  cases q.symm.trans e15
  obtain ⟨I16, c17, H18⟩ := H14
  refine z_stat (As := [.ref b10, .ref b13]) (st := []) (r1 := none) (h1 := (g, I16, P)) dX5_copy_36 kX11_copyRow wm_X5_22 ⟨by decide, by decide⟩ rfl rfl (Nat.le_of_ble_eq_true rfl) (by decide) (by decide) c17 ?_
  obtain ⟨rfl, rfl⟩ := H18
  exact z_vret dX5_copy_39 rfl (by decide) (by decide)
theorem eX5_copy {g : zG} {I : Nat → Nat → Int32} {P : Nat → Nat → Option Nat} {r : Option Value} {h' : zH} {a0 : Nat} {a1 : Nat} (H : Zt none mX5_copy 0 0 0 [(0, .ref a0), (1, .ref a1)] [] (g, I, P) r h') : Cl mX5_copy [.ref a0, .ref a1] (g, I, P) r h' := Cl.of (by decide) (Nat.le_of_ble_eq_true rfl) H
theorem dX5_look_0 : decode cX5_look 0 = .ok (.iload_n 1, 1) := by decide +kernel
theorem dX5_look_1 : decode cX5_look 1 = .ok (.iconst (-1), 1) := by decide +kernel
theorem dX5_look_2 : decode cX5_look 2 = .ok (.if_icmp .ne 12, 3) := by decide +kernel
theorem dX5_look_5 : decode cX5_look 5 = .ok (.iload_n 2, 1) := by decide +kernel
theorem dX5_look_6 : decode cX5_look 6 = .ok (.ifCond .ne 8, 3) := by decide +kernel
theorem dX5_look_9 : decode cX5_look 9 = .ok (.aload_n 0, 1) := by decide +kernel
theorem dX5_look_10 : decode cX5_look 10 = .ok (.getfield 18, 3) := by decide +kernel
theorem dX5_look_13 : decode cX5_look 13 = .ok (.ireturn, 1) := by decide +kernel
theorem dX5_look_14 : decode cX5_look 14 = .ok (.iload_n 1, 1) := by decide +kernel
theorem dX5_look_15 : decode cX5_look 15 = .ok (.ifCond .lt 11, 3) := by decide +kernel
theorem dX5_look_18 : decode cX5_look 18 = .ok (.iload_n 1, 1) := by decide +kernel
theorem dX5_look_19 : decode cX5_look 19 = .ok (.aload_n 0, 1) := by decide +kernel
theorem dX5_look_20 : decode cX5_look 20 = .ok (.getfield 18, 3) := by decide +kernel
theorem dX5_look_23 : decode cX5_look 23 = .ok (.if_icmp .lt 6, 3) := by decide +kernel
theorem dX5_look_26 : decode cX5_look 26 = .ok (.bipush (-2), 2) := by decide +kernel
theorem dX5_look_28 : decode cX5_look 28 = .ok (.ireturn, 1) := by decide +kernel
theorem dX5_look_29 : decode cX5_look 29 = .ok (.iload_n 2, 1) := by decide +kernel
theorem dX5_look_30 : decode cX5_look 30 = .ok (.lookupswitch 44 #[(0, 26), (1, 35)], 26) := by decide +kernel
theorem dX5_look_56 : decode cX5_look 56 = .ok (.aload_n 0, 1) := by decide +kernel
theorem dX5_look_57 : decode cX5_look 57 = .ok (.getfield 9, 3) := by decide +kernel
theorem dX5_look_60 : decode cX5_look 60 = .ok (.iload_n 1, 1) := by decide +kernel
theorem dX5_look_61 : decode cX5_look 61 = .ok (.invokestatic 26, 3) := by decide +kernel
theorem dX5_look_64 : decode cX5_look 64 = .ok (.ireturn, 1) := by decide +kernel
theorem dX5_look_65 : decode cX5_look 65 = .ok (.aload_n 0, 1) := by decide +kernel
theorem dX5_look_66 : decode cX5_look 66 = .ok (.getfield 15, 3) := by decide +kernel
theorem dX5_look_69 : decode cX5_look 69 = .ok (.iload_n 1, 1) := by decide +kernel
theorem dX5_look_70 : decode cX5_look 70 = .ok (.invokestatic 26, 3) := by decide +kernel
theorem dX5_look_73 : decode cX5_look 73 = .ok (.ireturn, 1) := by decide +kernel
theorem dX5_look_74 : decode cX5_look 74 = .ok (.bipush (-2), 2) := by decide +kernel
theorem dX5_look_76 : decode cX5_look 76 = .ok (.ireturn, 1) := by decide +kernel
set_option maxRecDepth 10000 in
theorem wX5_look_0 {g : zG} {I : Nat → Nat → Int32} {P : Nat → Nat → Option Nat} {r : Option Value} {h' : zH} {a0 : Nat} {x1 : Int32} {x2 : Int32} (H : ((¬ x1 = (-1)) → Zt none mX5_look 0 0 14 [(0, .ref a0), (1, .int x1), (2, .int x2)] [] (g, I, P) r h') ∧ ((x1 = (-1)) → ((¬ x2 = 0) → Zt none mX5_look 0 0 14 [(0, .ref a0), (1, .int x1), (2, .int x2)] [] (g, I, P) r h') ∧ ((x2 = 0) → zk g a0 5 ∧ r = some (.int (I a0 0)) ∧ h' = (g, I, P)))) : Zt none mX5_look 0 0 0 [(0, .ref a0), (1, .int x1), (2, .int x2)] [] (g, I, P) r h' := by
  refine z_iload_n 1 dX5_look_0 rfl (z_iconst (w := (-1)) dX5_look_1 (by decide) ?_)
  refine z_icmp_ne (t := 14) dX5_look_2 (by decide) (fun q => ?_) (fun q => ?_)
  · have H1 := H.1 q
    exact z_less [0, 1, 2] rfl H1
  · have H2 := H.2 q
    refine z_iload_n 2 dX5_look_5 rfl ?_
    refine z_if_ne (t := 14) dX5_look_6 (by decide) (fun q => ?_) (fun q => ?_)
    · have H3 := H2.1 q
      exact z_less [0, 1, 2] rfl H3
    · have H4 := H2.2 q
      refine z_aload_n 0 dX5_look_9 rfl rfl (z_getI dX5_look_10 wf_X5_18 (by decide) (by decide) rfl H4.1 ?_)
      obtain ⟨rfl, rfl⟩ := H4.2
      exact z_iret dX5_look_13 rfl (by decide) (by decide)
theorem eX5_look {g : zG} {I : Nat → Nat → Int32} {P : Nat → Nat → Option Nat} {r : Option Value} {h' : zH} {a0 : Nat} {x1 : Int32} {x2 : Int32} (H : Zt none mX5_look 0 0 0 [(0, .ref a0), (1, .int x1), (2, .int x2)] [] (g, I, P) r h') : Cl mX5_look [.ref a0, .int x1, .int x2] (g, I, P) r h' := Cl.of (by decide) (Nat.le_of_ble_eq_true rfl) H
set_option maxRecDepth 10000 in
theorem wX5_look_14 {g : zG} {I : Nat → Nat → Int32} {P : Nat → Nat → Option Nat} {r : Option Value} {h' : zH} {a0 : Nat} {x1 : Int32} {x2 : Int32} (H : ((x1 < 0) → r = some (.int (-2)) ∧ h' = (g, I, P)) ∧ ((¬ x1 < 0) → zk g a0 5 ∧ ((x1 < I a0 0) → ((x2 = 0) → zk g a0 5 ∧ ∃ b6, P a0 1 = some b6 ∧ ∃ (w9 : Int32), Cl mX11_got [.ref b6, .int x1] (g, I, P) (some (.int w9)) (g, I, P) ∧ r = some (.int w9) ∧ h' = (g, I, P)) ∧ ((x2 = 1) → zk g a0 5 ∧ ∃ b14, P a0 2 = some b14 ∧ ∃ (w17 : Int32), Cl mX11_got [.ref b14, .int x1] (g, I, P) (some (.int w17)) (g, I, P) ∧ r = some (.int w17) ∧ h' = (g, I, P)) ∧ (¬ x2 = 0 → ¬ x2 = 1 → r = some (.int (-2)) ∧ h' = (g, I, P))) ∧ ((¬ x1 < I a0 0) → r = some (.int (-2)) ∧ h' = (g, I, P)))) : Zt none mX5_look 0 0 14 [(0, .ref a0), (1, .int x1), (2, .int x2)] [] (g, I, P) r h' := by
  refine z_iload_n 1 dX5_look_14 rfl ?_
  refine z_if_lt (t := 26) dX5_look_15 (by decide) (fun q => ?_) (fun q => ?_)
  · have H1 := H.1 q
    refine z_bipush (w := (-2)) dX5_look_26 (by decide) ?_
    obtain ⟨rfl, rfl⟩ := H1
    exact z_iret dX5_look_28 rfl (by decide) (by decide)
  · have H2 := H.2 q
    refine z_iload_n 1 dX5_look_18 rfl (z_aload_n 0 dX5_look_19 rfl rfl (z_getI dX5_look_20 wf_X5_18 (by decide) (by decide) rfl H2.1 ?_))
    refine z_icmp_lt (t := 29) dX5_look_23 (by decide) (fun q => ?_) (fun q => ?_)
    · have H3 := H2.2.1 q
      refine z_iload_n 2 dX5_look_29 rfl ?_
      by_cases q4 : x2 = 0
      · have H5 := H3.1 q4
        have eq4 : (x2 : Int32).toInt = 0 := by rw [q4]; decide
        refine z_lookup (off := 26) (t := 56) dX5_look_30 (by decide) (by rw [eq4]; decide) (by decide) ?_
        refine z_aload_n 0 dX5_look_56 rfl rfl ?_
        obtain ⟨oe8, b6, e8, H7⟩ := H5
        refine z_getP dX5_look_57 wf_X5_9 (by decide) (by decide) rfl oe8 (fun q => (by cases q.symm.trans e8)) (fun j q => ?_)
        cases q.symm.trans e8
        refine z_iload_n 1 dX5_look_60 rfl ?_
        obtain ⟨w9, c10, H11⟩ := H7
        refine z_stat (As := [.ref b6, .int x1]) (st := []) (r1 := (some (.int w9))) (h1 := (g, I, P)) dX5_look_61 kX11_got wm_X5_26 ⟨by decide, by decide⟩ rfl rfl (Nat.le_of_ble_eq_true rfl) (by decide) (by decide) c10 ?_
        obtain ⟨rfl, rfl⟩ := H11
        exact z_iret dX5_look_64 rfl (by decide) (by decide)
      by_cases q12 : x2 = 1
      · have H13 := H3.2.1 q12
        have eq12 : (x2 : Int32).toInt = 1 := by rw [q12]; decide
        refine z_lookup (off := 35) (t := 65) dX5_look_30 (by decide) (by rw [eq12]; decide) (by decide) ?_
        refine z_aload_n 0 dX5_look_65 rfl rfl ?_
        obtain ⟨oe16, b14, e16, H15⟩ := H13
        refine z_getP dX5_look_66 wf_X5_15 (by decide) (by decide) rfl oe16 (fun q => (by cases q.symm.trans e16)) (fun j q => ?_)
        cases q.symm.trans e16
        refine z_iload_n 1 dX5_look_69 rfl ?_
        obtain ⟨w17, c18, H19⟩ := H15
        refine z_stat (As := [.ref b14, .int x1]) (st := []) (r1 := (some (.int w17))) (h1 := (g, I, P)) dX5_look_70 kX11_got wm_X5_26 ⟨by decide, by decide⟩ rfl rfl (Nat.le_of_ble_eq_true rfl) (by decide) (by decide) c18 ?_
        obtain ⟨rfl, rfl⟩ := H19
        exact z_iret dX5_look_73 rfl (by decide) (by decide)
      have H20 := H3.2.2 q4 q12
      refine z_lookup (off := 44) (t := 74) dX5_look_30 (by decide) ((lv_osw q4 (by decide)).trans ((lv_osw q12 (by decide)).trans (rfl))) (by decide) ?_
      refine z_bipush (w := (-2)) dX5_look_74 (by decide) ?_
      obtain ⟨rfl, rfl⟩ := H20
      exact z_iret dX5_look_76 rfl (by decide) (by decide)
    · have H21 := H2.2.2 q
      refine z_bipush (w := (-2)) dX5_look_26 (by decide) ?_
      obtain ⟨rfl, rfl⟩ := H21
      exact z_iret dX5_look_28 rfl (by decide) (by decide)
theorem dX5_lastPlace_0 : decode cX5_lastPlace 0 = .ok (.iconst 0, 1) := by decide +kernel
theorem dX5_lastPlace_1 : decode cX5_lastPlace 1 = .ok (.istore_n 1, 1) := by decide +kernel
theorem dX5_lastPlace_2 : decode cX5_lastPlace 2 = .ok (.iconst 0, 1) := by decide +kernel
theorem dX5_lastPlace_3 : decode cX5_lastPlace 3 = .ok (.istore_n 2, 1) := by decide +kernel
theorem dX5_lastPlace_4 : decode cX5_lastPlace 4 = .ok (.iload_n 2, 1) := by decide +kernel
theorem dX5_lastPlace_5 : decode cX5_lastPlace 5 = .ok (.aload_n 0, 1) := by decide +kernel
theorem dX5_lastPlace_6 : decode cX5_lastPlace 6 = .ok (.getfield 18, 3) := by decide +kernel
theorem dX5_lastPlace_9 : decode cX5_lastPlace 9 = .ok (.if_icmp .ge 22, 3) := by decide +kernel
theorem dX5_lastPlace_12 : decode cX5_lastPlace 12 = .ok (.iload_n 1, 1) := by decide +kernel
theorem dX5_lastPlace_13 : decode cX5_lastPlace 13 = .ok (.aload_n 0, 1) := by decide +kernel
theorem dX5_lastPlace_14 : decode cX5_lastPlace 14 = .ok (.getfield 9, 3) := by decide +kernel
theorem dX5_lastPlace_17 : decode cX5_lastPlace 17 = .ok (.iload_n 2, 1) := by decide +kernel
theorem dX5_lastPlace_18 : decode cX5_lastPlace 18 = .ok (.invokestatic 26, 3) := by decide +kernel
theorem dX5_lastPlace_21 : decode cX5_lastPlace 21 = .ok (.invokestatic 30, 3) := by decide +kernel
theorem dX5_lastPlace_24 : decode cX5_lastPlace 24 = .ok (.istore_n 1, 1) := by decide +kernel
theorem dX5_lastPlace_25 : decode cX5_lastPlace 25 = .ok (.iinc 2 1, 3) := by decide +kernel
theorem dX5_lastPlace_28 : decode cX5_lastPlace 28 = .ok (.goto (-24), 3) := by decide +kernel
theorem dX5_lastPlace_31 : decode cX5_lastPlace 31 = .ok (.iload_n 1, 1) := by decide +kernel
theorem dX5_lastPlace_32 : decode cX5_lastPlace 32 = .ok (.ireturn, 1) := by decide +kernel
set_option maxRecDepth 10000 in
theorem wX5_lastPlace_0 {g : zG} {I : Nat → Nat → Int32} {P : Nat → Nat → Option Nat} {r : Option Value} {h' : zH} {a0 : Nat} (H : Zt none mX5_lastPlace 0 0 4 [(0, .ref a0), (1, .int 0), (2, .int 0)] [] (g, I, P) r h') : Zt none mX5_lastPlace 0 0 0 [(0, .ref a0)] [] (g, I, P) r h' := by
  refine z_iconst (w := 0) dX5_lastPlace_0 (by decide) (z_istore_n (lv' := [(1, .int 0), (0, .ref a0)]) dX5_lastPlace_1 (by decide) rfl (z_iconst (w := 0) dX5_lastPlace_2 (by decide) (z_istore_n (lv' := [(2, .int 0), (1, .int 0), (0, .ref a0)]) dX5_lastPlace_3 (by decide) rfl ?_)))
  exact z_less [2, 1, 0] rfl H
theorem eX5_lastPlace {g : zG} {I : Nat → Nat → Int32} {P : Nat → Nat → Option Nat} {r : Option Value} {h' : zH} {a0 : Nat} (H : Zt none mX5_lastPlace 0 0 0 [(0, .ref a0)] [] (g, I, P) r h') : Cl mX5_lastPlace [.ref a0] (g, I, P) r h' := Cl.of (by decide) (Nat.le_of_ble_eq_true rfl) H
set_option maxRecDepth 10000 in
theorem wX5_lastPlace_4 {g : zG} {I : Nat → Nat → Int32} {P : Nat → Nat → Option Nat} {r : Option Value} {h' : zH} {a0 : Nat} {x1 : Int32} {x2 : Int32} (H : zk g a0 5 ∧ ((I a0 0 ≤ x2) → r = some (.int x1) ∧ h' = (g, I, P)) ∧ ((¬ I a0 0 ≤ x2) → zk g a0 5 ∧ ∃ b3, P a0 1 = some b3 ∧ ∃ (w6 : Int32), Cl mX11_got [.ref b3, .int x2] (g, I, P) (some (.int w6)) (g, I, P) ∧ Zt none mX5_lastPlace 0 0 4 [(0, .ref a0), (1, .int (zmmax x1 w6)), (2, .int (x2 + 1))] [] (g, I, P) r h')) : Zt none mX5_lastPlace 0 0 4 [(0, .ref a0), (1, .int x1), (2, .int x2)] [] (g, I, P) r h' := by
  refine z_iload_n 2 dX5_lastPlace_4 rfl (z_aload_n 0 dX5_lastPlace_5 rfl rfl (z_getI dX5_lastPlace_6 wf_X5_18 (by decide) (by decide) rfl H.1 ?_))
  refine z_icmp_ge (t := 31) dX5_lastPlace_9 (by decide) (fun q => ?_) (fun q => ?_)
  · have H1 := H.2.1 q
    refine z_iload_n 1 dX5_lastPlace_31 rfl ?_
    obtain ⟨rfl, rfl⟩ := H1
    exact z_iret dX5_lastPlace_32 rfl (by decide) (by decide)
  · have H2 := H.2.2 q
    refine z_iload_n 1 dX5_lastPlace_12 rfl (z_aload_n 0 dX5_lastPlace_13 rfl rfl ?_)
    obtain ⟨oe5, b3, e5, H4⟩ := H2
    refine z_getP dX5_lastPlace_14 wf_X5_9 (by decide) (by decide) rfl oe5 (fun q => (by cases q.symm.trans e5)) (fun j q => ?_)
    cases q.symm.trans e5
    refine z_iload_n 2 dX5_lastPlace_17 rfl ?_
    obtain ⟨w6, c7, H8⟩ := H4
    refine z_stat (As := [.ref b3, .int x2]) (st := [.int x1]) (r1 := (some (.int w6))) (h1 := (g, I, P)) dX5_lastPlace_18 kX11_got wm_X5_26 ⟨by decide, by decide⟩ rfl rfl (Nat.le_of_ble_eq_true rfl) (by decide) (by decide) c7 ?_
    refine z_mmax dX5_lastPlace_21 wm_X5_30 (by decide) (Nat.le_of_ble_eq_true rfl) (by decide) (by decide) w_mxS w_mI w_mxC (z_istore_n (lv' := [(1, .int (zmmax x1 w6)), (0, .ref a0), (2, .int x2)]) dX5_lastPlace_24 (by decide) rfl (z_iinc (y := x2 + 1) (lv' := [(2, .int (x2 + 1)), (1, .int (zmmax x1 w6)), (0, .ref a0)]) 2 dX5_lastPlace_25 rfl rfl (by decide) rfl (z_goto (t := 4) dX5_lastPlace_28 (by decide) ?_)))
    exact z_less [2, 1, 0] rfl H8
theorem dX7_gap_0 : decode cX7_gap 0 = .ok (.iload_n 0, 1) := by decide +kernel
theorem dX7_gap_1 : decode cX7_gap 1 = .ok (.bipush 90, 2) := by decide +kernel
theorem dX7_gap_3 : decode cX7_gap 3 = .ok (.idiv, 1) := by decide +kernel
theorem dX7_gap_4 : decode cX7_gap 4 = .ok (.iconst 1, 1) := by decide +kernel
theorem dX7_gap_5 : decode cX7_gap 5 = .ok (.iadd, 1) := by decide +kernel
theorem dX7_gap_6 : decode cX7_gap 6 = .ok (.ireturn, 1) := by decide +kernel
set_option maxRecDepth 10000 in
theorem wX7_gap_0 {g : zG} {I : Nat → Nat → Int32} {P : Nat → Nat → Option Nat} {r : Option Value} {h' : zH} {x0 : Int32} (H : r = some (.int ((x0 / 90) + 1)) ∧ h' = (g, I, P)) : Zt none mX7_gap 0 0 0 [(0, .int x0)] [] (g, I, P) r h' := by
  refine z_iload_n 0 dX7_gap_0 rfl (z_bipush (w := 90) dX7_gap_1 (by decide) (z_idiv dX7_gap_3 (by decide) (z_iconst (w := 1) dX7_gap_4 (by decide) (z_iadd dX7_gap_5 ?_))))
  obtain ⟨rfl, rfl⟩ := H
  exact z_iret dX7_gap_6 rfl (by decide) (by decide)
theorem eX7_gap {g : zG} {I : Nat → Nat → Int32} {P : Nat → Nat → Option Nat} {r : Option Value} {h' : zH} {x0 : Int32} (H : Zt none mX7_gap 0 0 0 [(0, .int x0)] [] (g, I, P) r h') : Cl mX7_gap [.int x0] (g, I, P) r h' := Cl.of (by decide) (Nat.le_of_ble_eq_true rfl) H
theorem dX7_wear_0 : decode cX7_wear 0 = .ok (.iload_n 0, 1) := by decide +kernel
theorem dX7_wear_1 : decode cX7_wear 1 = .ok (.bipush 10, 2) := by decide +kernel
theorem dX7_wear_3 : decode cX7_wear 3 = .ok (.idiv, 1) := by decide +kernel
theorem dX7_wear_4 : decode cX7_wear 4 = .ok (.bipush 9, 2) := by decide +kernel
theorem dX7_wear_6 : decode cX7_wear 6 = .ok (.irem, 1) := by decide +kernel
theorem dX7_wear_7 : decode cX7_wear 7 = .ok (.iconst 1, 1) := by decide +kernel
theorem dX7_wear_8 : decode cX7_wear 8 = .ok (.iadd, 1) := by decide +kernel
theorem dX7_wear_9 : decode cX7_wear 9 = .ok (.ireturn, 1) := by decide +kernel
set_option maxRecDepth 10000 in
theorem wX7_wear_0 {g : zG} {I : Nat → Nat → Int32} {P : Nat → Nat → Option Nat} {r : Option Value} {h' : zH} {x0 : Int32} (H : r = some (.int (((x0 / 10) - (x0 / 10) / 9 * 9) + 1)) ∧ h' = (g, I, P)) : Zt none mX7_wear 0 0 0 [(0, .int x0)] [] (g, I, P) r h' := by
  refine z_iload_n 0 dX7_wear_0 rfl (z_bipush (w := 10) dX7_wear_1 (by decide) (z_idiv dX7_wear_3 (by decide) (z_bipush (w := 9) dX7_wear_4 (by decide) (z_irem dX7_wear_6 (by decide) (z_iconst (w := 1) dX7_wear_7 (by decide) (z_iadd dX7_wear_8 ?_))))))
  obtain ⟨rfl, rfl⟩ := H
  exact z_iret dX7_wear_9 rfl (by decide) (by decide)
theorem eX7_wear {g : zG} {I : Nat → Nat → Int32} {P : Nat → Nat → Option Nat} {r : Option Value} {h' : zH} {x0 : Int32} (H : Zt none mX7_wear 0 0 0 [(0, .int x0)] [] (g, I, P) r h') : Cl mX7_wear [.int x0] (g, I, P) r h' := Cl.of (by decide) (Nat.le_of_ble_eq_true rfl) H
theorem dX7_since_0 : decode cX7_since 0 = .ok (.iload_n 0, 1) := by decide +kernel
theorem dX7_since_1 : decode cX7_since 1 = .ok (.bipush 10, 2) := by decide +kernel
theorem dX7_since_3 : decode cX7_since 3 = .ok (.irem, 1) := by decide +kernel
theorem dX7_since_4 : decode cX7_since 4 = .ok (.ireturn, 1) := by decide +kernel
set_option maxRecDepth 10000 in
theorem wX7_since_0 {g : zG} {I : Nat → Nat → Int32} {P : Nat → Nat → Option Nat} {r : Option Value} {h' : zH} {x0 : Int32} (H : r = some (.int (x0 - x0 / 10 * 10)) ∧ h' = (g, I, P)) : Zt none mX7_since 0 0 0 [(0, .int x0)] [] (g, I, P) r h' := by
  refine z_iload_n 0 dX7_since_0 rfl (z_bipush (w := 10) dX7_since_1 (by decide) (z_irem dX7_since_3 (by decide) ?_))
  obtain ⟨rfl, rfl⟩ := H
  exact z_iret dX7_since_4 rfl (by decide) (by decide)
theorem eX7_since {g : zG} {I : Nat → Nat → Int32} {P : Nat → Nat → Option Nat} {r : Option Value} {h' : zH} {x0 : Int32} (H : Zt none mX7_since 0 0 0 [(0, .int x0)] [] (g, I, P) r h') : Cl mX7_since [.int x0] (g, I, P) r h' := Cl.of (by decide) (Nat.le_of_ble_eq_true rfl) H
theorem dX7_weigh_0 : decode cX7_weigh 0 = .ok (.aload_n 0, 1) := by decide +kernel
theorem dX7_weigh_1 : decode cX7_weigh 1 = .ok (.aload_n 1, 1) := by decide +kernel
theorem dX7_weigh_2 : decode cX7_weigh 2 = .ok (.putfield 12, 3) := by decide +kernel
theorem dX7_weigh_5 : decode cX7_weigh 5 = .ok (.aload_n 0, 1) := by decide +kernel
theorem dX7_weigh_6 : decode cX7_weigh 6 = .ok (.aload_n 0, 1) := by decide +kernel
theorem dX7_weigh_7 : decode cX7_weigh 7 = .ok (.getfield 12, 3) := by decide +kernel
theorem dX7_weigh_10 : decode cX7_weigh 10 = .ok (.invokevirtual 28, 3) := by decide +kernel
theorem dX7_weigh_13 : decode cX7_weigh 13 = .ok (.putfield 32, 3) := by decide +kernel
theorem dX7_weigh_16 : decode cX7_weigh 16 = .ok (.aload_n 0, 1) := by decide +kernel
theorem dX7_weigh_17 : decode cX7_weigh 17 = .ok (.iconst 0, 1) := by decide +kernel
theorem dX7_weigh_18 : decode cX7_weigh 18 = .ok (.putfield 36, 3) := by decide +kernel
theorem dX7_weigh_21 : decode cX7_weigh 21 = .ok (.iconst 0, 1) := by decide +kernel
theorem dX7_weigh_22 : decode cX7_weigh 22 = .ok (.istore_n 2, 1) := by decide +kernel
theorem dX7_weigh_23 : decode cX7_weigh 23 = .ok (.iload_n 2, 1) := by decide +kernel
theorem dX7_weigh_24 : decode cX7_weigh 24 = .ok (.sipush 810, 3) := by decide +kernel
theorem dX7_weigh_27 : decode cX7_weigh 27 = .ok (.if_icmp .ge 38, 3) := by decide +kernel
theorem dX7_weigh_30 : decode cX7_weigh 30 = .ok (.aload_n 0, 1) := by decide +kernel
theorem dX7_weigh_31 : decode cX7_weigh 31 = .ok (.iload_n 2, 1) := by decide +kernel
theorem dX7_weigh_32 : decode cX7_weigh 32 = .ok (.invokevirtual 39, 3) := by decide +kernel
theorem dX7_weigh_35 : decode cX7_weigh 35 = .ok (.aload_n 0, 1) := by decide +kernel
theorem dX7_weigh_36 : decode cX7_weigh 36 = .ok (.iload_n 2, 1) := by decide +kernel
theorem dX7_weigh_37 : decode cX7_weigh 37 = .ok (.invokevirtual 43, 3) := by decide +kernel
theorem dX7_weigh_40 : decode cX7_weigh 40 = .ok (.aload_n 0, 1) := by decide +kernel
theorem dX7_weigh_41 : decode cX7_weigh 41 = .ok (.aload_n 0, 1) := by decide +kernel
theorem dX7_weigh_42 : decode cX7_weigh 42 = .ok (.getfield 36, 3) := by decide +kernel
theorem dX7_weigh_45 : decode cX7_weigh 45 = .ok (.aload_n 0, 1) := by decide +kernel
theorem dX7_weigh_46 : decode cX7_weigh 46 = .ok (.getfield 22, 3) := by decide +kernel
theorem dX7_weigh_49 : decode cX7_weigh 49 = .ok (.iload_n 2, 1) := by decide +kernel
theorem dX7_weigh_50 : decode cX7_weigh 50 = .ok (.invokestatic 46, 3) := by decide +kernel
theorem dX7_weigh_53 : decode cX7_weigh 53 = .ok (.invokestatic 50, 3) := by decide +kernel
theorem dX7_weigh_56 : decode cX7_weigh 56 = .ok (.putfield 36, 3) := by decide +kernel
theorem dX7_weigh_59 : decode cX7_weigh 59 = .ok (.iinc 2 1, 3) := by decide +kernel
theorem dX7_weigh_62 : decode cX7_weigh 62 = .ok (.goto (-39), 3) := by decide +kernel
theorem dX7_weigh_65 : decode cX7_weigh 65 = .ok (.return_, 1) := by decide +kernel
set_option maxRecDepth 10000 in
theorem wX7_weigh_0 {g : zG} {I : Nat → Nat → Int32} {P : Nat → Nat → Option Nat} {r : Option Value} {h' : zH} {a0 : Nat} {a1 : Nat} (H : zk g a0 7 ∧ zk g a0 7 ∧ ∃ b1, (zU P a0 0 (some a1)) a0 0 = some b1 ∧ zk g b1 5 ∧ ∃ (w4 : Int32), Cl mX5_lastPlace [.ref b1] (g, I, zU P a0 0 (some a1)) (some (.int w4)) (g, I, zU P a0 0 (some a1)) ∧ zk g a0 7 ∧ zk g a0 7 ∧ Zt none mX7_weigh 0 0 23 [(0, .ref a0), (2, .int 0)] [] (g, zU (zU I a0 1 w4) a0 2 0, zU P a0 0 (some a1)) r h') : Zt none mX7_weigh 0 0 0 [(0, .ref a0), (1, .ref a1)] [] (g, I, P) r h' := by
  refine z_aload_n 0 dX7_weigh_0 rfl rfl (z_aload_n 1 dX7_weigh_1 rfl rfl (z_putP (g := g) (I := I) (Q := P) dX7_weigh_2 wf_X7_12 (by decide) (by decide) rfl (Or.inl rfl) H.1 (z_aload_n 0 dX7_weigh_5 rfl rfl (z_aload_n 0 dX7_weigh_6 rfl rfl ?_))))
  obtain ⟨oe3, b1, e3, H2⟩ := H.2
  refine z_getP dX7_weigh_7 wf_X7_12 (by decide) (by decide) rfl oe3 (fun q => (by cases q.symm.trans e3)) (fun j q => ?_)
  cases q.symm.trans e3
  obtain ⟨oc5, w4, c5, H6⟩ := H2
  refine z_virt (As := []) (st := [.ref a0]) (r1 := (some (.int w4))) (h1 := (g, I, zU P a0 0 (some a1))) dX7_weigh_10 kX5_lastPlace wm_X7_28 ⟨by decide, by decide⟩ rfl rfl (Nat.le_of_ble_eq_true rfl) (by decide) (by decide) oc5 c5 ?_
  refine z_putI (g := g) (I := I) (Q := zU P a0 0 (some a1)) dX7_weigh_13 wf_X7_32 (by decide) (by decide) rfl (Or.inl rfl) (zfit_int rfl) H6.1 (z_aload_n 0 dX7_weigh_16 rfl rfl (z_iconst (w := 0) dX7_weigh_17 (by decide) (z_putI (g := g) (I := zU I a0 1 w4) (Q := zU P a0 0 (some a1)) dX7_weigh_18 wf_X7_36 (by decide) (by decide) rfl (Or.inl rfl) (zfit_int rfl) H6.2.1 (z_iconst (w := 0) dX7_weigh_21 (by decide) (z_istore_n (lv' := [(2, .int 0), (0, .ref a0), (1, .ref a1)]) dX7_weigh_22 (by decide) rfl ?_)))))
  exact z_less [1, 0] rfl H6.2.2
theorem eX7_weigh {g : zG} {I : Nat → Nat → Int32} {P : Nat → Nat → Option Nat} {r : Option Value} {h' : zH} {a0 : Nat} {a1 : Nat} (H : Zt none mX7_weigh 0 0 0 [(0, .ref a0), (1, .ref a1)] [] (g, I, P) r h') : Cl mX7_weigh [.ref a0, .ref a1] (g, I, P) r h' := Cl.of (by decide) (Nat.le_of_ble_eq_true rfl) H
set_option maxRecDepth 10000 in
theorem wX7_weigh_23 {g : zG} {I : Nat → Nat → Int32} {P : Nat → Nat → Option Nat} {r : Option Value} {h' : zH} {a0 : Nat} {x2 : Int32} (H : ((810 ≤ x2) → r = none ∧ h' = (g, I, P)) ∧ ((¬ 810 ≤ x2) → zk g a0 7 ∧ ∃ (I3 : Nat → Nat → Int32), Cl mX7_countHits [.ref a0, .int x2] (g, I, P) none (g, I3, P) ∧ zk g a0 7 ∧ ∃ (I6 : Nat → Nat → Int32), Cl mX7_keepBest [.ref a0, .int x2] (g, I3, P) none (g, I6, P) ∧ zk g a0 7 ∧ zk g a0 7 ∧ ∃ b9, P a0 4 = some b9 ∧ ∃ (w12 : Int32), Cl mX11_got [.ref b9, .int x2] (g, I6, P) (some (.int w12)) (g, I6, P) ∧ zk g a0 7 ∧ Zt none mX7_weigh 0 0 23 [(0, .ref a0), (2, .int (x2 + 1))] [] (g, zU I6 a0 2 (zmmax (I6 a0 2) w12), P) r h')) : Zt none mX7_weigh 0 0 23 [(0, .ref a0), (2, .int x2)] [] (g, I, P) r h' := by
  refine z_iload_n 1 dX7_weigh_23 rfl (z_sipush (w := 810) dX7_weigh_24 (by decide) ?_)
  refine z_icmp_ge (t := 65) dX7_weigh_27 (by decide) (fun q => ?_) (fun q => ?_)
  · have H1 := H.1 q
    obtain ⟨rfl, rfl⟩ := H1
    exact z_vret dX7_weigh_65 rfl (by decide) (by decide)
  · have H2 := H.2 q
    refine z_aload_n 0 dX7_weigh_30 rfl rfl (z_iload_n 1 dX7_weigh_31 rfl ?_)
    obtain ⟨oc4, I3, c4, H5⟩ := H2
    refine z_virt (As := [.int x2]) (st := []) (r1 := none) (h1 := (g, I3, P)) dX7_weigh_32 kX7_countHits wm_X7_39 ⟨by decide, by decide⟩ rfl rfl (Nat.le_of_ble_eq_true rfl) (by decide) (by decide) oc4 c4 ?_
    refine z_aload_n 0 dX7_weigh_35 rfl rfl (z_iload_n 1 dX7_weigh_36 rfl ?_)
    obtain ⟨oc7, I6, c7, H8⟩ := H5
    refine z_virt (As := [.int x2]) (st := []) (r1 := none) (h1 := (g, I6, P)) dX7_weigh_37 kX7_keepBest wm_X7_43 ⟨by decide, by decide⟩ rfl rfl (Nat.le_of_ble_eq_true rfl) (by decide) (by decide) oc7 c7 ?_
    refine z_aload_n 0 dX7_weigh_40 rfl rfl (z_aload_n 0 dX7_weigh_41 rfl rfl (z_getI dX7_weigh_42 wf_X7_36 (by decide) (by decide) rfl H8.1 (z_aload_n 0 dX7_weigh_45 rfl rfl ?_)))
    obtain ⟨oe11, b9, e11, H10⟩ := H8.2
    refine z_getP dX7_weigh_46 wf_X7_22 (by decide) (by decide) rfl oe11 (fun q => (by cases q.symm.trans e11)) (fun j q => ?_)
    cases q.symm.trans e11
    refine z_iload_n 1 dX7_weigh_49 rfl ?_
    obtain ⟨w12, c13, H14⟩ := H10
    refine z_stat (As := [.ref b9, .int x2]) (st := [.int (I6 a0 2), .ref a0]) (r1 := (some (.int w12))) (h1 := (g, I6, P)) dX7_weigh_50 kX11_got wm_X7_46 ⟨by decide, by decide⟩ rfl rfl (Nat.le_of_ble_eq_true rfl) (by decide) (by decide) c13 ?_
    refine z_mmax dX7_weigh_53 wm_X7_50 (by decide) (Nat.le_of_ble_eq_true rfl) (by decide) (by decide) w_mxS w_mI w_mxC (z_putI (g := g) (I := I6) (Q := P) dX7_weigh_56 wf_X7_36 (by decide) (by decide) rfl (Or.inl rfl) (zfit_int rfl) H14.1 (z_iinc (y := x2 + 1) (lv' := [(2, .int (x2 + 1)), (0, .ref a0)]) 1 dX7_weigh_59 rfl rfl (by decide) rfl (z_goto (t := 23) dX7_weigh_62 (by decide) ?_)))
    exact z_less [1, 0] rfl H14.2
theorem dX7_countHits_0 : decode cX7_countHits 0 = .ok (.aload_n 0, 1) := by decide +kernel
theorem dX7_countHits_1 : decode cX7_countHits 1 = .ok (.getfield 18, 3) := by decide +kernel
theorem dX7_countHits_4 : decode cX7_countHits 4 = .ok (.iconst 0, 1) := by decide +kernel
theorem dX7_countHits_5 : decode cX7_countHits 5 = .ok (.invokestatic 56, 3) := by decide +kernel
theorem dX7_countHits_8 : decode cX7_countHits 8 = .ok (.iconst 0, 1) := by decide +kernel
theorem dX7_countHits_9 : decode cX7_countHits 9 = .ok (.istore_n 2, 1) := by decide +kernel
theorem dX7_countHits_10 : decode cX7_countHits 10 = .ok (.iload_n 2, 1) := by decide +kernel
theorem dX7_countHits_11 : decode cX7_countHits 11 = .ok (.aload_n 0, 1) := by decide +kernel
theorem dX7_countHits_12 : decode cX7_countHits 12 = .ok (.getfield 12, 3) := by decide +kernel
theorem dX7_countHits_15 : decode cX7_countHits 15 = .ok (.getfield 62, 3) := by decide +kernel
theorem dX7_countHits_18 : decode cX7_countHits 18 = .ok (.if_icmp .ge 101, 3) := by decide +kernel
theorem dX7_countHits_21 : decode cX7_countHits 21 = .ok (.aload_n 0, 1) := by decide +kernel
theorem dX7_countHits_22 : decode cX7_countHits 22 = .ok (.getfield 12, 3) := by decide +kernel
theorem dX7_countHits_25 : decode cX7_countHits 25 = .ok (.getfield 65, 3) := by decide +kernel
theorem dX7_countHits_28 : decode cX7_countHits 28 = .ok (.iload_n 2, 1) := by decide +kernel
theorem dX7_countHits_29 : decode cX7_countHits 29 = .ok (.invokestatic 46, 3) := by decide +kernel
theorem dX7_countHits_32 : decode cX7_countHits 32 = .ok (.istore_n 3, 1) := by decide +kernel
theorem dX7_countHits_33 : decode cX7_countHits 33 = .ok (.aload_n 0, 1) := by decide +kernel
theorem dX7_countHits_34 : decode cX7_countHits 34 = .ok (.iload_n 1, 1) := by decide +kernel
theorem dX7_countHits_35 : decode cX7_countHits 35 = .ok (.aload_n 0, 1) := by decide +kernel
theorem dX7_countHits_36 : decode cX7_countHits 36 = .ok (.getfield 12, 3) := by decide +kernel
theorem dX7_countHits_39 : decode cX7_countHits 39 = .ok (.getfield 68, 3) := by decide +kernel
theorem dX7_countHits_42 : decode cX7_countHits 42 = .ok (.iload_n 2, 1) := by decide +kernel
theorem dX7_countHits_43 : decode cX7_countHits 43 = .ok (.invokestatic 46, 3) := by decide +kernel
theorem dX7_countHits_46 : decode cX7_countHits 46 = .ok (.invokevirtual 71, 3) := by decide +kernel
theorem dX7_countHits_49 : decode cX7_countHits 49 = .ok (.istore 4, 2) := by decide +kernel
theorem dX7_countHits_51 : decode cX7_countHits 51 = .ok (.bipush 9, 2) := by decide +kernel
theorem dX7_countHits_53 : decode cX7_countHits 53 = .ok (.iload 4, 2) := by decide +kernel
theorem dX7_countHits_55 : decode cX7_countHits 55 = .ok (.iload_n 3, 1) := by decide +kernel
theorem dX7_countHits_56 : decode cX7_countHits 56 = .ok (.iadd, 1) := by decide +kernel
theorem dX7_countHits_57 : decode cX7_countHits 57 = .ok (.invokestatic 74, 3) := by decide +kernel
theorem dX7_countHits_60 : decode cX7_countHits 60 = .ok (.istore 5, 2) := by decide +kernel
theorem dX7_countHits_62 : decode cX7_countHits 62 = .ok (.iload_n 3, 1) := by decide +kernel
theorem dX7_countHits_63 : decode cX7_countHits 63 = .ok (.ifCond .ne 7, 3) := by decide +kernel
theorem dX7_countHits_66 : decode cX7_countHits 66 = .ok (.iconst 1, 1) := by decide +kernel
theorem dX7_countHits_67 : decode cX7_countHits 67 = .ok (.goto 7, 3) := by decide +kernel
theorem dX7_countHits_70 : decode cX7_countHits 70 = .ok (.iload 4, 2) := by decide +kernel
theorem dX7_countHits_72 : decode cX7_countHits 72 = .ok (.iload_n 3, 1) := by decide +kernel
theorem dX7_countHits_73 : decode cX7_countHits 73 = .ok (.iadd, 1) := by decide +kernel
theorem dX7_countHits_74 : decode cX7_countHits 74 = .ok (.istore 6, 2) := by decide +kernel
theorem dX7_countHits_76 : decode cX7_countHits 76 = .ok (.iload 6, 2) := by decide +kernel
theorem dX7_countHits_78 : decode cX7_countHits 78 = .ok (.istore 7, 2) := by decide +kernel
theorem dX7_countHits_80 : decode cX7_countHits 80 = .ok (.iload 7, 2) := by decide +kernel
theorem dX7_countHits_82 : decode cX7_countHits 82 = .ok (.iload 5, 2) := by decide +kernel
theorem dX7_countHits_84 : decode cX7_countHits 84 = .ok (.if_icmp .gt 29, 3) := by decide +kernel
theorem dX7_countHits_87 : decode cX7_countHits 87 = .ok (.aload_n 0, 1) := by decide +kernel
theorem dX7_countHits_88 : decode cX7_countHits 88 = .ok (.getfield 18, 3) := by decide +kernel
theorem dX7_countHits_91 : decode cX7_countHits 91 = .ok (.iload 7, 2) := by decide +kernel
theorem dX7_countHits_93 : decode cX7_countHits 93 = .ok (.aload_n 0, 1) := by decide +kernel
theorem dX7_countHits_94 : decode cX7_countHits 94 = .ok (.getfield 18, 3) := by decide +kernel
theorem dX7_countHits_97 : decode cX7_countHits 97 = .ok (.iload 7, 2) := by decide +kernel
theorem dX7_countHits_99 : decode cX7_countHits 99 = .ok (.invokestatic 46, 3) := by decide +kernel
theorem dX7_countHits_102 : decode cX7_countHits 102 = .ok (.iconst 1, 1) := by decide +kernel
theorem dX7_countHits_103 : decode cX7_countHits 103 = .ok (.iadd, 1) := by decide +kernel
theorem dX7_countHits_104 : decode cX7_countHits 104 = .ok (.invokestatic 77, 3) := by decide +kernel
theorem dX7_countHits_107 : decode cX7_countHits 107 = .ok (.iinc 7 1, 3) := by decide +kernel
theorem dX7_countHits_110 : decode cX7_countHits 110 = .ok (.goto (-30), 3) := by decide +kernel
theorem dX7_countHits_113 : decode cX7_countHits 113 = .ok (.iinc 2 1, 3) := by decide +kernel
theorem dX7_countHits_116 : decode cX7_countHits 116 = .ok (.goto (-106), 3) := by decide +kernel
theorem dX7_countHits_119 : decode cX7_countHits 119 = .ok (.return_, 1) := by decide +kernel
set_option maxRecDepth 10000 in
theorem wX7_countHits_0 {g : zG} {I : Nat → Nat → Int32} {P : Nat → Nat → Option Nat} {r : Option Value} {h' : zH} {a0 : Nat} {x1 : Int32} (H : zk g a0 7 ∧ ∃ b1, P a0 3 = some b1 ∧ ∃ (I4 : Nat → Nat → Int32), Cl mJ7_fill_53178 [.ref b1, .int 0] (g, I, P) none (g, I4, P) ∧ Zt none mX7_countHits 0 0 10 [(0, .ref a0), (1, .int x1), (2, .int 0)] [] (g, I4, P) r h') : Zt none mX7_countHits 0 0 0 [(0, .ref a0), (1, .int x1)] [] (g, I, P) r h' := by
  refine z_aload_n 0 dX7_countHits_0 rfl rfl ?_
  obtain ⟨oe3, b1, e3, H2⟩ := H
  refine z_getP dX7_countHits_1 wf_X7_18 (by decide) (by decide) rfl oe3 (fun q => (by cases q.symm.trans e3)) (fun j q => ?_)
  cases q.symm.trans e3
  refine z_iconst (w := 0) dX7_countHits_4 (by decide) ?_
  obtain ⟨I4, c5, H6⟩ := H2
  refine z_stat (As := [.ref b1, .int 0]) (st := []) (r1 := none) (h1 := (g, I4, P)) dX7_countHits_5 kJ7_fill_53178 wm_X7_56 ⟨by decide, by decide⟩ rfl rfl (Nat.le_of_ble_eq_true rfl) (by decide) (by decide) c5 ?_
  refine z_iconst (w := 0) dX7_countHits_8 (by decide) (z_istore_n (lv' := [(2, .int 0), (0, .ref a0), (1, .int x1)]) dX7_countHits_9 (by decide) rfl ?_)
  exact z_less [1, 2, 0] rfl H6
theorem eX7_countHits {g : zG} {I : Nat → Nat → Int32} {P : Nat → Nat → Option Nat} {r : Option Value} {h' : zH} {a0 : Nat} {x1 : Int32} (H : Zt none mX7_countHits 0 0 0 [(0, .ref a0), (1, .int x1)] [] (g, I, P) r h') : Cl mX7_countHits [.ref a0, .int x1] (g, I, P) r h' := Cl.of (by decide) (Nat.le_of_ble_eq_true rfl) H
set_option maxRecDepth 10000 in
theorem wX7_countHits_10 {g : zG} {I : Nat → Nat → Int32} {P : Nat → Nat → Option Nat} {r : Option Value} {h' : zH} {a0 : Nat} {x1 : Int32} {x2 : Int32} (H : zk g a0 7 ∧ ∃ b1, P a0 0 = some b1 ∧ zk g b1 5 ∧ ((I b1 0 ≤ x2) → r = none ∧ h' = (g, I, P)) ∧ ((¬ I b1 0 ≤ x2) → zk g a0 7 ∧ ∃ b6, P a0 0 = some b6 ∧ zk g b6 5 ∧ ∃ b9, P b6 2 = some b9 ∧ ∃ (w12 : Int32), Cl mX11_got [.ref b9, .int x2] (g, I, P) (some (.int w12)) (g, I, P) ∧ zk g a0 7 ∧ ∃ b15, P a0 0 = some b15 ∧ zk g b15 5 ∧ ∃ b18, P b15 1 = some b18 ∧ ∃ (w21 : Int32), Cl mX11_got [.ref b18, .int x2] (g, I, P) (some (.int w21)) (g, I, P) ∧ zk g a0 7 ∧ ∃ (w24 : Int32), Cl mX7_lessBy [.ref a0, .int x1, .int w21] (g, I, P) (some (.int w24)) (g, I, P) ∧ ((¬ w12 = 0) → Zt none mX7_countHits 0 0 80 [(0, .ref a0), (1, .int x1), (2, .int x2), (5, .int (zmmin 9 (w24 + w12))), (7, .int (w24 + w12))] [] (g, I, P) r h') ∧ ((w12 = 0) → Zt none mX7_countHits 0 0 80 [(0, .ref a0), (1, .int x1), (2, .int x2), (5, .int (zmmin 9 (w24 + w12))), (7, .int 1)] [] (g, I, P) r h'))) : Zt none mX7_countHits 0 0 10 [(0, .ref a0), (1, .int x1), (2, .int x2)] [] (g, I, P) r h' := by
  refine z_iload_n 2 dX7_countHits_10 rfl (z_aload_n 0 dX7_countHits_11 rfl rfl ?_)
  obtain ⟨oe3, b1, e3, H2⟩ := H
  refine z_getP dX7_countHits_12 wf_X7_12 (by decide) (by decide) rfl oe3 (fun q => (by cases q.symm.trans e3)) (fun j q => ?_)
  cases q.symm.trans e3
  refine z_getI dX7_countHits_15 wf_X7_62 (by decide) (by decide) rfl H2.1 ?_
  refine z_icmp_ge (t := 119) dX7_countHits_18 (by decide) (fun q => ?_) (fun q => ?_)
  · have H4 := H2.2.1 q
    obtain ⟨rfl, rfl⟩ := H4
    exact z_vret dX7_countHits_119 rfl (by decide) (by decide)
  · have H5 := H2.2.2 q
    refine z_aload_n 0 dX7_countHits_21 rfl rfl ?_
    obtain ⟨oe8, b6, e8, H7⟩ := H5
    refine z_getP dX7_countHits_22 wf_X7_12 (by decide) (by decide) rfl oe8 (fun q => (by cases q.symm.trans e8)) (fun j q => ?_)
    cases q.symm.trans e8
    obtain ⟨oe11, b9, e11, H10⟩ := H7
    refine z_getP dX7_countHits_25 wf_X7_65 (by decide) (by decide) rfl oe11 (fun q => (by cases q.symm.trans e11)) (fun j q => ?_)
    cases q.symm.trans e11
    refine z_iload_n 2 dX7_countHits_28 rfl ?_
    obtain ⟨w12, c13, H14⟩ := H10
    refine z_stat (As := [.ref b9, .int x2]) (st := []) (r1 := (some (.int w12))) (h1 := (g, I, P)) dX7_countHits_29 kX11_got wm_X7_46 ⟨by decide, by decide⟩ rfl rfl (Nat.le_of_ble_eq_true rfl) (by decide) (by decide) c13 ?_
    refine z_istore_n (lv' := [(3, .int w12), (0, .ref a0), (1, .int x1), (2, .int x2)]) dX7_countHits_32 (by decide) rfl (z_aload_n 1 dX7_countHits_33 rfl rfl (z_iload_n 2 dX7_countHits_34 rfl (z_aload_n 1 dX7_countHits_35 rfl rfl ?_)))
    obtain ⟨oe17, b15, e17, H16⟩ := H14
    refine z_getP dX7_countHits_36 wf_X7_12 (by decide) (by decide) rfl oe17 (fun q => (by cases q.symm.trans e17)) (fun j q => ?_)
    cases q.symm.trans e17
    obtain ⟨oe20, b18, e20, H19⟩ := H16
    refine z_getP dX7_countHits_39 wf_X7_68 (by decide) (by decide) rfl oe20 (fun q => (by cases q.symm.trans e20)) (fun j q => ?_)
    cases q.symm.trans e20
    refine z_iload_n 3 dX7_countHits_42 rfl ?_
    obtain ⟨w21, c22, H23⟩ := H19
    refine z_stat (As := [.ref b18, .int x2]) (st := [.int x1, .ref a0]) (r1 := (some (.int w21))) (h1 := (g, I, P)) dX7_countHits_43 kX11_got wm_X7_46 ⟨by decide, by decide⟩ rfl rfl (Nat.le_of_ble_eq_true rfl) (by decide) (by decide) c22 ?_
    obtain ⟨oc25, w24, c25, H26⟩ := H23
    refine z_virt (As := [.int x1, .int w21]) (st := []) (r1 := (some (.int w24))) (h1 := (g, I, P)) dX7_countHits_46 kX7_lessBy wm_X7_71 ⟨by decide, by decide⟩ rfl rfl (Nat.le_of_ble_eq_true rfl) (by decide) (by decide) oc25 c25 ?_
    refine z_istore (lv' := [(4, .int w24), (3, .int w12), (0, .ref a0), (1, .int x1), (2, .int x2)]) dX7_countHits_49 (by decide) rfl (z_bipush (w := 9) dX7_countHits_51 (by decide) (z_iload 0 dX7_countHits_53 rfl (z_iload_n 1 dX7_countHits_55 rfl (z_iadd dX7_countHits_56 (z_mmin dX7_countHits_57 wm_X7_74 (by decide) (Nat.le_of_ble_eq_true rfl) (by decide) (by decide) w_mnS w_mI w_mnC (z_istore (lv' := [(5, .int (zmmin 9 (w24 + w12))), (4, .int w24), (3, .int w12), (0, .ref a0), (1, .int x1), (2, .int x2)]) dX7_countHits_60 (by decide) rfl (z_iload_n 2 dX7_countHits_62 rfl ?_)))))))
    refine z_if_ne (t := 70) dX7_countHits_63 (by decide) (fun q => ?_) (fun q => ?_)
    · have H27 := H26.1 q
      refine z_iload 1 dX7_countHits_70 rfl (z_iload_n 2 dX7_countHits_72 rfl (z_iadd dX7_countHits_73 (z_istore (lv' := [(6, .int (w24 + w12)), (5, .int (zmmin 9 (w24 + w12))), (4, .int w24), (3, .int w12), (0, .ref a0), (1, .int x1), (2, .int x2)]) dX7_countHits_74 (by decide) rfl (z_iload 0 dX7_countHits_76 rfl (z_istore (lv' := [(7, .int (w24 + w12)), (6, .int (w24 + w12)), (5, .int (zmmin 9 (w24 + w12))), (4, .int w24), (3, .int w12), (0, .ref a0), (1, .int x1), (2, .int x2)]) dX7_countHits_78 (by decide) rfl ?_)))))
      exact z_less [5, 6, 7, 2, 0] rfl H27
    · have H28 := H26.2 q
      refine z_iconst (w := 1) dX7_countHits_66 (by decide) (z_goto (t := 74) dX7_countHits_67 (by decide) (z_istore (lv' := [(6, .int 1), (5, .int (zmmin 9 (w24 + w12))), (4, .int w24), (3, .int w12), (0, .ref a0), (1, .int x1), (2, .int x2)]) dX7_countHits_74 (by decide) rfl (z_iload 0 dX7_countHits_76 rfl (z_istore (lv' := [(7, .int 1), (6, .int 1), (5, .int (zmmin 9 (w24 + w12))), (4, .int w24), (3, .int w12), (0, .ref a0), (1, .int x1), (2, .int x2)]) dX7_countHits_78 (by decide) rfl ?_))))
      exact z_less [5, 6, 7, 2, 0] rfl H28
set_option maxRecDepth 10000 in
theorem wX7_countHits_80 {g : zG} {I : Nat → Nat → Int32} {P : Nat → Nat → Option Nat} {r : Option Value} {h' : zH} {a0 : Nat} {x1 : Int32} {x2 : Int32} {x5 : Int32} {x7 : Int32} (H : ((x5 < x7) → Zt none mX7_countHits 0 0 10 [(0, .ref a0), (1, .int x1), (2, .int (x2 + 1))] [] (g, I, P) r h') ∧ ((¬ x5 < x7) → zk g a0 7 ∧ ∃ b3, P a0 3 = some b3 ∧ zk g a0 7 ∧ ∃ b6, P a0 3 = some b6 ∧ ∃ (w9 : Int32), Cl mX11_got [.ref b6, .int x7] (g, I, P) (some (.int w9)) (g, I, P) ∧ ∃ (I12 : Nat → Nat → Int32), Cl mX11_put [.ref b3, .int x7, .int (w9 + 1)] (g, I, P) none (g, I12, P) ∧ Zt none mX7_countHits 0 0 80 [(0, .ref a0), (1, .int x1), (2, .int x2), (5, .int x5), (7, .int (x7 + 1))] [] (g, I12, P) r h')) : Zt none mX7_countHits 0 0 80 [(0, .ref a0), (1, .int x1), (2, .int x2), (5, .int x5), (7, .int x7)] [] (g, I, P) r h' := by
  refine z_iload 4 dX7_countHits_80 rfl (z_iload 3 dX7_countHits_82 rfl ?_)
  refine z_icmp_gt (t := 113) dX7_countHits_84 (by decide) (fun q => ?_) (fun q => ?_)
  · have H1 := H.1 q
    refine z_iinc (y := x2 + 1) (lv' := [(2, .int (x2 + 1)), (0, .ref a0), (1, .int x1), (5, .int x5), (7, .int x7)]) 2 dX7_countHits_113 rfl rfl (by decide) rfl (z_goto (t := 10) dX7_countHits_116 (by decide) ?_)
    exact z_less [1, 2, 0] rfl H1
  · have H2 := H.2 q
    refine z_aload_n 0 dX7_countHits_87 rfl rfl ?_
    obtain ⟨oe5, b3, e5, H4⟩ := H2
    refine z_getP dX7_countHits_88 wf_X7_18 (by decide) (by decide) rfl oe5 (fun q => (by cases q.symm.trans e5)) (fun j q => ?_)
    cases q.symm.trans e5
    refine z_iload 4 dX7_countHits_91 rfl (z_aload_n 0 dX7_countHits_93 rfl rfl ?_)
    obtain ⟨oe8, b6, e8, H7⟩ := H4
    refine z_getP dX7_countHits_94 wf_X7_18 (by decide) (by decide) rfl oe8 (fun q => (by cases q.symm.trans e8)) (fun j q => ?_)
    cases q.symm.trans e8
    refine z_iload 4 dX7_countHits_97 rfl ?_
    obtain ⟨w9, c10, H11⟩ := H7
    refine z_stat (As := [.ref b6, .int x7]) (st := [.int x7, .ref b3]) (r1 := (some (.int w9))) (h1 := (g, I, P)) dX7_countHits_99 kX11_got wm_X7_46 ⟨by decide, by decide⟩ rfl rfl (Nat.le_of_ble_eq_true rfl) (by decide) (by decide) c10 ?_
    refine z_iconst (w := 1) dX7_countHits_102 (by decide) (z_iadd dX7_countHits_103 ?_)
    obtain ⟨I12, c13, H14⟩ := H11
    refine z_stat (As := [.ref b3, .int x7, .int (w9 + 1)]) (st := []) (r1 := none) (h1 := (g, I12, P)) dX7_countHits_104 kX11_put wm_X7_77 ⟨by decide, by decide⟩ rfl rfl (Nat.le_of_ble_eq_true rfl) (by decide) (by decide) c13 ?_
    refine z_iinc (y := x7 + 1) (lv' := [(7, .int (x7 + 1)), (0, .ref a0), (1, .int x1), (2, .int x2), (5, .int x5)]) 4 dX7_countHits_107 rfl rfl (by decide) rfl (z_goto (t := 80) dX7_countHits_110 (by decide) ?_)
    exact z_less [1, 2, 3, 4, 0] rfl H14
theorem dX7_lessBy_0 : decode cX7_lessBy 0 = .ok (.iload_n 1, 1) := by decide +kernel
theorem dX7_lessBy_1 : decode cX7_lessBy 1 = .ok (.invokestatic 81, 3) := by decide +kernel
theorem dX7_lessBy_4 : decode cX7_lessBy 4 = .ok (.istore_n 3, 1) := by decide +kernel
theorem dX7_lessBy_5 : decode cX7_lessBy 5 = .ok (.iload_n 3, 1) := by decide +kernel
theorem dX7_lessBy_6 : decode cX7_lessBy 6 = .ok (.iconst 1, 1) := by decide +kernel
theorem dX7_lessBy_7 : decode cX7_lessBy 7 = .ok (.if_icmp .ge 7, 3) := by decide +kernel
theorem dX7_lessBy_10 : decode cX7_lessBy 10 = .ok (.iconst 0, 1) := by decide +kernel
theorem dX7_lessBy_11 : decode cX7_lessBy 11 = .ok (.goto 21, 3) := by decide +kernel
theorem dX7_lessBy_14 : decode cX7_lessBy 14 = .ok (.aload_n 0, 1) := by decide +kernel
theorem dX7_lessBy_15 : decode cX7_lessBy 15 = .ok (.getfield 32, 3) := by decide +kernel
theorem dX7_lessBy_18 : decode cX7_lessBy 18 = .ok (.iload_n 2, 1) := by decide +kernel
theorem dX7_lessBy_19 : decode cX7_lessBy 19 = .ok (.isub, 1) := by decide +kernel
theorem dX7_lessBy_20 : decode cX7_lessBy 20 = .ok (.iload_n 1, 1) := by decide +kernel
theorem dX7_lessBy_21 : decode cX7_lessBy 21 = .ok (.invokestatic 85, 3) := by decide +kernel
theorem dX7_lessBy_24 : decode cX7_lessBy 24 = .ok (.imul, 1) := by decide +kernel
theorem dX7_lessBy_25 : decode cX7_lessBy 25 = .ok (.iload_n 1, 1) := by decide +kernel
theorem dX7_lessBy_26 : decode cX7_lessBy 26 = .ok (.invokestatic 88, 3) := by decide +kernel
theorem dX7_lessBy_29 : decode cX7_lessBy 29 = .ok (.iadd, 1) := by decide +kernel
theorem dX7_lessBy_30 : decode cX7_lessBy 30 = .ok (.iload_n 3, 1) := by decide +kernel
theorem dX7_lessBy_31 : decode cX7_lessBy 31 = .ok (.idiv, 1) := by decide +kernel
theorem dX7_lessBy_32 : decode cX7_lessBy 32 = .ok (.ireturn, 1) := by decide +kernel
set_option maxRecDepth 10000 in
theorem wX7_lessBy_0 {g : zG} {I : Nat → Nat → Int32} {P : Nat → Nat → Option Nat} {r : Option Value} {h' : zH} {a0 : Nat} {x1 : Int32} {x2 : Int32} (H : ∃ (w1 : Int32), Cl mX7_wear [.int x1] (g, I, P) (some (.int w1)) (g, I, P) ∧ ((1 ≤ w1) → zk g a0 7 ∧ ∃ (w5 : Int32), Cl mX7_gap [.int x1] (g, I, P) (some (.int w5)) (g, I, P) ∧ ∃ (w8 : Int32), Cl mX7_since [.int x1] (g, I, P) (some (.int w8)) (g, I, P) ∧ (¬ w1 = 0) ∧ r = some (.int (((((I a0 1) - x2) * w5) + w8) / w1)) ∧ h' = (g, I, P)) ∧ ((¬ 1 ≤ w1) → r = some (.int 0) ∧ h' = (g, I, P))) : Zt none mX7_lessBy 0 0 0 [(0, .ref a0), (1, .int x1), (2, .int x2)] [] (g, I, P) r h' := by
  refine z_iload_n 1 dX7_lessBy_0 rfl ?_
  obtain ⟨w1, c2, H3⟩ := H
  refine z_stat (As := [.int x1]) (st := []) (r1 := (some (.int w1))) (h1 := (g, I, P)) dX7_lessBy_1 kX7_wear wm_X7_81 ⟨by decide, by decide⟩ rfl rfl (Nat.le_of_ble_eq_true rfl) (by decide) (by decide) c2 ?_
  refine z_istore_n (lv' := [(3, .int w1), (0, .ref a0), (1, .int x1), (2, .int x2)]) dX7_lessBy_4 (by decide) rfl (z_iload_n 0 dX7_lessBy_5 rfl (z_iconst (w := 1) dX7_lessBy_6 (by decide) ?_))
  refine z_icmp_ge (t := 14) dX7_lessBy_7 (by decide) (fun q => ?_) (fun q => ?_)
  · have H4 := H3.1 q
    refine z_aload_n 1 dX7_lessBy_14 rfl rfl (z_getI dX7_lessBy_15 wf_X7_32 (by decide) (by decide) rfl H4.1 (z_iload_n 3 dX7_lessBy_18 rfl (z_isub dX7_lessBy_19 (z_iload_n 2 dX7_lessBy_20 rfl ?_))))
    obtain ⟨w5, c6, H7⟩ := H4.2
    refine z_stat (As := [.int x1]) (st := [.int ((I a0 1) - x2)]) (r1 := (some (.int w5))) (h1 := (g, I, P)) dX7_lessBy_21 kX7_gap wm_X7_85 ⟨by decide, by decide⟩ rfl rfl (Nat.le_of_ble_eq_true rfl) (by decide) (by decide) c6 ?_
    refine z_imul dX7_lessBy_24 (z_iload_n 2 dX7_lessBy_25 rfl ?_)
    obtain ⟨w8, c9, H10⟩ := H7
    refine z_stat (As := [.int x1]) (st := [.int (((I a0 1) - x2) * w5)]) (r1 := (some (.int w8))) (h1 := (g, I, P)) dX7_lessBy_26 kX7_since wm_X7_88 ⟨by decide, by decide⟩ rfl rfl (Nat.le_of_ble_eq_true rfl) (by decide) (by decide) c9 ?_
    refine z_iadd dX7_lessBy_29 (z_iload_n 0 dX7_lessBy_30 rfl (z_idiv dX7_lessBy_31 H10.1 ?_))
    obtain ⟨rfl, rfl⟩ := H10.2
    exact z_iret dX7_lessBy_32 rfl (by decide) (by decide)
  · have H11 := H3.2 q
    refine z_iconst (w := 0) dX7_lessBy_10 (by decide) (z_goto (t := 32) dX7_lessBy_11 (by decide) ?_)
    obtain ⟨rfl, rfl⟩ := H11
    exact z_iret dX7_lessBy_32 rfl (by decide) (by decide)
theorem eX7_lessBy {g : zG} {I : Nat → Nat → Int32} {P : Nat → Nat → Option Nat} {r : Option Value} {h' : zH} {a0 : Nat} {x1 : Int32} {x2 : Int32} (H : Zt none mX7_lessBy 0 0 0 [(0, .ref a0), (1, .int x1), (2, .int x2)] [] (g, I, P) r h') : Cl mX7_lessBy [.ref a0, .int x1, .int x2] (g, I, P) r h' := Cl.of (by decide) (Nat.le_of_ble_eq_true rfl) H
theorem dX7_keepBest_0 : decode cX7_keepBest 0 = .ok (.iconst 0, 1) := by decide +kernel
theorem dX7_keepBest_1 : decode cX7_keepBest 1 = .ok (.istore_n 2, 1) := by decide +kernel
theorem dX7_keepBest_2 : decode cX7_keepBest 2 = .ok (.iconst 0, 1) := by decide +kernel
theorem dX7_keepBest_3 : decode cX7_keepBest 3 = .ok (.istore_n 3, 1) := by decide +kernel
theorem dX7_keepBest_4 : decode cX7_keepBest 4 = .ok (.iconst 1, 1) := by decide +kernel
theorem dX7_keepBest_5 : decode cX7_keepBest 5 = .ok (.istore 4, 2) := by decide +kernel
theorem dX7_keepBest_7 : decode cX7_keepBest 7 = .ok (.iload 4, 2) := by decide +kernel
theorem dX7_keepBest_9 : decode cX7_keepBest 9 = .ok (.bipush 9, 2) := by decide +kernel
theorem dX7_keepBest_11 : decode cX7_keepBest 11 = .ok (.if_icmp .gt 45, 3) := by decide +kernel
theorem dX7_keepBest_14 : decode cX7_keepBest 14 = .ok (.aload_n 0, 1) := by decide +kernel
theorem dX7_keepBest_15 : decode cX7_keepBest 15 = .ok (.getfield 18, 3) := by decide +kernel
theorem dX7_keepBest_18 : decode cX7_keepBest 18 = .ok (.iload 4, 2) := by decide +kernel
theorem dX7_keepBest_20 : decode cX7_keepBest 20 = .ok (.invokestatic 46, 3) := by decide +kernel
theorem dX7_keepBest_23 : decode cX7_keepBest 23 = .ok (.istore 5, 2) := by decide +kernel
theorem dX7_keepBest_25 : decode cX7_keepBest 25 = .ok (.iload 5, 2) := by decide +kernel
theorem dX7_keepBest_27 : decode cX7_keepBest 27 = .ok (.iload_n 2, 1) := by decide +kernel
theorem dX7_keepBest_28 : decode cX7_keepBest 28 = .ok (.if_icmp .le 8, 3) := by decide +kernel
theorem dX7_keepBest_31 : decode cX7_keepBest 31 = .ok (.iload 5, 2) := by decide +kernel
theorem dX7_keepBest_33 : decode cX7_keepBest 33 = .ok (.istore_n 2, 1) := by decide +kernel
theorem dX7_keepBest_34 : decode cX7_keepBest 34 = .ok (.iconst 0, 1) := by decide +kernel
theorem dX7_keepBest_35 : decode cX7_keepBest 35 = .ok (.istore_n 3, 1) := by decide +kernel
theorem dX7_keepBest_36 : decode cX7_keepBest 36 = .ok (.iload 5, 2) := by decide +kernel
theorem dX7_keepBest_38 : decode cX7_keepBest 38 = .ok (.iload_n 2, 1) := by decide +kernel
theorem dX7_keepBest_39 : decode cX7_keepBest 39 = .ok (.if_icmp .ne 11, 3) := by decide +kernel
theorem dX7_keepBest_42 : decode cX7_keepBest 42 = .ok (.iload_n 3, 1) := by decide +kernel
theorem dX7_keepBest_43 : decode cX7_keepBest 43 = .ok (.iload 4, 2) := by decide +kernel
theorem dX7_keepBest_45 : decode cX7_keepBest 45 = .ok (.invokestatic 91, 3) := by decide +kernel
theorem dX7_keepBest_48 : decode cX7_keepBest 48 = .ok (.ior, 1) := by decide +kernel
theorem dX7_keepBest_49 : decode cX7_keepBest 49 = .ok (.istore_n 3, 1) := by decide +kernel
theorem dX7_keepBest_50 : decode cX7_keepBest 50 = .ok (.iinc 4 1, 3) := by decide +kernel
theorem dX7_keepBest_53 : decode cX7_keepBest 53 = .ok (.goto (-46), 3) := by decide +kernel
theorem dX7_keepBest_56 : decode cX7_keepBest 56 = .ok (.aload_n 0, 1) := by decide +kernel
theorem dX7_keepBest_57 : decode cX7_keepBest 57 = .ok (.getfield 22, 3) := by decide +kernel
theorem dX7_keepBest_60 : decode cX7_keepBest 60 = .ok (.iload_n 1, 1) := by decide +kernel
theorem dX7_keepBest_61 : decode cX7_keepBest 61 = .ok (.iload_n 2, 1) := by decide +kernel
theorem dX7_keepBest_62 : decode cX7_keepBest 62 = .ok (.invokestatic 77, 3) := by decide +kernel
theorem dX7_keepBest_65 : decode cX7_keepBest 65 = .ok (.aload_n 0, 1) := by decide +kernel
theorem dX7_keepBest_66 : decode cX7_keepBest 66 = .ok (.getfield 25, 3) := by decide +kernel
theorem dX7_keepBest_69 : decode cX7_keepBest 69 = .ok (.iload_n 1, 1) := by decide +kernel
theorem dX7_keepBest_70 : decode cX7_keepBest 70 = .ok (.iload_n 3, 1) := by decide +kernel
theorem dX7_keepBest_71 : decode cX7_keepBest 71 = .ok (.invokestatic 77, 3) := by decide +kernel
theorem dX7_keepBest_74 : decode cX7_keepBest 74 = .ok (.return_, 1) := by decide +kernel
set_option maxRecDepth 10000 in
theorem wX7_keepBest_0 {g : zG} {I : Nat → Nat → Int32} {P : Nat → Nat → Option Nat} {r : Option Value} {h' : zH} {a0 : Nat} {x1 : Int32} (H : Zt none mX7_keepBest 0 0 7 [(0, .ref a0), (1, .int x1), (2, .int 0), (3, .int 0), (4, .int 1)] [] (g, I, P) r h') : Zt none mX7_keepBest 0 0 0 [(0, .ref a0), (1, .int x1)] [] (g, I, P) r h' := by
  refine z_iconst (w := 0) dX7_keepBest_0 (by decide) (z_istore_n (lv' := [(2, .int 0), (0, .ref a0), (1, .int x1)]) dX7_keepBest_1 (by decide) rfl (z_iconst (w := 0) dX7_keepBest_2 (by decide) (z_istore_n (lv' := [(3, .int 0), (2, .int 0), (0, .ref a0), (1, .int x1)]) dX7_keepBest_3 (by decide) rfl (z_iconst (w := 1) dX7_keepBest_4 (by decide) (z_istore (lv' := [(4, .int 1), (3, .int 0), (2, .int 0), (0, .ref a0), (1, .int x1)]) dX7_keepBest_5 (by decide) rfl ?_)))))
  exact z_less [3, 4, 2, 1, 0] rfl H
theorem eX7_keepBest {g : zG} {I : Nat → Nat → Int32} {P : Nat → Nat → Option Nat} {r : Option Value} {h' : zH} {a0 : Nat} {x1 : Int32} (H : Zt none mX7_keepBest 0 0 0 [(0, .ref a0), (1, .int x1)] [] (g, I, P) r h') : Cl mX7_keepBest [.ref a0, .int x1] (g, I, P) r h' := Cl.of (by decide) (Nat.le_of_ble_eq_true rfl) H
set_option maxRecDepth 10000 in
theorem wX7_keepBest_7 {g : zG} {I : Nat → Nat → Int32} {P : Nat → Nat → Option Nat} {r : Option Value} {h' : zH} {a0 : Nat} {x1 : Int32} {x2 : Int32} {x3 : Int32} {x4 : Int32} (H : ((9 < x4) → zk g a0 7 ∧ ∃ b2, P a0 4 = some b2 ∧ ∃ (I5 : Nat → Nat → Int32), Cl mX11_put [.ref b2, .int x1, .int x2] (g, I, P) none (g, I5, P) ∧ zk g a0 7 ∧ ∃ b8, P a0 5 = some b8 ∧ ∃ (I11 : Nat → Nat → Int32), Cl mX11_put [.ref b8, .int x1, .int x3] (g, I5, P) none (g, I11, P) ∧ r = none ∧ h' = (g, I11, P)) ∧ ((¬ 9 < x4) → zk g a0 7 ∧ ∃ b15, P a0 3 = some b15 ∧ ∃ (w18 : Int32), Cl mX11_got [.ref b15, .int x4] (g, I, P) (some (.int w18)) (g, I, P) ∧ ((w18 ≤ x2) → ((¬ w18 = x2) → Zt none mX7_keepBest 0 0 7 [(0, .ref a0), (1, .int x1), (2, .int x2), (3, .int x3), (4, .int (x4 + 1))] [] (g, I, P) r h') ∧ ((w18 = x2) → ∃ (w24 : Int32), Cl mX11_bit [.int x4] (g, I, P) (some (.int w24)) (g, I, P) ∧ Zt none mX7_keepBest 0 0 7 [(0, .ref a0), (1, .int x1), (2, .int x2), (3, .int (x3 ||| w24)), (4, .int (x4 + 1))] [] (g, I, P) r h')) ∧ ((¬ w18 ≤ x2) → ((¬ w18 = w18) → Zt none mX7_keepBest 0 0 7 [(0, .ref a0), (1, .int x1), (2, .int w18), (3, .int 0), (4, .int (x4 + 1))] [] (g, I, P) r h') ∧ ((w18 = w18) → ∃ (w30 : Int32), Cl mX11_bit [.int x4] (g, I, P) (some (.int w30)) (g, I, P) ∧ Zt none mX7_keepBest 0 0 7 [(0, .ref a0), (1, .int x1), (2, .int w18), (3, .int (0 ||| w30)), (4, .int (x4 + 1))] [] (g, I, P) r h')))) : Zt none mX7_keepBest 0 0 7 [(0, .ref a0), (1, .int x1), (2, .int x2), (3, .int x3), (4, .int x4)] [] (g, I, P) r h' := by
  refine z_iload 4 dX7_keepBest_7 rfl (z_bipush (w := 9) dX7_keepBest_9 (by decide) ?_)
  refine z_icmp_gt (t := 56) dX7_keepBest_11 (by decide) (fun q => ?_) (fun q => ?_)
  · have H1 := H.1 q
    refine z_aload_n 0 dX7_keepBest_56 rfl rfl ?_
    obtain ⟨oe4, b2, e4, H3⟩ := H1
    refine z_getP dX7_keepBest_57 wf_X7_22 (by decide) (by decide) rfl oe4 (fun q => (by cases q.symm.trans e4)) (fun j q => ?_)
    cases q.symm.trans e4
    refine z_iload_n 1 dX7_keepBest_60 rfl (z_iload_n 2 dX7_keepBest_61 rfl ?_)
    obtain ⟨I5, c6, H7⟩ := H3
    refine z_stat (As := [.ref b2, .int x1, .int x2]) (st := []) (r1 := none) (h1 := (g, I5, P)) dX7_keepBest_62 kX11_put wm_X7_77 ⟨by decide, by decide⟩ rfl rfl (Nat.le_of_ble_eq_true rfl) (by decide) (by decide) c6 ?_
    refine z_aload_n 0 dX7_keepBest_65 rfl rfl ?_
    obtain ⟨oe10, b8, e10, H9⟩ := H7
    refine z_getP dX7_keepBest_66 wf_X7_25 (by decide) (by decide) rfl oe10 (fun q => (by cases q.symm.trans e10)) (fun j q => ?_)
    cases q.symm.trans e10
    refine z_iload_n 1 dX7_keepBest_69 rfl (z_iload_n 3 dX7_keepBest_70 rfl ?_)
    obtain ⟨I11, c12, H13⟩ := H9
    refine z_stat (As := [.ref b8, .int x1, .int x3]) (st := []) (r1 := none) (h1 := (g, I11, P)) dX7_keepBest_71 kX11_put wm_X7_77 ⟨by decide, by decide⟩ rfl rfl (Nat.le_of_ble_eq_true rfl) (by decide) (by decide) c12 ?_
    obtain ⟨rfl, rfl⟩ := H13
    exact z_vret dX7_keepBest_74 rfl (by decide) (by decide)
  · have H14 := H.2 q
    refine z_aload_n 0 dX7_keepBest_14 rfl rfl ?_
    obtain ⟨oe17, b15, e17, H16⟩ := H14
    refine z_getP dX7_keepBest_15 wf_X7_18 (by decide) (by decide) rfl oe17 (fun q => (by cases q.symm.trans e17)) (fun j q => ?_)
    cases q.symm.trans e17
    refine z_iload 4 dX7_keepBest_18 rfl ?_
    obtain ⟨w18, c19, H20⟩ := H16
    refine z_stat (As := [.ref b15, .int x4]) (st := []) (r1 := (some (.int w18))) (h1 := (g, I, P)) dX7_keepBest_20 kX11_got wm_X7_46 ⟨by decide, by decide⟩ rfl rfl (Nat.le_of_ble_eq_true rfl) (by decide) (by decide) c19 ?_
    refine z_istore (lv' := [(5, .int w18), (0, .ref a0), (1, .int x1), (2, .int x2), (3, .int x3), (4, .int x4)]) dX7_keepBest_23 (by decide) rfl (z_iload 0 dX7_keepBest_25 rfl (z_iload_n 3 dX7_keepBest_27 rfl ?_))
    refine z_icmp_le (t := 36) dX7_keepBest_28 (by decide) (fun q => ?_) (fun q => ?_)
    · have H21 := H20.1 q
      refine z_iload 0 dX7_keepBest_36 rfl (z_iload_n 3 dX7_keepBest_38 rfl ?_)
      refine z_icmp_ne (t := 50) dX7_keepBest_39 (by decide) (fun q => ?_) (fun q => ?_)
      · have H22 := H21.1 q
        refine z_iinc (y := x4 + 1) (lv' := [(4, .int (x4 + 1)), (5, .int w18), (0, .ref a0), (1, .int x1), (2, .int x2), (3, .int x3)]) 5 dX7_keepBest_50 rfl rfl (by decide) rfl (z_goto (t := 7) dX7_keepBest_53 (by decide) ?_)
        exact z_less [2, 3, 4, 5, 0] rfl H22
      · have H23 := H21.2 q
        refine z_iload_n 4 dX7_keepBest_42 rfl (z_iload 5 dX7_keepBest_43 rfl ?_)
        obtain ⟨w24, c25, H26⟩ := H23
        refine z_stat (As := [.int x4]) (st := [.int x3]) (r1 := (some (.int w24))) (h1 := (g, I, P)) dX7_keepBest_45 kX11_bit wm_X7_91 ⟨by decide, by decide⟩ rfl rfl (Nat.le_of_ble_eq_true rfl) (by decide) (by decide) c25 ?_
        refine z_ior dX7_keepBest_48 (z_istore_n (lv' := [(3, .int (x3 ||| w24)), (5, .int w18), (0, .ref a0), (1, .int x1), (2, .int x2), (4, .int x4)]) dX7_keepBest_49 (by decide) rfl (z_iinc (y := x4 + 1) (lv' := [(4, .int (x4 + 1)), (3, .int (x3 ||| w24)), (5, .int w18), (0, .ref a0), (1, .int x1), (2, .int x2)]) 5 dX7_keepBest_50 rfl rfl (by decide) rfl (z_goto (t := 7) dX7_keepBest_53 (by decide) ?_)))
        exact z_less [3, 4, 5, 1, 0] rfl H26
    · have H27 := H20.2 q
      refine z_iload 0 dX7_keepBest_31 rfl (z_istore_n (lv' := [(2, .int w18), (5, .int w18), (0, .ref a0), (1, .int x1), (3, .int x3), (4, .int x4)]) dX7_keepBest_33 (by decide) rfl (z_iconst (w := 0) dX7_keepBest_34 (by decide) (z_istore_n (lv' := [(3, .int 0), (2, .int w18), (5, .int w18), (0, .ref a0), (1, .int x1), (4, .int x4)]) dX7_keepBest_35 (by decide) rfl (z_iload 2 dX7_keepBest_36 rfl (z_iload_n 1 dX7_keepBest_38 rfl ?_)))))
      refine z_icmp_ne (t := 50) dX7_keepBest_39 (by decide) (fun q => ?_) (fun q => ?_)
      · have H28 := H27.1 q
        refine z_iinc (y := x4 + 1) (lv' := [(4, .int (x4 + 1)), (3, .int 0), (2, .int w18), (5, .int w18), (0, .ref a0), (1, .int x1)]) 5 dX7_keepBest_50 rfl rfl (by decide) rfl (z_goto (t := 7) dX7_keepBest_53 (by decide) ?_)
        exact z_less [4, 5, 2, 1, 0] rfl H28
      · have H29 := H27.2 q
        refine z_iload_n 0 dX7_keepBest_42 rfl (z_iload 5 dX7_keepBest_43 rfl ?_)
        obtain ⟨w30, c31, H32⟩ := H29
        refine z_stat (As := [.int x4]) (st := [.int 0]) (r1 := (some (.int w30))) (h1 := (g, I, P)) dX7_keepBest_45 kX11_bit wm_X7_91 ⟨by decide, by decide⟩ rfl rfl (Nat.le_of_ble_eq_true rfl) (by decide) (by decide) c31 ?_
        refine z_ior dX7_keepBest_48 (z_istore_n (lv' := [(3, .int (0 ||| w30)), (2, .int w18), (5, .int w18), (0, .ref a0), (1, .int x1), (4, .int x4)]) dX7_keepBest_49 (by decide) rfl (z_iinc (y := x4 + 1) (lv' := [(4, .int (x4 + 1)), (3, .int (0 ||| w30)), (2, .int w18), (5, .int w18), (0, .ref a0), (1, .int x1)]) 5 dX7_keepBest_50 rfl rfl (by decide) rfl (z_goto (t := 7) dX7_keepBest_53 (by decide) ?_)))
        exact z_less [4, 5, 2, 1, 0] rfl H32
theorem dX7_startsOf_0 : decode cX7_startsOf 0 = .ok (.aload_n 0, 1) := by decide +kernel
theorem dX7_startsOf_1 : decode cX7_startsOf 1 = .ok (.getfield 22, 3) := by decide +kernel
theorem dX7_startsOf_4 : decode cX7_startsOf 4 = .ok (.iload_n 1, 1) := by decide +kernel
theorem dX7_startsOf_5 : decode cX7_startsOf 5 = .ok (.invokestatic 46, 3) := by decide +kernel
theorem dX7_startsOf_8 : decode cX7_startsOf 8 = .ok (.aload_n 0, 1) := by decide +kernel
theorem dX7_startsOf_9 : decode cX7_startsOf 9 = .ok (.getfield 36, 3) := by decide +kernel
theorem dX7_startsOf_12 : decode cX7_startsOf 12 = .ok (.if_icmp .ne 14, 3) := by decide +kernel
theorem dX7_startsOf_15 : decode cX7_startsOf 15 = .ok (.aload_n 0, 1) := by decide +kernel
theorem dX7_startsOf_16 : decode cX7_startsOf 16 = .ok (.getfield 25, 3) := by decide +kernel
theorem dX7_startsOf_19 : decode cX7_startsOf 19 = .ok (.iload_n 1, 1) := by decide +kernel
theorem dX7_startsOf_20 : decode cX7_startsOf 20 = .ok (.invokestatic 46, 3) := by decide +kernel
theorem dX7_startsOf_23 : decode cX7_startsOf 23 = .ok (.goto 4, 3) := by decide +kernel
theorem dX7_startsOf_26 : decode cX7_startsOf 26 = .ok (.iconst 0, 1) := by decide +kernel
theorem dX7_startsOf_27 : decode cX7_startsOf 27 = .ok (.ireturn, 1) := by decide +kernel
set_option maxRecDepth 10000 in
theorem wX7_startsOf_0 {g : zG} {I : Nat → Nat → Int32} {P : Nat → Nat → Option Nat} {r : Option Value} {h' : zH} {a0 : Nat} {x1 : Int32} (H : zk g a0 7 ∧ ∃ b1, P a0 4 = some b1 ∧ ∃ (w4 : Int32), Cl mX11_got [.ref b1, .int x1] (g, I, P) (some (.int w4)) (g, I, P) ∧ zk g a0 7 ∧ ((¬ w4 = I a0 2) → r = some (.int 0) ∧ h' = (g, I, P)) ∧ ((w4 = I a0 2) → zk g a0 7 ∧ ∃ b9, P a0 5 = some b9 ∧ ∃ (w12 : Int32), Cl mX11_got [.ref b9, .int x1] (g, I, P) (some (.int w12)) (g, I, P) ∧ r = some (.int w12) ∧ h' = (g, I, P))) : Zt none mX7_startsOf 0 0 0 [(0, .ref a0), (1, .int x1)] [] (g, I, P) r h' := by
  refine z_aload_n 0 dX7_startsOf_0 rfl rfl ?_
  obtain ⟨oe3, b1, e3, H2⟩ := H
  refine z_getP dX7_startsOf_1 wf_X7_22 (by decide) (by decide) rfl oe3 (fun q => (by cases q.symm.trans e3)) (fun j q => ?_)
  cases q.symm.trans e3
  refine z_iload_n 1 dX7_startsOf_4 rfl ?_
  obtain ⟨w4, c5, H6⟩ := H2
  refine z_stat (As := [.ref b1, .int x1]) (st := []) (r1 := (some (.int w4))) (h1 := (g, I, P)) dX7_startsOf_5 kX11_got wm_X7_46 ⟨by decide, by decide⟩ rfl rfl (Nat.le_of_ble_eq_true rfl) (by decide) (by decide) c5 ?_
  refine z_aload_n 0 dX7_startsOf_8 rfl rfl (z_getI dX7_startsOf_9 wf_X7_36 (by decide) (by decide) rfl H6.1 ?_)
  refine z_icmp_ne (t := 26) dX7_startsOf_12 (by decide) (fun q => ?_) (fun q => ?_)
  · have H7 := H6.2.1 q
    refine z_iconst (w := 0) dX7_startsOf_26 (by decide) ?_
    obtain ⟨rfl, rfl⟩ := H7
    exact z_iret dX7_startsOf_27 rfl (by decide) (by decide)
  · have H8 := H6.2.2 q
    refine z_aload_n 0 dX7_startsOf_15 rfl rfl ?_
    obtain ⟨oe11, b9, e11, H10⟩ := H8
    refine z_getP dX7_startsOf_16 wf_X7_25 (by decide) (by decide) rfl oe11 (fun q => (by cases q.symm.trans e11)) (fun j q => ?_)
    cases q.symm.trans e11
    refine z_iload_n 1 dX7_startsOf_19 rfl ?_
    obtain ⟨w12, c13, H14⟩ := H10
    refine z_stat (As := [.ref b9, .int x1]) (st := []) (r1 := (some (.int w12))) (h1 := (g, I, P)) dX7_startsOf_20 kX11_got wm_X7_46 ⟨by decide, by decide⟩ rfl rfl (Nat.le_of_ble_eq_true rfl) (by decide) (by decide) c13 ?_
    refine z_goto (t := 27) dX7_startsOf_23 (by decide) ?_
    obtain ⟨rfl, rfl⟩ := H14
    exact z_iret dX7_startsOf_27 rfl (by decide) (by decide)
theorem eX7_startsOf {g : zG} {I : Nat → Nat → Int32} {P : Nat → Nat → Option Nat} {r : Option Value} {h' : zH} {a0 : Nat} {x1 : Int32} (H : Zt none mX7_startsOf 0 0 0 [(0, .ref a0), (1, .int x1)] [] (g, I, P) r h') : Cl mX7_startsOf [.ref a0, .int x1] (g, I, P) r h' := Cl.of (by decide) (Nat.le_of_ble_eq_true rfl) H
theorem dX7_judge_0 : decode cX7_judge 0 = .ok (.iload_n 1, 1) := by decide +kernel
theorem dX7_judge_1 : decode cX7_judge 1 = .ok (.tableswitch 50 0 2 #[27, 40, 45], 27) := by decide +kernel
theorem dX7_judge_28 : decode cX7_judge 28 = .ok (.aload_n 0, 1) := by decide +kernel
theorem dX7_judge_29 : decode cX7_judge 29 = .ok (.getfield 12, 3) := by decide +kernel
theorem dX7_judge_32 : decode cX7_judge 32 = .ok (.getfield 62, 3) := by decide +kernel
theorem dX7_judge_35 : decode cX7_judge 35 = .ok (.aload_n 0, 1) := by decide +kernel
theorem dX7_judge_36 : decode cX7_judge 36 = .ok (.getfield 36, 3) := by decide +kernel
theorem dX7_judge_39 : decode cX7_judge 39 = .ok (.isub, 1) := by decide +kernel
theorem dX7_judge_40 : decode cX7_judge 40 = .ok (.ireturn, 1) := by decide +kernel
theorem dX7_judge_41 : decode cX7_judge 41 = .ok (.aload_n 0, 1) := by decide +kernel
theorem dX7_judge_42 : decode cX7_judge 42 = .ok (.invokevirtual 94, 3) := by decide +kernel
theorem dX7_judge_45 : decode cX7_judge 45 = .ok (.ireturn, 1) := by decide +kernel
theorem dX7_judge_46 : decode cX7_judge 46 = .ok (.aload_n 0, 1) := by decide +kernel
theorem dX7_judge_47 : decode cX7_judge 47 = .ok (.invokevirtual 97, 3) := by decide +kernel
theorem dX7_judge_50 : decode cX7_judge 50 = .ok (.ireturn, 1) := by decide +kernel
theorem dX7_judge_51 : decode cX7_judge 51 = .ok (.iload_n 1, 1) := by decide +kernel
theorem dX7_judge_52 : decode cX7_judge 52 = .ok (.bipush 10, 2) := by decide +kernel
theorem dX7_judge_54 : decode cX7_judge 54 = .ok (.if_icmp .lt 14, 3) := by decide +kernel
theorem dX7_judge_57 : decode cX7_judge 57 = .ok (.aload_n 0, 1) := by decide +kernel
theorem dX7_judge_58 : decode cX7_judge 58 = .ok (.iload_n 1, 1) := by decide +kernel
theorem dX7_judge_59 : decode cX7_judge 59 = .ok (.bipush 10, 2) := by decide +kernel
theorem dX7_judge_61 : decode cX7_judge 61 = .ok (.isub, 1) := by decide +kernel
theorem dX7_judge_62 : decode cX7_judge 62 = .ok (.invokevirtual 100, 3) := by decide +kernel
theorem dX7_judge_65 : decode cX7_judge 65 = .ok (.goto 5, 3) := by decide +kernel
theorem dX7_judge_68 : decode cX7_judge 68 = .ok (.bipush (-2), 2) := by decide +kernel
theorem dX7_judge_70 : decode cX7_judge 70 = .ok (.ireturn, 1) := by decide +kernel
set_option maxRecDepth 10000 in
theorem wX7_judge_0 {g : zG} {I : Nat → Nat → Int32} {P : Nat → Nat → Option Nat} {r : Option Value} {h' : zH} {a0 : Nat} {x1 : Int32} (H : ((x1 = 0) → zk g a0 7 ∧ ∃ b3, P a0 0 = some b3 ∧ zk g b3 5 ∧ zk g a0 7 ∧ r = some (.int ((I b3 0) - (I a0 2))) ∧ h' = (g, I, P)) ∧ ((x1 = 1) → zk g a0 7 ∧ ∃ (w8 : Int32), Cl mX7_howMany [.ref a0] (g, I, P) (some (.int w8)) (g, I, P) ∧ r = some (.int w8) ∧ h' = (g, I, P)) ∧ ((x1 = 2) → zk g a0 7 ∧ ∃ (w13 : Int32), Cl mX7_missedByAll [.ref a0] (g, I, P) (some (.int w13)) (g, I, P) ∧ r = some (.int w13) ∧ h' = (g, I, P)) ∧ (¬ x1 = 0 → ¬ x1 = 1 → ¬ x1 = 2 → ((x1 < 10) → r = some (.int (-2)) ∧ h' = (g, I, P)) ∧ ((¬ x1 < 10) → zk g a0 7 ∧ ∃ (w19 : Int32), Cl mX7_ruleOf [.ref a0, .int (x1 - 10)] (g, I, P) (some (.int w19)) (g, I, P) ∧ r = some (.int w19) ∧ h' = (g, I, P)))) : Zt none mX7_judge 0 0 0 [(0, .ref a0), (1, .int x1)] [] (g, I, P) r h' := by
  refine z_iload_n 1 dX7_judge_0 rfl ?_
  by_cases q1 : x1 = 0
  · have H2 := H.1 q1
    have eq1 : (x1 : Int32).toInt = 0 := by rw [q1]; decide
    refine z_tableIn (off := 27) (t := 28) dX7_judge_1 (by rw [eq1]; decide) (by rw [eq1]; decide) (by rw [eq1]; rfl) (by decide) ?_
    refine z_aload_n 0 dX7_judge_28 rfl rfl ?_
    obtain ⟨oe5, b3, e5, H4⟩ := H2
    refine z_getP dX7_judge_29 wf_X7_12 (by decide) (by decide) rfl oe5 (fun q => (by cases q.symm.trans e5)) (fun j q => ?_)
    cases q.symm.trans e5
    refine z_getI dX7_judge_32 wf_X7_62 (by decide) (by decide) rfl H4.1 (z_aload_n 0 dX7_judge_35 rfl rfl (z_getI dX7_judge_36 wf_X7_36 (by decide) (by decide) rfl H4.2.1 (z_isub dX7_judge_39 ?_)))
    obtain ⟨rfl, rfl⟩ := H4.2.2
    exact z_iret dX7_judge_40 rfl (by decide) (by decide)
  by_cases q6 : x1 = 1
  · have H7 := H.2.1 q6
    have eq6 : (x1 : Int32).toInt = 1 := by rw [q6]; decide
    refine z_tableIn (off := 40) (t := 41) dX7_judge_1 (by rw [eq6]; decide) (by rw [eq6]; decide) (by rw [eq6]; rfl) (by decide) ?_
    refine z_aload_n 0 dX7_judge_41 rfl rfl ?_
    obtain ⟨oc9, w8, c9, H10⟩ := H7
    refine z_virt (As := []) (st := []) (r1 := (some (.int w8))) (h1 := (g, I, P)) dX7_judge_42 kX7_howMany wm_X7_94 ⟨by decide, by decide⟩ rfl rfl (Nat.le_of_ble_eq_true rfl) (by decide) (by decide) oc9 c9 ?_
    obtain ⟨rfl, rfl⟩ := H10
    exact z_iret dX7_judge_45 rfl (by decide) (by decide)
  by_cases q11 : x1 = 2
  · have H12 := H.2.2.1 q11
    have eq11 : (x1 : Int32).toInt = 2 := by rw [q11]; decide
    refine z_tableIn (off := 45) (t := 46) dX7_judge_1 (by rw [eq11]; decide) (by rw [eq11]; decide) (by rw [eq11]; rfl) (by decide) ?_
    refine z_aload_n 0 dX7_judge_46 rfl rfl ?_
    obtain ⟨oc14, w13, c14, H15⟩ := H12
    refine z_virt (As := []) (st := []) (r1 := (some (.int w13))) (h1 := (g, I, P)) dX7_judge_47 kX7_missedByAll wm_X7_97 ⟨by decide, by decide⟩ rfl rfl (Nat.le_of_ble_eq_true rfl) (by decide) (by decide) oc14 c14 ?_
    obtain ⟨rfl, rfl⟩ := H15
    exact z_iret dX7_judge_50 rfl (by decide) (by decide)
  have H16 := H.2.2.2 q1 q6 q11
  have nq1 := lv_neT q1 (show (0 : Int32).toInt = 0 by decide)
  have nq6 := lv_neT q6 (show (1 : Int32).toInt = 1 by decide)
  have nq11 := lv_neT q11 (show (2 : Int32).toInt = 2 by decide)
  refine z_tableOut (t := 51) dX7_judge_1 (by omega) (by decide) ?_
  refine z_iload_n 1 dX7_judge_51 rfl (z_bipush (w := 10) dX7_judge_52 (by decide) ?_)
  refine z_icmp_lt (t := 68) dX7_judge_54 (by decide) (fun q => ?_) (fun q => ?_)
  · have H17 := H16.1 q
    refine z_bipush (w := (-2)) dX7_judge_68 (by decide) ?_
    obtain ⟨rfl, rfl⟩ := H17
    exact z_iret dX7_judge_70 rfl (by decide) (by decide)
  · have H18 := H16.2 q
    refine z_aload_n 0 dX7_judge_57 rfl rfl (z_iload_n 1 dX7_judge_58 rfl (z_bipush (w := 10) dX7_judge_59 (by decide) (z_isub dX7_judge_61 ?_)))
    obtain ⟨oc20, w19, c20, H21⟩ := H18
    refine z_virt (As := [.int (x1 - 10)]) (st := []) (r1 := (some (.int w19))) (h1 := (g, I, P)) dX7_judge_62 kX7_ruleOf wm_X7_100 ⟨by decide, by decide⟩ rfl rfl (Nat.le_of_ble_eq_true rfl) (by decide) (by decide) oc20 c20 ?_
    refine z_goto (t := 70) dX7_judge_65 (by decide) ?_
    obtain ⟨rfl, rfl⟩ := H21
    exact z_iret dX7_judge_70 rfl (by decide) (by decide)
theorem eX7_judge {g : zG} {I : Nat → Nat → Int32} {P : Nat → Nat → Option Nat} {r : Option Value} {h' : zH} {a0 : Nat} {x1 : Int32} (H : Zt none mX7_judge 0 0 0 [(0, .ref a0), (1, .int x1)] [] (g, I, P) r h') : Cl mX7_judge [.ref a0, .int x1] (g, I, P) r h' := Cl.of (by decide) (Nat.le_of_ble_eq_true rfl) H
theorem dX7_howMany_0 : decode cX7_howMany 0 = .ok (.iconst 0, 1) := by decide +kernel
theorem dX7_howMany_1 : decode cX7_howMany 1 = .ok (.istore_n 1, 1) := by decide +kernel
theorem dX7_howMany_2 : decode cX7_howMany 2 = .ok (.iconst 0, 1) := by decide +kernel
theorem dX7_howMany_3 : decode cX7_howMany 3 = .ok (.istore_n 2, 1) := by decide +kernel
theorem dX7_howMany_4 : decode cX7_howMany 4 = .ok (.iload_n 2, 1) := by decide +kernel
theorem dX7_howMany_5 : decode cX7_howMany 5 = .ok (.sipush 810, 3) := by decide +kernel
theorem dX7_howMany_8 : decode cX7_howMany 8 = .ok (.if_icmp .ge 20, 3) := by decide +kernel
theorem dX7_howMany_11 : decode cX7_howMany 11 = .ok (.iload_n 1, 1) := by decide +kernel
theorem dX7_howMany_12 : decode cX7_howMany 12 = .ok (.aload_n 0, 1) := by decide +kernel
theorem dX7_howMany_13 : decode cX7_howMany 13 = .ok (.iload_n 2, 1) := by decide +kernel
theorem dX7_howMany_14 : decode cX7_howMany 14 = .ok (.invokevirtual 103, 3) := by decide +kernel
theorem dX7_howMany_17 : decode cX7_howMany 17 = .ok (.invokestatic 106, 3) := by decide +kernel
theorem dX7_howMany_20 : decode cX7_howMany 20 = .ok (.iadd, 1) := by decide +kernel
theorem dX7_howMany_21 : decode cX7_howMany 21 = .ok (.istore_n 1, 1) := by decide +kernel
theorem dX7_howMany_22 : decode cX7_howMany 22 = .ok (.iinc 2 1, 3) := by decide +kernel
theorem dX7_howMany_25 : decode cX7_howMany 25 = .ok (.goto (-21), 3) := by decide +kernel
theorem dX7_howMany_28 : decode cX7_howMany 28 = .ok (.iload_n 1, 1) := by decide +kernel
theorem dX7_howMany_29 : decode cX7_howMany 29 = .ok (.ireturn, 1) := by decide +kernel
set_option maxRecDepth 10000 in
theorem wX7_howMany_0 {g : zG} {I : Nat → Nat → Int32} {P : Nat → Nat → Option Nat} {r : Option Value} {h' : zH} {a0 : Nat} (H : Zt none mX7_howMany 0 0 4 [(0, .ref a0), (1, .int 0), (2, .int 0)] [] (g, I, P) r h') : Zt none mX7_howMany 0 0 0 [(0, .ref a0)] [] (g, I, P) r h' := by
  refine z_iconst (w := 0) dX7_howMany_0 (by decide) (z_istore_n (lv' := [(1, .int 0), (0, .ref a0)]) dX7_howMany_1 (by decide) rfl (z_iconst (w := 0) dX7_howMany_2 (by decide) (z_istore_n (lv' := [(2, .int 0), (1, .int 0), (0, .ref a0)]) dX7_howMany_3 (by decide) rfl ?_)))
  exact z_less [2, 1, 0] rfl H
theorem eX7_howMany {g : zG} {I : Nat → Nat → Int32} {P : Nat → Nat → Option Nat} {r : Option Value} {h' : zH} {a0 : Nat} (H : Zt none mX7_howMany 0 0 0 [(0, .ref a0)] [] (g, I, P) r h') : Cl mX7_howMany [.ref a0] (g, I, P) r h' := Cl.of (by decide) (Nat.le_of_ble_eq_true rfl) H
set_option maxRecDepth 10000 in
theorem wX7_howMany_4 {g : zG} {I : Nat → Nat → Int32} {P : Nat → Nat → Option Nat} {r : Option Value} {h' : zH} {a0 : Nat} {x1 : Int32} {x2 : Int32} (H : ((810 ≤ x2) → r = some (.int x1) ∧ h' = (g, I, P)) ∧ ((¬ 810 ≤ x2) → zk g a0 7 ∧ ∃ (w3 : Int32), Cl mX7_startsOf [.ref a0, .int x2] (g, I, P) (some (.int w3)) (g, I, P) ∧ ∃ (w6 : Int32), Cl mJ6_bitCount_0f7a4 [.int w3] (g, I, P) (some (.int w6)) (g, I, P) ∧ Zt none mX7_howMany 0 0 4 [(0, .ref a0), (1, .int (x1 + w6)), (2, .int (x2 + 1))] [] (g, I, P) r h')) : Zt none mX7_howMany 0 0 4 [(0, .ref a0), (1, .int x1), (2, .int x2)] [] (g, I, P) r h' := by
  refine z_iload_n 2 dX7_howMany_4 rfl (z_sipush (w := 810) dX7_howMany_5 (by decide) ?_)
  refine z_icmp_ge (t := 28) dX7_howMany_8 (by decide) (fun q => ?_) (fun q => ?_)
  · have H1 := H.1 q
    refine z_iload_n 1 dX7_howMany_28 rfl ?_
    obtain ⟨rfl, rfl⟩ := H1
    exact z_iret dX7_howMany_29 rfl (by decide) (by decide)
  · have H2 := H.2 q
    refine z_iload_n 1 dX7_howMany_11 rfl (z_aload_n 0 dX7_howMany_12 rfl rfl (z_iload_n 2 dX7_howMany_13 rfl ?_))
    obtain ⟨oc4, w3, c4, H5⟩ := H2
    refine z_virt (As := [.int x2]) (st := [.int x1]) (r1 := (some (.int w3))) (h1 := (g, I, P)) dX7_howMany_14 kX7_startsOf wm_X7_103 ⟨by decide, by decide⟩ rfl rfl (Nat.le_of_ble_eq_true rfl) (by decide) (by decide) oc4 c4 ?_
    obtain ⟨w6, c7, H8⟩ := H5
    refine z_stat (As := [.int w3]) (st := [.int x1]) (r1 := (some (.int w6))) (h1 := (g, I, P)) dX7_howMany_17 kJ6_bitCount_0f7a4 wm_X7_106 ⟨by decide, by decide⟩ rfl rfl (Nat.le_of_ble_eq_true rfl) (by decide) (by decide) c7 ?_
    refine z_iadd dX7_howMany_20 (z_istore_n (lv' := [(1, .int (x1 + w6)), (0, .ref a0), (2, .int x2)]) dX7_howMany_21 (by decide) rfl (z_iinc (y := x2 + 1) (lv' := [(2, .int (x2 + 1)), (1, .int (x1 + w6)), (0, .ref a0)]) 2 dX7_howMany_22 rfl rfl (by decide) rfl (z_goto (t := 4) dX7_howMany_25 (by decide) ?_)))
    exact z_less [2, 1, 0] rfl H8
theorem dX7_ruleOf_0 : decode cX7_ruleOf 0 = .ok (.iconst 0, 1) := by decide +kernel
theorem dX7_ruleOf_1 : decode cX7_ruleOf 1 = .ok (.istore_n 2, 1) := by decide +kernel
theorem dX7_ruleOf_2 : decode cX7_ruleOf 2 = .ok (.iconst 1, 1) := by decide +kernel
theorem dX7_ruleOf_3 : decode cX7_ruleOf 3 = .ok (.istore_n 3, 1) := by decide +kernel
theorem dX7_ruleOf_4 : decode cX7_ruleOf 4 = .ok (.iload_n 3, 1) := by decide +kernel
theorem dX7_ruleOf_5 : decode cX7_ruleOf 5 = .ok (.bipush 9, 2) := by decide +kernel
theorem dX7_ruleOf_7 : decode cX7_ruleOf 7 = .ok (.if_icmp .gt 77, 3) := by decide +kernel
theorem dX7_ruleOf_10 : decode cX7_ruleOf 10 = .ok (.iconst 0, 1) := by decide +kernel
theorem dX7_ruleOf_11 : decode cX7_ruleOf 11 = .ok (.istore 4, 2) := by decide +kernel
theorem dX7_ruleOf_13 : decode cX7_ruleOf 13 = .ok (.iload 4, 2) := by decide +kernel
theorem dX7_ruleOf_15 : decode cX7_ruleOf 15 = .ok (.sipush 810, 3) := by decide +kernel
theorem dX7_ruleOf_18 : decode cX7_ruleOf 18 = .ok (.if_icmp .ge 60, 3) := by decide +kernel
theorem dX7_ruleOf_21 : decode cX7_ruleOf 21 = .ok (.aload_n 0, 1) := by decide +kernel
theorem dX7_ruleOf_22 : decode cX7_ruleOf 22 = .ok (.iload 4, 2) := by decide +kernel
theorem dX7_ruleOf_24 : decode cX7_ruleOf 24 = .ok (.invokevirtual 103, 3) := by decide +kernel
theorem dX7_ruleOf_27 : decode cX7_ruleOf 27 = .ok (.iload_n 3, 1) := by decide +kernel
theorem dX7_ruleOf_28 : decode cX7_ruleOf 28 = .ok (.invokestatic 111, 3) := by decide +kernel
theorem dX7_ruleOf_31 : decode cX7_ruleOf 31 = .ok (.ifCond .eq 41, 3) := by decide +kernel
theorem dX7_ruleOf_34 : decode cX7_ruleOf 34 = .ok (.iload_n 2, 1) := by decide +kernel
theorem dX7_ruleOf_35 : decode cX7_ruleOf 35 = .ok (.iload_n 1, 1) := by decide +kernel
theorem dX7_ruleOf_36 : decode cX7_ruleOf 36 = .ok (.if_icmp .ne 33, 3) := by decide +kernel
theorem dX7_ruleOf_39 : decode cX7_ruleOf 39 = .ok (.sipush 1000, 3) := by decide +kernel
theorem dX7_ruleOf_42 : decode cX7_ruleOf 42 = .ok (.iload_n 3, 1) := by decide +kernel
theorem dX7_ruleOf_43 : decode cX7_ruleOf 43 = .ok (.imul, 1) := by decide +kernel
theorem dX7_ruleOf_44 : decode cX7_ruleOf 44 = .ok (.bipush 100, 2) := by decide +kernel
theorem dX7_ruleOf_46 : decode cX7_ruleOf 46 = .ok (.iload 4, 2) := by decide +kernel
theorem dX7_ruleOf_48 : decode cX7_ruleOf 48 = .ok (.invokestatic 85, 3) := by decide +kernel
theorem dX7_ruleOf_51 : decode cX7_ruleOf 51 = .ok (.imul, 1) := by decide +kernel
theorem dX7_ruleOf_52 : decode cX7_ruleOf 52 = .ok (.iadd, 1) := by decide +kernel
theorem dX7_ruleOf_53 : decode cX7_ruleOf 53 = .ok (.bipush 10, 2) := by decide +kernel
theorem dX7_ruleOf_55 : decode cX7_ruleOf 55 = .ok (.iload 4, 2) := by decide +kernel
theorem dX7_ruleOf_57 : decode cX7_ruleOf 57 = .ok (.invokestatic 81, 3) := by decide +kernel
theorem dX7_ruleOf_60 : decode cX7_ruleOf 60 = .ok (.imul, 1) := by decide +kernel
theorem dX7_ruleOf_61 : decode cX7_ruleOf 61 = .ok (.iadd, 1) := by decide +kernel
theorem dX7_ruleOf_62 : decode cX7_ruleOf 62 = .ok (.iload 4, 2) := by decide +kernel
theorem dX7_ruleOf_64 : decode cX7_ruleOf 64 = .ok (.invokestatic 88, 3) := by decide +kernel
theorem dX7_ruleOf_67 : decode cX7_ruleOf 67 = .ok (.iadd, 1) := by decide +kernel
theorem dX7_ruleOf_68 : decode cX7_ruleOf 68 = .ok (.ireturn, 1) := by decide +kernel
theorem dX7_ruleOf_69 : decode cX7_ruleOf 69 = .ok (.iinc 2 1, 3) := by decide +kernel
theorem dX7_ruleOf_72 : decode cX7_ruleOf 72 = .ok (.iinc 4 1, 3) := by decide +kernel
theorem dX7_ruleOf_75 : decode cX7_ruleOf 75 = .ok (.goto (-62), 3) := by decide +kernel
theorem dX7_ruleOf_78 : decode cX7_ruleOf 78 = .ok (.iinc 3 1, 3) := by decide +kernel
theorem dX7_ruleOf_81 : decode cX7_ruleOf 81 = .ok (.goto (-77), 3) := by decide +kernel
theorem dX7_ruleOf_84 : decode cX7_ruleOf 84 = .ok (.bipush (-2), 2) := by decide +kernel
theorem dX7_ruleOf_86 : decode cX7_ruleOf 86 = .ok (.ireturn, 1) := by decide +kernel
set_option maxRecDepth 10000 in
theorem wX7_ruleOf_0 {g : zG} {I : Nat → Nat → Int32} {P : Nat → Nat → Option Nat} {r : Option Value} {h' : zH} {a0 : Nat} {x1 : Int32} (H : Zt none mX7_ruleOf 0 0 4 [(0, .ref a0), (1, .int x1), (2, .int 0), (3, .int 1)] [] (g, I, P) r h') : Zt none mX7_ruleOf 0 0 0 [(0, .ref a0), (1, .int x1)] [] (g, I, P) r h' := by
  refine z_iconst (w := 0) dX7_ruleOf_0 (by decide) (z_istore_n (lv' := [(2, .int 0), (0, .ref a0), (1, .int x1)]) dX7_ruleOf_1 (by decide) rfl (z_iconst (w := 1) dX7_ruleOf_2 (by decide) (z_istore_n (lv' := [(3, .int 1), (2, .int 0), (0, .ref a0), (1, .int x1)]) dX7_ruleOf_3 (by decide) rfl ?_)))
  exact z_less [2, 3, 1, 0] rfl H
theorem eX7_ruleOf {g : zG} {I : Nat → Nat → Int32} {P : Nat → Nat → Option Nat} {r : Option Value} {h' : zH} {a0 : Nat} {x1 : Int32} (H : Zt none mX7_ruleOf 0 0 0 [(0, .ref a0), (1, .int x1)] [] (g, I, P) r h') : Cl mX7_ruleOf [.ref a0, .int x1] (g, I, P) r h' := Cl.of (by decide) (Nat.le_of_ble_eq_true rfl) H
set_option maxRecDepth 10000 in
theorem wX7_ruleOf_4 {g : zG} {I : Nat → Nat → Int32} {P : Nat → Nat → Option Nat} {r : Option Value} {h' : zH} {a0 : Nat} {x1 : Int32} {x2 : Int32} {x3 : Int32} (H : ((9 < x3) → r = some (.int (-2)) ∧ h' = (g, I, P)) ∧ ((¬ 9 < x3) → Zt none mX7_ruleOf 0 0 13 [(0, .ref a0), (1, .int x1), (2, .int x2), (3, .int x3), (4, .int 0)] [] (g, I, P) r h')) : Zt none mX7_ruleOf 0 0 4 [(0, .ref a0), (1, .int x1), (2, .int x2), (3, .int x3)] [] (g, I, P) r h' := by
  refine z_iload_n 3 dX7_ruleOf_4 rfl (z_bipush (w := 9) dX7_ruleOf_5 (by decide) ?_)
  refine z_icmp_gt (t := 84) dX7_ruleOf_7 (by decide) (fun q => ?_) (fun q => ?_)
  · have H1 := H.1 q
    refine z_bipush (w := (-2)) dX7_ruleOf_84 (by decide) ?_
    obtain ⟨rfl, rfl⟩ := H1
    exact z_iret dX7_ruleOf_86 rfl (by decide) (by decide)
  · have H2 := H.2 q
    refine z_iconst (w := 0) dX7_ruleOf_10 (by decide) (z_istore (lv' := [(4, .int 0), (0, .ref a0), (1, .int x1), (2, .int x2), (3, .int x3)]) dX7_ruleOf_11 (by decide) rfl ?_)
    exact z_less [1, 2, 3, 4, 0] rfl H2
set_option maxRecDepth 10000 in
theorem wX7_ruleOf_13 {g : zG} {I : Nat → Nat → Int32} {P : Nat → Nat → Option Nat} {r : Option Value} {h' : zH} {a0 : Nat} {x1 : Int32} {x2 : Int32} {x3 : Int32} {x4 : Int32} (H : ((810 ≤ x4) → Zt none mX7_ruleOf 0 0 4 [(0, .ref a0), (1, .int x1), (2, .int x2), (3, .int (x3 + 1))] [] (g, I, P) r h') ∧ ((¬ 810 ≤ x4) → zk g a0 7 ∧ ∃ (w3 : Int32), Cl mX7_startsOf [.ref a0, .int x4] (g, I, P) (some (.int w3)) (g, I, P) ∧ ∃ (w6 : Int32), Cl mX11_has [.int w3, .int x3] (g, I, P) (some (.int w6)) (g, I, P) ∧ ((w6 = 0) → Zt none mX7_ruleOf 0 0 13 [(0, .ref a0), (1, .int x1), (2, .int x2), (3, .int x3), (4, .int (x4 + 1))] [] (g, I, P) r h') ∧ ((¬ w6 = 0) → ((¬ x2 = x1) → Zt none mX7_ruleOf 0 0 13 [(0, .ref a0), (1, .int x1), (2, .int (x2 + 1)), (3, .int x3), (4, .int (x4 + 1))] [] (g, I, P) r h') ∧ ((x2 = x1) → ∃ (w13 : Int32), Cl mX7_gap [.int x4] (g, I, P) (some (.int w13)) (g, I, P) ∧ ∃ (w16 : Int32), Cl mX7_wear [.int x4] (g, I, P) (some (.int w16)) (g, I, P) ∧ ∃ (w19 : Int32), Cl mX7_since [.int x4] (g, I, P) (some (.int w19)) (g, I, P) ∧ r = some (.int ((((1000 * x3) + (100 * w13)) + (10 * w16)) + w19)) ∧ h' = (g, I, P))))) : Zt none mX7_ruleOf 0 0 13 [(0, .ref a0), (1, .int x1), (2, .int x2), (3, .int x3), (4, .int x4)] [] (g, I, P) r h' := by
  refine z_iload 4 dX7_ruleOf_13 rfl (z_sipush (w := 810) dX7_ruleOf_15 (by decide) ?_)
  refine z_icmp_ge (t := 78) dX7_ruleOf_18 (by decide) (fun q => ?_) (fun q => ?_)
  · have H1 := H.1 q
    refine z_iinc (y := x3 + 1) (lv' := [(3, .int (x3 + 1)), (0, .ref a0), (1, .int x1), (2, .int x2), (4, .int x4)]) 3 dX7_ruleOf_78 rfl rfl (by decide) rfl (z_goto (t := 4) dX7_ruleOf_81 (by decide) ?_)
    exact z_less [1, 2, 3, 0] rfl H1
  · have H2 := H.2 q
    refine z_aload_n 0 dX7_ruleOf_21 rfl rfl (z_iload 4 dX7_ruleOf_22 rfl ?_)
    obtain ⟨oc4, w3, c4, H5⟩ := H2
    refine z_virt (As := [.int x4]) (st := []) (r1 := (some (.int w3))) (h1 := (g, I, P)) dX7_ruleOf_24 kX7_startsOf wm_X7_103 ⟨by decide, by decide⟩ rfl rfl (Nat.le_of_ble_eq_true rfl) (by decide) (by decide) oc4 c4 ?_
    refine z_iload_n 3 dX7_ruleOf_27 rfl ?_
    obtain ⟨w6, c7, H8⟩ := H5
    refine z_stat (As := [.int w3, .int x3]) (st := []) (r1 := (some (.int w6))) (h1 := (g, I, P)) dX7_ruleOf_28 kX11_has wm_X7_111 ⟨by decide, by decide⟩ rfl rfl (Nat.le_of_ble_eq_true rfl) (by decide) (by decide) c7 ?_
    refine z_if_eq (t := 72) dX7_ruleOf_31 (by decide) (fun q => ?_) (fun q => ?_)
    · have H9 := H8.1 q
      refine z_iinc (y := x4 + 1) (lv' := [(4, .int (x4 + 1)), (0, .ref a0), (1, .int x1), (2, .int x2), (3, .int x3)]) 4 dX7_ruleOf_72 rfl rfl (by decide) rfl (z_goto (t := 13) dX7_ruleOf_75 (by decide) ?_)
      exact z_less [1, 2, 3, 4, 0] rfl H9
    · have H10 := H8.2 q
      refine z_iload_n 2 dX7_ruleOf_34 rfl (z_iload_n 1 dX7_ruleOf_35 rfl ?_)
      refine z_icmp_ne (t := 69) dX7_ruleOf_36 (by decide) (fun q => ?_) (fun q => ?_)
      · have H11 := H10.1 q
        refine z_iinc (y := x2 + 1) (lv' := [(2, .int (x2 + 1)), (0, .ref a0), (1, .int x1), (3, .int x3), (4, .int x4)]) 2 dX7_ruleOf_69 rfl rfl (by decide) rfl (z_iinc (y := x4 + 1) (lv' := [(4, .int (x4 + 1)), (2, .int (x2 + 1)), (0, .ref a0), (1, .int x1), (3, .int x3)]) 4 dX7_ruleOf_72 rfl rfl (by decide) rfl (z_goto (t := 13) dX7_ruleOf_75 (by decide) ?_))
        exact z_less [2, 3, 1, 4, 0] rfl H11
      · have H12 := H10.2 q
        refine z_sipush (w := 1000) dX7_ruleOf_39 (by decide) (z_iload_n 3 dX7_ruleOf_42 rfl (z_imul dX7_ruleOf_43 (z_bipush (w := 100) dX7_ruleOf_44 (by decide) (z_iload 4 dX7_ruleOf_46 rfl ?_))))
        obtain ⟨w13, c14, H15⟩ := H12
        refine z_stat (As := [.int x4]) (st := [.int 100, .int (1000 * x3)]) (r1 := (some (.int w13))) (h1 := (g, I, P)) dX7_ruleOf_48 kX7_gap wm_X7_85 ⟨by decide, by decide⟩ rfl rfl (Nat.le_of_ble_eq_true rfl) (by decide) (by decide) c14 ?_
        refine z_imul dX7_ruleOf_51 (z_iadd dX7_ruleOf_52 (z_bipush (w := 10) dX7_ruleOf_53 (by decide) (z_iload 4 dX7_ruleOf_55 rfl ?_)))
        obtain ⟨w16, c17, H18⟩ := H15
        refine z_stat (As := [.int x4]) (st := [.int 10, .int ((1000 * x3) + (100 * w13))]) (r1 := (some (.int w16))) (h1 := (g, I, P)) dX7_ruleOf_57 kX7_wear wm_X7_81 ⟨by decide, by decide⟩ rfl rfl (Nat.le_of_ble_eq_true rfl) (by decide) (by decide) c17 ?_
        refine z_imul dX7_ruleOf_60 (z_iadd dX7_ruleOf_61 (z_iload 4 dX7_ruleOf_62 rfl ?_))
        obtain ⟨w19, c20, H21⟩ := H18
        refine z_stat (As := [.int x4]) (st := [.int (((1000 * x3) + (100 * w13)) + (10 * w16))]) (r1 := (some (.int w19))) (h1 := (g, I, P)) dX7_ruleOf_64 kX7_since wm_X7_88 ⟨by decide, by decide⟩ rfl rfl (Nat.le_of_ble_eq_true rfl) (by decide) (by decide) c20 ?_
        refine z_iadd dX7_ruleOf_67 ?_
        obtain ⟨rfl, rfl⟩ := H21
        exact z_iret dX7_ruleOf_68 rfl (by decide) (by decide)
theorem dX7_missedByAll_0 : decode cX7_missedByAll 0 = .ok (.sipush 4095, 3) := by decide +kernel
theorem dX7_missedByAll_3 : decode cX7_missedByAll 3 = .ok (.istore_n 1, 1) := by decide +kernel
theorem dX7_missedByAll_4 : decode cX7_missedByAll 4 = .ok (.iconst 0, 1) := by decide +kernel
theorem dX7_missedByAll_5 : decode cX7_missedByAll 5 = .ok (.istore_n 2, 1) := by decide +kernel
theorem dX7_missedByAll_6 : decode cX7_missedByAll 6 = .ok (.iload_n 2, 1) := by decide +kernel
theorem dX7_missedByAll_7 : decode cX7_missedByAll 7 = .ok (.sipush 810, 3) := by decide +kernel
theorem dX7_missedByAll_10 : decode cX7_missedByAll 10 = .ok (.if_icmp .ge 48, 3) := by decide +kernel
theorem dX7_missedByAll_13 : decode cX7_missedByAll 13 = .ok (.iload_n 1, 1) := by decide +kernel
theorem dX7_missedByAll_14 : decode cX7_missedByAll 14 = .ok (.ifCond .eq 44, 3) := by decide +kernel
theorem dX7_missedByAll_17 : decode cX7_missedByAll 17 = .ok (.iconst 1, 1) := by decide +kernel
theorem dX7_missedByAll_18 : decode cX7_missedByAll 18 = .ok (.istore_n 3, 1) := by decide +kernel
theorem dX7_missedByAll_19 : decode cX7_missedByAll 19 = .ok (.iload_n 3, 1) := by decide +kernel
theorem dX7_missedByAll_20 : decode cX7_missedByAll 20 = .ok (.bipush 9, 2) := by decide +kernel
theorem dX7_missedByAll_22 : decode cX7_missedByAll 22 = .ok (.if_icmp .gt 30, 3) := by decide +kernel
theorem dX7_missedByAll_25 : decode cX7_missedByAll 25 = .ok (.aload_n 0, 1) := by decide +kernel
theorem dX7_missedByAll_26 : decode cX7_missedByAll 26 = .ok (.iload_n 2, 1) := by decide +kernel
theorem dX7_missedByAll_27 : decode cX7_missedByAll 27 = .ok (.invokevirtual 103, 3) := by decide +kernel
theorem dX7_missedByAll_30 : decode cX7_missedByAll 30 = .ok (.iload_n 3, 1) := by decide +kernel
theorem dX7_missedByAll_31 : decode cX7_missedByAll 31 = .ok (.invokestatic 111, 3) := by decide +kernel
theorem dX7_missedByAll_34 : decode cX7_missedByAll 34 = .ok (.ifCond .eq 12, 3) := by decide +kernel
theorem dX7_missedByAll_37 : decode cX7_missedByAll 37 = .ok (.iload_n 1, 1) := by decide +kernel
theorem dX7_missedByAll_38 : decode cX7_missedByAll 38 = .ok (.aload_n 0, 1) := by decide +kernel
theorem dX7_missedByAll_39 : decode cX7_missedByAll 39 = .ok (.iload_n 3, 1) := by decide +kernel
theorem dX7_missedByAll_40 : decode cX7_missedByAll 40 = .ok (.iload_n 2, 1) := by decide +kernel
theorem dX7_missedByAll_41 : decode cX7_missedByAll 41 = .ok (.invokevirtual 115, 3) := by decide +kernel
theorem dX7_missedByAll_44 : decode cX7_missedByAll 44 = .ok (.iand, 1) := by decide +kernel
theorem dX7_missedByAll_45 : decode cX7_missedByAll 45 = .ok (.istore_n 1, 1) := by decide +kernel
theorem dX7_missedByAll_46 : decode cX7_missedByAll 46 = .ok (.iinc 3 1, 3) := by decide +kernel
theorem dX7_missedByAll_49 : decode cX7_missedByAll 49 = .ok (.goto (-30), 3) := by decide +kernel
theorem dX7_missedByAll_52 : decode cX7_missedByAll 52 = .ok (.iinc 2 1, 3) := by decide +kernel
theorem dX7_missedByAll_55 : decode cX7_missedByAll 55 = .ok (.goto (-49), 3) := by decide +kernel
theorem dX7_missedByAll_58 : decode cX7_missedByAll 58 = .ok (.iload_n 1, 1) := by decide +kernel
theorem dX7_missedByAll_59 : decode cX7_missedByAll 59 = .ok (.ireturn, 1) := by decide +kernel
set_option maxRecDepth 10000 in
theorem wX7_missedByAll_0 {g : zG} {I : Nat → Nat → Int32} {P : Nat → Nat → Option Nat} {r : Option Value} {h' : zH} {a0 : Nat} (H : Zt none mX7_missedByAll 0 0 6 [(0, .ref a0), (1, .int 4095), (2, .int 0)] [] (g, I, P) r h') : Zt none mX7_missedByAll 0 0 0 [(0, .ref a0)] [] (g, I, P) r h' := by
  refine z_sipush (w := 4095) dX7_missedByAll_0 (by decide) (z_istore_n (lv' := [(1, .int 4095), (0, .ref a0)]) dX7_missedByAll_3 (by decide) rfl (z_iconst (w := 0) dX7_missedByAll_4 (by decide) (z_istore_n (lv' := [(2, .int 0), (1, .int 4095), (0, .ref a0)]) dX7_missedByAll_5 (by decide) rfl ?_)))
  exact z_less [2, 1, 0] rfl H
theorem eX7_missedByAll {g : zG} {I : Nat → Nat → Int32} {P : Nat → Nat → Option Nat} {r : Option Value} {h' : zH} {a0 : Nat} (H : Zt none mX7_missedByAll 0 0 0 [(0, .ref a0)] [] (g, I, P) r h') : Cl mX7_missedByAll [.ref a0] (g, I, P) r h' := Cl.of (by decide) (Nat.le_of_ble_eq_true rfl) H
set_option maxRecDepth 10000 in
theorem wX7_missedByAll_6 {g : zG} {I : Nat → Nat → Int32} {P : Nat → Nat → Option Nat} {r : Option Value} {h' : zH} {a0 : Nat} {x1 : Int32} {x2 : Int32} (H : ((810 ≤ x2) → r = some (.int x1) ∧ h' = (g, I, P)) ∧ ((¬ 810 ≤ x2) → ((x1 = 0) → r = some (.int x1) ∧ h' = (g, I, P)) ∧ ((¬ x1 = 0) → Zt none mX7_missedByAll 0 0 19 [(0, .ref a0), (1, .int x1), (2, .int x2), (3, .int 1)] [] (g, I, P) r h'))) : Zt none mX7_missedByAll 0 0 6 [(0, .ref a0), (1, .int x1), (2, .int x2)] [] (g, I, P) r h' := by
  refine z_iload_n 2 dX7_missedByAll_6 rfl (z_sipush (w := 810) dX7_missedByAll_7 (by decide) ?_)
  refine z_icmp_ge (t := 58) dX7_missedByAll_10 (by decide) (fun q => ?_) (fun q => ?_)
  · have H1 := H.1 q
    refine z_iload_n 1 dX7_missedByAll_58 rfl ?_
    obtain ⟨rfl, rfl⟩ := H1
    exact z_iret dX7_missedByAll_59 rfl (by decide) (by decide)
  · have H2 := H.2 q
    refine z_iload_n 1 dX7_missedByAll_13 rfl ?_
    refine z_if_eq (t := 58) dX7_missedByAll_14 (by decide) (fun q => ?_) (fun q => ?_)
    · have H3 := H2.1 q
      refine z_iload_n 1 dX7_missedByAll_58 rfl ?_
      obtain ⟨rfl, rfl⟩ := H3
      exact z_iret dX7_missedByAll_59 rfl (by decide) (by decide)
    · have H4 := H2.2 q
      refine z_iconst (w := 1) dX7_missedByAll_17 (by decide) (z_istore_n (lv' := [(3, .int 1), (0, .ref a0), (1, .int x1), (2, .int x2)]) dX7_missedByAll_18 (by decide) rfl ?_)
      exact z_less [1, 2, 3, 0] rfl H4
set_option maxRecDepth 10000 in
theorem wX7_missedByAll_19 {g : zG} {I : Nat → Nat → Int32} {P : Nat → Nat → Option Nat} {r : Option Value} {h' : zH} {a0 : Nat} {x1 : Int32} {x2 : Int32} {x3 : Int32} (H : ((9 < x3) → Zt none mX7_missedByAll 0 0 6 [(0, .ref a0), (1, .int x1), (2, .int (x2 + 1))] [] (g, I, P) r h') ∧ ((¬ 9 < x3) → zk g a0 7 ∧ ∃ (w3 : Int32), Cl mX7_startsOf [.ref a0, .int x2] (g, I, P) (some (.int w3)) (g, I, P) ∧ ∃ (w6 : Int32), Cl mX11_has [.int w3, .int x3] (g, I, P) (some (.int w6)) (g, I, P) ∧ ((w6 = 0) → Zt none mX7_missedByAll 0 0 19 [(0, .ref a0), (1, .int x1), (2, .int x2), (3, .int (x3 + 1))] [] (g, I, P) r h') ∧ ((¬ w6 = 0) → zk g a0 7 ∧ ∃ (w11 : Int32), Cl mX7_missedPlaces [.ref a0, .int x3, .int x2] (g, I, P) (some (.int w11)) (g, I, P) ∧ Zt none mX7_missedByAll 0 0 19 [(0, .ref a0), (1, .int (x1 &&& w11)), (2, .int x2), (3, .int (x3 + 1))] [] (g, I, P) r h'))) : Zt none mX7_missedByAll 0 0 19 [(0, .ref a0), (1, .int x1), (2, .int x2), (3, .int x3)] [] (g, I, P) r h' := by
  refine z_iload_n 3 dX7_missedByAll_19 rfl (z_bipush (w := 9) dX7_missedByAll_20 (by decide) ?_)
  refine z_icmp_gt (t := 52) dX7_missedByAll_22 (by decide) (fun q => ?_) (fun q => ?_)
  · have H1 := H.1 q
    refine z_iinc (y := x2 + 1) (lv' := [(2, .int (x2 + 1)), (0, .ref a0), (1, .int x1), (3, .int x3)]) 2 dX7_missedByAll_52 rfl rfl (by decide) rfl (z_goto (t := 6) dX7_missedByAll_55 (by decide) ?_)
    exact z_less [1, 2, 0] rfl H1
  · have H2 := H.2 q
    refine z_aload_n 0 dX7_missedByAll_25 rfl rfl (z_iload_n 2 dX7_missedByAll_26 rfl ?_)
    obtain ⟨oc4, w3, c4, H5⟩ := H2
    refine z_virt (As := [.int x2]) (st := []) (r1 := (some (.int w3))) (h1 := (g, I, P)) dX7_missedByAll_27 kX7_startsOf wm_X7_103 ⟨by decide, by decide⟩ rfl rfl (Nat.le_of_ble_eq_true rfl) (by decide) (by decide) oc4 c4 ?_
    refine z_iload_n 3 dX7_missedByAll_30 rfl ?_
    obtain ⟨w6, c7, H8⟩ := H5
    refine z_stat (As := [.int w3, .int x3]) (st := []) (r1 := (some (.int w6))) (h1 := (g, I, P)) dX7_missedByAll_31 kX11_has wm_X7_111 ⟨by decide, by decide⟩ rfl rfl (Nat.le_of_ble_eq_true rfl) (by decide) (by decide) c7 ?_
    refine z_if_eq (t := 46) dX7_missedByAll_34 (by decide) (fun q => ?_) (fun q => ?_)
    · have H9 := H8.1 q
      refine z_iinc (y := x3 + 1) (lv' := [(3, .int (x3 + 1)), (0, .ref a0), (1, .int x1), (2, .int x2)]) 3 dX7_missedByAll_46 rfl rfl (by decide) rfl (z_goto (t := 19) dX7_missedByAll_49 (by decide) ?_)
      exact z_less [1, 2, 3, 0] rfl H9
    · have H10 := H8.2 q
      refine z_iload_n 1 dX7_missedByAll_37 rfl (z_aload_n 0 dX7_missedByAll_38 rfl rfl (z_iload_n 3 dX7_missedByAll_39 rfl (z_iload_n 2 dX7_missedByAll_40 rfl ?_)))
      obtain ⟨oc12, w11, c12, H13⟩ := H10
      refine z_virt (As := [.int x3, .int x2]) (st := [.int x1]) (r1 := (some (.int w11))) (h1 := (g, I, P)) dX7_missedByAll_41 kX7_missedPlaces wm_X7_115 ⟨by decide, by decide⟩ rfl rfl (Nat.le_of_ble_eq_true rfl) (by decide) (by decide) oc12 c12 ?_
      refine z_iand dX7_missedByAll_44 (z_istore_n (lv' := [(1, .int (x1 &&& w11)), (0, .ref a0), (2, .int x2), (3, .int x3)]) dX7_missedByAll_45 (by decide) rfl (z_iinc (y := x3 + 1) (lv' := [(3, .int (x3 + 1)), (1, .int (x1 &&& w11)), (0, .ref a0), (2, .int x2)]) 3 dX7_missedByAll_46 rfl rfl (by decide) rfl (z_goto (t := 19) dX7_missedByAll_49 (by decide) ?_)))
      exact z_less [2, 1, 3, 0] rfl H13
theorem dX7_missedPlaces_0 : decode cX7_missedPlaces 0 = .ok (.iconst 0, 1) := by decide +kernel
theorem dX7_missedPlaces_1 : decode cX7_missedPlaces 1 = .ok (.istore_n 3, 1) := by decide +kernel
theorem dX7_missedPlaces_2 : decode cX7_missedPlaces 2 = .ok (.iconst 0, 1) := by decide +kernel
theorem dX7_missedPlaces_3 : decode cX7_missedPlaces 3 = .ok (.istore 4, 2) := by decide +kernel
theorem dX7_missedPlaces_5 : decode cX7_missedPlaces 5 = .ok (.iload 4, 2) := by decide +kernel
theorem dX7_missedPlaces_7 : decode cX7_missedPlaces 7 = .ok (.aload_n 0, 1) := by decide +kernel
theorem dX7_missedPlaces_8 : decode cX7_missedPlaces 8 = .ok (.getfield 12, 3) := by decide +kernel
theorem dX7_missedPlaces_11 : decode cX7_missedPlaces 11 = .ok (.getfield 62, 3) := by decide +kernel
theorem dX7_missedPlaces_14 : decode cX7_missedPlaces 14 = .ok (.if_icmp .ge 59, 3) := by decide +kernel
theorem dX7_missedPlaces_17 : decode cX7_missedPlaces 17 = .ok (.aload_n 0, 1) := by decide +kernel
theorem dX7_missedPlaces_18 : decode cX7_missedPlaces 18 = .ok (.getfield 12, 3) := by decide +kernel
theorem dX7_missedPlaces_21 : decode cX7_missedPlaces 21 = .ok (.getfield 68, 3) := by decide +kernel
theorem dX7_missedPlaces_24 : decode cX7_missedPlaces 24 = .ok (.iload 4, 2) := by decide +kernel
theorem dX7_missedPlaces_26 : decode cX7_missedPlaces 26 = .ok (.invokestatic 46, 3) := by decide +kernel
theorem dX7_missedPlaces_29 : decode cX7_missedPlaces 29 = .ok (.istore 5, 2) := by decide +kernel
theorem dX7_missedPlaces_31 : decode cX7_missedPlaces 31 = .ok (.iconst 0, 1) := by decide +kernel
theorem dX7_missedPlaces_32 : decode cX7_missedPlaces 32 = .ok (.iload_n 1, 1) := by decide +kernel
theorem dX7_missedPlaces_33 : decode cX7_missedPlaces 33 = .ok (.aload_n 0, 1) := by decide +kernel
theorem dX7_missedPlaces_34 : decode cX7_missedPlaces 34 = .ok (.iload_n 2, 1) := by decide +kernel
theorem dX7_missedPlaces_35 : decode cX7_missedPlaces 35 = .ok (.iload 5, 2) := by decide +kernel
theorem dX7_missedPlaces_37 : decode cX7_missedPlaces 37 = .ok (.invokevirtual 71, 3) := by decide +kernel
theorem dX7_missedPlaces_40 : decode cX7_missedPlaces 40 = .ok (.isub, 1) := by decide +kernel
theorem dX7_missedPlaces_41 : decode cX7_missedPlaces 41 = .ok (.invokestatic 50, 3) := by decide +kernel
theorem dX7_missedPlaces_44 : decode cX7_missedPlaces 44 = .ok (.aload_n 0, 1) := by decide +kernel
theorem dX7_missedPlaces_45 : decode cX7_missedPlaces 45 = .ok (.getfield 12, 3) := by decide +kernel
theorem dX7_missedPlaces_48 : decode cX7_missedPlaces 48 = .ok (.getfield 65, 3) := by decide +kernel
theorem dX7_missedPlaces_51 : decode cX7_missedPlaces 51 = .ok (.iload 4, 2) := by decide +kernel
theorem dX7_missedPlaces_53 : decode cX7_missedPlaces 53 = .ok (.invokestatic 46, 3) := by decide +kernel
theorem dX7_missedPlaces_56 : decode cX7_missedPlaces 56 = .ok (.if_icmp .eq 11, 3) := by decide +kernel
theorem dX7_missedPlaces_59 : decode cX7_missedPlaces 59 = .ok (.iload_n 3, 1) := by decide +kernel
theorem dX7_missedPlaces_60 : decode cX7_missedPlaces 60 = .ok (.iload 5, 2) := by decide +kernel
theorem dX7_missedPlaces_62 : decode cX7_missedPlaces 62 = .ok (.invokestatic 91, 3) := by decide +kernel
theorem dX7_missedPlaces_65 : decode cX7_missedPlaces 65 = .ok (.ior, 1) := by decide +kernel
theorem dX7_missedPlaces_66 : decode cX7_missedPlaces 66 = .ok (.istore_n 3, 1) := by decide +kernel
theorem dX7_missedPlaces_67 : decode cX7_missedPlaces 67 = .ok (.iinc 4 1, 3) := by decide +kernel
theorem dX7_missedPlaces_70 : decode cX7_missedPlaces 70 = .ok (.goto (-65), 3) := by decide +kernel
theorem dX7_missedPlaces_73 : decode cX7_missedPlaces 73 = .ok (.iload_n 3, 1) := by decide +kernel
theorem dX7_missedPlaces_74 : decode cX7_missedPlaces 74 = .ok (.ireturn, 1) := by decide +kernel
set_option maxRecDepth 10000 in
theorem wX7_missedPlaces_0 {g : zG} {I : Nat → Nat → Int32} {P : Nat → Nat → Option Nat} {r : Option Value} {h' : zH} {a0 : Nat} {x1 : Int32} {x2 : Int32} (H : Zt none mX7_missedPlaces 0 0 5 [(0, .ref a0), (1, .int x1), (2, .int x2), (3, .int 0), (4, .int 0)] [] (g, I, P) r h') : Zt none mX7_missedPlaces 0 0 0 [(0, .ref a0), (1, .int x1), (2, .int x2)] [] (g, I, P) r h' := by
  refine z_iconst (w := 0) dX7_missedPlaces_0 (by decide) (z_istore_n (lv' := [(3, .int 0), (0, .ref a0), (1, .int x1), (2, .int x2)]) dX7_missedPlaces_1 (by decide) rfl (z_iconst (w := 0) dX7_missedPlaces_2 (by decide) (z_istore (lv' := [(4, .int 0), (3, .int 0), (0, .ref a0), (1, .int x1), (2, .int x2)]) dX7_missedPlaces_3 (by decide) rfl ?_)))
  exact z_less [2, 3, 4, 1, 0] rfl H
theorem eX7_missedPlaces {g : zG} {I : Nat → Nat → Int32} {P : Nat → Nat → Option Nat} {r : Option Value} {h' : zH} {a0 : Nat} {x1 : Int32} {x2 : Int32} (H : Zt none mX7_missedPlaces 0 0 0 [(0, .ref a0), (1, .int x1), (2, .int x2)] [] (g, I, P) r h') : Cl mX7_missedPlaces [.ref a0, .int x1, .int x2] (g, I, P) r h' := Cl.of (by decide) (Nat.le_of_ble_eq_true rfl) H
set_option maxRecDepth 10000 in
theorem wX7_missedPlaces_5 {g : zG} {I : Nat → Nat → Int32} {P : Nat → Nat → Option Nat} {r : Option Value} {h' : zH} {a0 : Nat} {x1 : Int32} {x2 : Int32} {x3 : Int32} {x4 : Int32} (H : zk g a0 7 ∧ ∃ b1, P a0 0 = some b1 ∧ zk g b1 5 ∧ ((I b1 0 ≤ x4) → r = some (.int x3) ∧ h' = (g, I, P)) ∧ ((¬ I b1 0 ≤ x4) → zk g a0 7 ∧ ∃ b6, P a0 0 = some b6 ∧ zk g b6 5 ∧ ∃ b9, P b6 1 = some b9 ∧ ∃ (w12 : Int32), Cl mX11_got [.ref b9, .int x4] (g, I, P) (some (.int w12)) (g, I, P) ∧ zk g a0 7 ∧ ∃ (w15 : Int32), Cl mX7_lessBy [.ref a0, .int x2, .int w12] (g, I, P) (some (.int w15)) (g, I, P) ∧ zk g a0 7 ∧ ∃ b18, P a0 0 = some b18 ∧ zk g b18 5 ∧ ∃ b21, P b18 2 = some b21 ∧ ∃ (w24 : Int32), Cl mX11_got [.ref b21, .int x4] (g, I, P) (some (.int w24)) (g, I, P) ∧ ((zmmax 0 (x1 - w15) = w24) → Zt none mX7_missedPlaces 0 0 5 [(0, .ref a0), (1, .int x1), (2, .int x2), (3, .int x3), (4, .int (x4 + 1))] [] (g, I, P) r h') ∧ ((¬ zmmax 0 (x1 - w15) = w24) → ∃ (w29 : Int32), Cl mX11_bit [.int w12] (g, I, P) (some (.int w29)) (g, I, P) ∧ Zt none mX7_missedPlaces 0 0 5 [(0, .ref a0), (1, .int x1), (2, .int x2), (3, .int (x3 ||| w29)), (4, .int (x4 + 1))] [] (g, I, P) r h'))) : Zt none mX7_missedPlaces 0 0 5 [(0, .ref a0), (1, .int x1), (2, .int x2), (3, .int x3), (4, .int x4)] [] (g, I, P) r h' := by
  refine z_iload 4 dX7_missedPlaces_5 rfl (z_aload_n 0 dX7_missedPlaces_7 rfl rfl ?_)
  obtain ⟨oe3, b1, e3, H2⟩ := H
  refine z_getP dX7_missedPlaces_8 wf_X7_12 (by decide) (by decide) rfl oe3 (fun q => (by cases q.symm.trans e3)) (fun j q => ?_)
  cases q.symm.trans e3
  refine z_getI dX7_missedPlaces_11 wf_X7_62 (by decide) (by decide) rfl H2.1 ?_
  refine z_icmp_ge (t := 73) dX7_missedPlaces_14 (by decide) (fun q => ?_) (fun q => ?_)
  · have H4 := H2.2.1 q
    refine z_iload_n 3 dX7_missedPlaces_73 rfl ?_
    obtain ⟨rfl, rfl⟩ := H4
    exact z_iret dX7_missedPlaces_74 rfl (by decide) (by decide)
  · have H5 := H2.2.2 q
    refine z_aload_n 0 dX7_missedPlaces_17 rfl rfl ?_
    obtain ⟨oe8, b6, e8, H7⟩ := H5
    refine z_getP dX7_missedPlaces_18 wf_X7_12 (by decide) (by decide) rfl oe8 (fun q => (by cases q.symm.trans e8)) (fun j q => ?_)
    cases q.symm.trans e8
    obtain ⟨oe11, b9, e11, H10⟩ := H7
    refine z_getP dX7_missedPlaces_21 wf_X7_68 (by decide) (by decide) rfl oe11 (fun q => (by cases q.symm.trans e11)) (fun j q => ?_)
    cases q.symm.trans e11
    refine z_iload 4 dX7_missedPlaces_24 rfl ?_
    obtain ⟨w12, c13, H14⟩ := H10
    refine z_stat (As := [.ref b9, .int x4]) (st := []) (r1 := (some (.int w12))) (h1 := (g, I, P)) dX7_missedPlaces_26 kX11_got wm_X7_46 ⟨by decide, by decide⟩ rfl rfl (Nat.le_of_ble_eq_true rfl) (by decide) (by decide) c13 ?_
    refine z_istore (lv' := [(5, .int w12), (0, .ref a0), (1, .int x1), (2, .int x2), (3, .int x3), (4, .int x4)]) dX7_missedPlaces_29 (by decide) rfl (z_iconst (w := 0) dX7_missedPlaces_31 (by decide) (z_iload_n 2 dX7_missedPlaces_32 rfl (z_aload_n 1 dX7_missedPlaces_33 rfl rfl (z_iload_n 3 dX7_missedPlaces_34 rfl (z_iload 0 dX7_missedPlaces_35 rfl ?_)))))
    obtain ⟨oc16, w15, c16, H17⟩ := H14
    refine z_virt (As := [.int x2, .int w12]) (st := [.int x1, .int 0]) (r1 := (some (.int w15))) (h1 := (g, I, P)) dX7_missedPlaces_37 kX7_lessBy wm_X7_71 ⟨by decide, by decide⟩ rfl rfl (Nat.le_of_ble_eq_true rfl) (by decide) (by decide) oc16 c16 ?_
    refine z_isub dX7_missedPlaces_40 (z_mmax dX7_missedPlaces_41 wm_X7_50 (by decide) (Nat.le_of_ble_eq_true rfl) (by decide) (by decide) w_mxS w_mI w_mxC (z_aload_n 1 dX7_missedPlaces_44 rfl rfl ?_))
    obtain ⟨oe20, b18, e20, H19⟩ := H17
    refine z_getP dX7_missedPlaces_45 wf_X7_12 (by decide) (by decide) rfl oe20 (fun q => (by cases q.symm.trans e20)) (fun j q => ?_)
    cases q.symm.trans e20
    obtain ⟨oe23, b21, e23, H22⟩ := H19
    refine z_getP dX7_missedPlaces_48 wf_X7_65 (by decide) (by decide) rfl oe23 (fun q => (by cases q.symm.trans e23)) (fun j q => ?_)
    cases q.symm.trans e23
    refine z_iload 5 dX7_missedPlaces_51 rfl ?_
    obtain ⟨w24, c25, H26⟩ := H22
    refine z_stat (As := [.ref b21, .int x4]) (st := [.int (zmmax 0 (x1 - w15))]) (r1 := (some (.int w24))) (h1 := (g, I, P)) dX7_missedPlaces_53 kX11_got wm_X7_46 ⟨by decide, by decide⟩ rfl rfl (Nat.le_of_ble_eq_true rfl) (by decide) (by decide) c25 ?_
    refine z_icmp_eq (t := 67) dX7_missedPlaces_56 (by decide) (fun q => ?_) (fun q => ?_)
    · have H27 := H26.1 q
      refine z_iinc (y := x4 + 1) (lv' := [(4, .int (x4 + 1)), (5, .int w12), (0, .ref a0), (1, .int x1), (2, .int x2), (3, .int x3)]) 5 dX7_missedPlaces_67 rfl rfl (by decide) rfl (z_goto (t := 5) dX7_missedPlaces_70 (by decide) ?_)
      exact z_less [2, 3, 4, 5, 0] rfl H27
    · have H28 := H26.2 q
      refine z_iload_n 4 dX7_missedPlaces_59 rfl (z_iload 0 dX7_missedPlaces_60 rfl ?_)
      obtain ⟨w29, c30, H31⟩ := H28
      refine z_stat (As := [.int w12]) (st := [.int x3]) (r1 := (some (.int w29))) (h1 := (g, I, P)) dX7_missedPlaces_62 kX11_bit wm_X7_91 ⟨by decide, by decide⟩ rfl rfl (Nat.le_of_ble_eq_true rfl) (by decide) (by decide) c30 ?_
      refine z_ior dX7_missedPlaces_65 (z_istore_n (lv' := [(3, .int (x3 ||| w29)), (5, .int w12), (0, .ref a0), (1, .int x1), (2, .int x2), (4, .int x4)]) dX7_missedPlaces_66 (by decide) rfl (z_iinc (y := x4 + 1) (lv' := [(4, .int (x4 + 1)), (3, .int (x3 ||| w29)), (5, .int w12), (0, .ref a0), (1, .int x1), (2, .int x2)]) 5 dX7_missedPlaces_67 rfl rfl (by decide) rfl (z_goto (t := 5) dX7_missedPlaces_70 (by decide) ?_)))
      exact z_less [3, 4, 5, 1, 0] rfl H31
theorem dX7_years_0 : decode cX7_years 0 = .ok (.iconst (-1), 1) := by decide +kernel
theorem dX7_years_1 : decode cX7_years 1 = .ok (.istore_n 2, 1) := by decide +kernel
theorem dX7_years_2 : decode cX7_years 2 = .ok (.iconst 0, 1) := by decide +kernel
theorem dX7_years_3 : decode cX7_years 3 = .ok (.istore_n 3, 1) := by decide +kernel
theorem dX7_years_4 : decode cX7_years 4 = .ok (.iload_n 3, 1) := by decide +kernel
theorem dX7_years_5 : decode cX7_years 5 = .ok (.sipush 810, 3) := by decide +kernel
theorem dX7_years_8 : decode cX7_years 8 = .ok (.if_icmp .ge 72, 3) := by decide +kernel
theorem dX7_years_11 : decode cX7_years 11 = .ok (.aload_n 0, 1) := by decide +kernel
theorem dX7_years_12 : decode cX7_years 12 = .ok (.getfield 32, 3) := by decide +kernel
theorem dX7_years_15 : decode cX7_years 15 = .ok (.iload_n 3, 1) := by decide +kernel
theorem dX7_years_16 : decode cX7_years 16 = .ok (.invokestatic 85, 3) := by decide +kernel
theorem dX7_years_19 : decode cX7_years 19 = .ok (.imul, 1) := by decide +kernel
theorem dX7_years_20 : decode cX7_years 20 = .ok (.iload_n 3, 1) := by decide +kernel
theorem dX7_years_21 : decode cX7_years 21 = .ok (.invokestatic 88, 3) := by decide +kernel
theorem dX7_years_24 : decode cX7_years 24 = .ok (.iadd, 1) := by decide +kernel
theorem dX7_years_25 : decode cX7_years 25 = .ok (.istore 4, 2) := by decide +kernel
theorem dX7_years_27 : decode cX7_years 27 = .ok (.iload_n 2, 1) := by decide +kernel
theorem dX7_years_28 : decode cX7_years 28 = .ok (.iconst (-1), 1) := by decide +kernel
theorem dX7_years_29 : decode cX7_years 29 = .ok (.if_icmp .eq 22, 3) := by decide +kernel
theorem dX7_years_32 : decode cX7_years 32 = .ok (.iload_n 1, 1) := by decide +kernel
theorem dX7_years_33 : decode cX7_years 33 = .ok (.ifCond .eq 12, 3) := by decide +kernel
theorem dX7_years_36 : decode cX7_years 36 = .ok (.iload 4, 2) := by decide +kernel
theorem dX7_years_38 : decode cX7_years 38 = .ok (.iload_n 2, 1) := by decide +kernel
theorem dX7_years_39 : decode cX7_years 39 = .ok (.if_icmp .le 16, 3) := by decide +kernel
theorem dX7_years_42 : decode cX7_years 42 = .ok (.goto 9, 3) := by decide +kernel
theorem dX7_years_45 : decode cX7_years 45 = .ok (.iload 4, 2) := by decide +kernel
theorem dX7_years_47 : decode cX7_years 47 = .ok (.iload_n 2, 1) := by decide +kernel
theorem dX7_years_48 : decode cX7_years 48 = .ok (.if_icmp .ge 7, 3) := by decide +kernel
theorem dX7_years_51 : decode cX7_years 51 = .ok (.iconst 1, 1) := by decide +kernel
theorem dX7_years_52 : decode cX7_years 52 = .ok (.goto 4, 3) := by decide +kernel
theorem dX7_years_55 : decode cX7_years 55 = .ok (.iconst 0, 1) := by decide +kernel
theorem dX7_years_56 : decode cX7_years 56 = .ok (.istore 5, 2) := by decide +kernel
theorem dX7_years_58 : decode cX7_years 58 = .ok (.iload 5, 2) := by decide +kernel
theorem dX7_years_60 : decode cX7_years 60 = .ok (.ifCond .eq 14, 3) := by decide +kernel
theorem dX7_years_63 : decode cX7_years 63 = .ok (.aload_n 0, 1) := by decide +kernel
theorem dX7_years_64 : decode cX7_years 64 = .ok (.iload_n 3, 1) := by decide +kernel
theorem dX7_years_65 : decode cX7_years 65 = .ok (.invokevirtual 103, 3) := by decide +kernel
theorem dX7_years_68 : decode cX7_years 68 = .ok (.ifCond .eq 6, 3) := by decide +kernel
theorem dX7_years_71 : decode cX7_years 71 = .ok (.iload 4, 2) := by decide +kernel
theorem dX7_years_73 : decode cX7_years 73 = .ok (.istore_n 2, 1) := by decide +kernel
theorem dX7_years_74 : decode cX7_years 74 = .ok (.iinc 3 1, 3) := by decide +kernel
theorem dX7_years_77 : decode cX7_years 77 = .ok (.goto (-73), 3) := by decide +kernel
theorem dX7_years_80 : decode cX7_years 80 = .ok (.iload_n 2, 1) := by decide +kernel
theorem dX7_years_81 : decode cX7_years 81 = .ok (.ireturn, 1) := by decide +kernel
set_option maxRecDepth 10000 in
theorem wX7_years_0 {g : zG} {I : Nat → Nat → Int32} {P : Nat → Nat → Option Nat} {r : Option Value} {h' : zH} {a0 : Nat} {x1 : Int32} (H : Zt none mX7_years 0 0 4 [(0, .ref a0), (1, .int x1), (2, .int (-1)), (3, .int 0)] [] (g, I, P) r h') : Zt none mX7_years 0 0 0 [(0, .ref a0), (1, .int x1)] [] (g, I, P) r h' := by
  refine z_iconst (w := (-1)) dX7_years_0 (by decide) (z_istore_n (lv' := [(2, .int (-1)), (0, .ref a0), (1, .int x1)]) dX7_years_1 (by decide) rfl (z_iconst (w := 0) dX7_years_2 (by decide) (z_istore_n (lv' := [(3, .int 0), (2, .int (-1)), (0, .ref a0), (1, .int x1)]) dX7_years_3 (by decide) rfl ?_)))
  exact z_less [2, 3, 1, 0] rfl H
theorem eX7_years {g : zG} {I : Nat → Nat → Int32} {P : Nat → Nat → Option Nat} {r : Option Value} {h' : zH} {a0 : Nat} {x1 : Int32} (H : Zt none mX7_years 0 0 0 [(0, .ref a0), (1, .int x1)] [] (g, I, P) r h') : Cl mX7_years [.ref a0, .int x1] (g, I, P) r h' := Cl.of (by decide) (Nat.le_of_ble_eq_true rfl) H
set_option maxRecDepth 10000 in
theorem wX7_years_4 {g : zG} {I : Nat → Nat → Int32} {P : Nat → Nat → Option Nat} {r : Option Value} {h' : zH} {a0 : Nat} {x1 : Int32} {x2 : Int32} {x3 : Int32} (H : ((810 ≤ x3) → r = some (.int x2) ∧ h' = (g, I, P)) ∧ ((¬ 810 ≤ x3) → zk g a0 7 ∧ ∃ (w3 : Int32), Cl mX7_gap [.int x3] (g, I, P) (some (.int w3)) (g, I, P) ∧ ∃ (w6 : Int32), Cl mX7_since [.int x3] (g, I, P) (some (.int w6)) (g, I, P) ∧ ((x2 = (-1)) → Zt none mX7_years 0 0 56 [(0, .ref a0), (1, .int x1), (2, .int x2), (3, .int x3), (4, .int (((I a0 1) * w3) + w6))] [.int 1] (g, I, P) r h') ∧ ((¬ x2 = (-1)) → ((x1 = 0) → ((x2 ≤ ((I a0 1) * w3) + w6) → Zt none mX7_years 0 0 56 [(0, .ref a0), (1, .int x1), (2, .int x2), (3, .int x3), (4, .int (((I a0 1) * w3) + w6))] [.int 0] (g, I, P) r h') ∧ ((¬ x2 ≤ ((I a0 1) * w3) + w6) → Zt none mX7_years 0 0 56 [(0, .ref a0), (1, .int x1), (2, .int x2), (3, .int x3), (4, .int (((I a0 1) * w3) + w6))] [.int 1] (g, I, P) r h')) ∧ ((¬ x1 = 0) → ((((I a0 1) * w3) + w6 ≤ x2) → Zt none mX7_years 0 0 56 [(0, .ref a0), (1, .int x1), (2, .int x2), (3, .int x3), (4, .int (((I a0 1) * w3) + w6))] [.int 0] (g, I, P) r h') ∧ ((¬ ((I a0 1) * w3) + w6 ≤ x2) → Zt none mX7_years 0 0 56 [(0, .ref a0), (1, .int x1), (2, .int x2), (3, .int x3), (4, .int (((I a0 1) * w3) + w6))] [.int 1] (g, I, P) r h'))))) : Zt none mX7_years 0 0 4 [(0, .ref a0), (1, .int x1), (2, .int x2), (3, .int x3)] [] (g, I, P) r h' := by
  refine z_iload_n 3 dX7_years_4 rfl (z_sipush (w := 810) dX7_years_5 (by decide) ?_)
  refine z_icmp_ge (t := 80) dX7_years_8 (by decide) (fun q => ?_) (fun q => ?_)
  · have H1 := H.1 q
    refine z_iload_n 2 dX7_years_80 rfl ?_
    obtain ⟨rfl, rfl⟩ := H1
    exact z_iret dX7_years_81 rfl (by decide) (by decide)
  · have H2 := H.2 q
    refine z_aload_n 0 dX7_years_11 rfl rfl (z_getI dX7_years_12 wf_X7_32 (by decide) (by decide) rfl H2.1 (z_iload_n 3 dX7_years_15 rfl ?_))
    obtain ⟨w3, c4, H5⟩ := H2.2
    refine z_stat (As := [.int x3]) (st := [.int (I a0 1)]) (r1 := (some (.int w3))) (h1 := (g, I, P)) dX7_years_16 kX7_gap wm_X7_85 ⟨by decide, by decide⟩ rfl rfl (Nat.le_of_ble_eq_true rfl) (by decide) (by decide) c4 ?_
    refine z_imul dX7_years_19 (z_iload_n 3 dX7_years_20 rfl ?_)
    obtain ⟨w6, c7, H8⟩ := H5
    refine z_stat (As := [.int x3]) (st := [.int ((I a0 1) * w3)]) (r1 := (some (.int w6))) (h1 := (g, I, P)) dX7_years_21 kX7_since wm_X7_88 ⟨by decide, by decide⟩ rfl rfl (Nat.le_of_ble_eq_true rfl) (by decide) (by decide) c7 ?_
    refine z_iadd dX7_years_24 (z_istore (lv' := [(4, .int (((I a0 1) * w3) + w6)), (0, .ref a0), (1, .int x1), (2, .int x2), (3, .int x3)]) dX7_years_25 (by decide) rfl (z_iload_n 3 dX7_years_27 rfl (z_iconst (w := (-1)) dX7_years_28 (by decide) ?_)))
    refine z_icmp_eq (t := 51) dX7_years_29 (by decide) (fun q => ?_) (fun q => ?_)
    · have H9 := H8.1 q
      refine z_iconst (w := 1) dX7_years_51 (by decide) (z_goto (t := 56) dX7_years_52 (by decide) ?_)
      exact z_less [1, 2, 3, 4, 0] rfl H9
    · have H10 := H8.2 q
      refine z_iload_n 2 dX7_years_32 rfl ?_
      refine z_if_eq (t := 45) dX7_years_33 (by decide) (fun q => ?_) (fun q => ?_)
      · have H11 := H10.1 q
        refine z_iload 0 dX7_years_45 rfl (z_iload_n 3 dX7_years_47 rfl ?_)
        refine z_icmp_ge (t := 55) dX7_years_48 (by decide) (fun q => ?_) (fun q => ?_)
        · have H12 := H11.1 q
          refine z_iconst (w := 0) dX7_years_55 (by decide) ?_
          exact z_less [1, 2, 3, 4, 0] rfl H12
        · have H13 := H11.2 q
          refine z_iconst (w := 1) dX7_years_51 (by decide) (z_goto (t := 56) dX7_years_52 (by decide) ?_)
          exact z_less [1, 2, 3, 4, 0] rfl H13
      · have H14 := H10.2 q
        refine z_iload 0 dX7_years_36 rfl (z_iload_n 3 dX7_years_38 rfl ?_)
        refine z_icmp_le (t := 55) dX7_years_39 (by decide) (fun q => ?_) (fun q => ?_)
        · have H15 := H14.1 q
          refine z_iconst (w := 0) dX7_years_55 (by decide) ?_
          exact z_less [1, 2, 3, 4, 0] rfl H15
        · have H16 := H14.2 q
          refine z_goto (t := 51) dX7_years_42 (by decide) (z_iconst (w := 1) dX7_years_51 (by decide) (z_goto (t := 56) dX7_years_52 (by decide) ?_))
          exact z_less [1, 2, 3, 4, 0] rfl H16
set_option maxRecDepth 10000 in
theorem wX7_years_56 {g : zG} {I : Nat → Nat → Int32} {P : Nat → Nat → Option Nat} {r : Option Value} {h' : zH} {a0 : Nat} {x1 : Int32} {x2 : Int32} {x3 : Int32} {x4 : Int32} {xs0 : Int32} (H : ((xs0 = 0) → Zt none mX7_years 0 0 4 [(0, .ref a0), (1, .int x1), (2, .int x2), (3, .int (x3 + 1))] [] (g, I, P) r h') ∧ ((¬ xs0 = 0) → zk g a0 7 ∧ ∃ (w3 : Int32), Cl mX7_startsOf [.ref a0, .int x3] (g, I, P) (some (.int w3)) (g, I, P) ∧ ((w3 = 0) → Zt none mX7_years 0 0 4 [(0, .ref a0), (1, .int x1), (2, .int x2), (3, .int (x3 + 1))] [] (g, I, P) r h') ∧ ((¬ w3 = 0) → Zt none mX7_years 0 0 4 [(0, .ref a0), (1, .int x1), (2, .int x4), (3, .int (x3 + 1))] [] (g, I, P) r h'))) : Zt none mX7_years 0 0 56 [(0, .ref a0), (1, .int x1), (2, .int x2), (3, .int x3), (4, .int x4)] [.int xs0] (g, I, P) r h' := by
  refine z_istore (lv' := [(5, .int xs0), (0, .ref a0), (1, .int x1), (2, .int x2), (3, .int x3), (4, .int x4)]) dX7_years_56 (by decide) rfl (z_iload 0 dX7_years_58 rfl ?_)
  refine z_if_eq (t := 74) dX7_years_60 (by decide) (fun q => ?_) (fun q => ?_)
  · have H1 := H.1 q
    refine z_iinc (y := x3 + 1) (lv' := [(3, .int (x3 + 1)), (5, .int xs0), (0, .ref a0), (1, .int x1), (2, .int x2), (4, .int x4)]) 4 dX7_years_74 rfl rfl (by decide) rfl (z_goto (t := 4) dX7_years_77 (by decide) ?_)
    exact z_less [2, 3, 4, 0] rfl H1
  · have H2 := H.2 q
    refine z_aload_n 1 dX7_years_63 rfl rfl (z_iload_n 4 dX7_years_64 rfl ?_)
    obtain ⟨oc4, w3, c4, H5⟩ := H2
    refine z_virt (As := [.int x3]) (st := []) (r1 := (some (.int w3))) (h1 := (g, I, P)) dX7_years_65 kX7_startsOf wm_X7_103 ⟨by decide, by decide⟩ rfl rfl (Nat.le_of_ble_eq_true rfl) (by decide) (by decide) oc4 c4 ?_
    refine z_if_eq (t := 74) dX7_years_68 (by decide) (fun q => ?_) (fun q => ?_)
    · have H6 := H5.1 q
      refine z_iinc (y := x3 + 1) (lv' := [(3, .int (x3 + 1)), (5, .int xs0), (0, .ref a0), (1, .int x1), (2, .int x2), (4, .int x4)]) 4 dX7_years_74 rfl rfl (by decide) rfl (z_goto (t := 4) dX7_years_77 (by decide) ?_)
      exact z_less [2, 3, 4, 0] rfl H6
    · have H7 := H5.2 q
      refine z_iload 5 dX7_years_71 rfl (z_istore_n (lv' := [(2, .int x4), (5, .int xs0), (0, .ref a0), (1, .int x1), (3, .int x3), (4, .int x4)]) dX7_years_73 (by decide) rfl (z_iinc (y := x3 + 1) (lv' := [(3, .int (x3 + 1)), (2, .int x4), (5, .int xs0), (0, .ref a0), (1, .int x1), (4, .int x4)]) 4 dX7_years_74 rfl rfl (by decide) rfl (z_goto (t := 4) dX7_years_77 (by decide) ?_)))
      exact z_less [3, 4, 1, 0] rfl H7
theorem dX8_init_0 : decode cX8_init 0 = .ok (.aload_n 0, 1) := by decide +kernel
theorem dX8_init_1 : decode cX8_init 1 = .ok (.invokespecial 1, 3) := by decide +kernel
theorem dX8_init_4 : decode cX8_init 4 = .ok (.return_, 1) := by decide +kernel
set_option maxRecDepth 10000 in
theorem wX8_init_0 {g : zG} {I : Nat → Nat → Int32} {P : Nat → Nat → Option Nat} {r : Option Value} {h' : zH} {a0 : Nat} (H : r = none ∧ h' = (g, I, P)) : Zt none mX8_init 0 0 0 [(0, .ref a0)] [] (g, I, P) r h' := by
  refine z_aload_n 0 dX8_init_0 rfl rfl (z_objInit dX8_init_1 wm_X8_1 w_objI w_objC (by decide) (Nat.le_of_ble_eq_true rfl) ?_)
  obtain ⟨rfl, rfl⟩ := H
  exact z_vret dX8_init_4 rfl (by decide) (by decide)
theorem eX8_init {g : zG} {I : Nat → Nat → Int32} {P : Nat → Nat → Option Nat} {r : Option Value} {h' : zH} {a0 : Nat} (H : Zt none mX8_init 0 0 0 [(0, .ref a0)] [] (g, I, P) r h') : Cl mX8_init [.ref a0] (g, I, P) r h' := Cl.of (by decide) (Nat.le_of_ble_eq_true rfl) H
theorem dX8_begin_0 : decode cX8_begin 0 = .ok (.aload_n 0, 1) := by decide +kernel
theorem dX8_begin_1 : decode cX8_begin 1 = .ok (.aload_n 1, 1) := by decide +kernel
theorem dX8_begin_2 : decode cX8_begin 2 = .ok (.putfield 7, 3) := by decide +kernel
theorem dX8_begin_5 : decode cX8_begin 5 = .ok (.aload_n 0, 1) := by decide +kernel
theorem dX8_begin_6 : decode cX8_begin 6 = .ok (.iload_n 2, 1) := by decide +kernel
theorem dX8_begin_7 : decode cX8_begin 7 = .ok (.putfield 13, 3) := by decide +kernel
theorem dX8_begin_10 : decode cX8_begin 10 = .ok (.aload_n 0, 1) := by decide +kernel
theorem dX8_begin_11 : decode cX8_begin 11 = .ok (.iconst 0, 1) := by decide +kernel
theorem dX8_begin_12 : decode cX8_begin 12 = .ok (.putfield 17, 3) := by decide +kernel
theorem dX8_begin_15 : decode cX8_begin 15 = .ok (.return_, 1) := by decide +kernel
set_option maxRecDepth 10000 in
theorem wX8_begin_0 {g : zG} {I : Nat → Nat → Int32} {P : Nat → Nat → Option Nat} {r : Option Value} {h' : zH} {a0 : Nat} {a1 : Nat} {x2 : Int32} (H : zk g a0 8 ∧ zk g a0 8 ∧ zk g a0 8 ∧ r = none ∧ h' = (g, zU (zU I a0 1 x2) a0 2 0, zU P a0 0 (some a1))) : Zt none mX8_begin 0 0 0 [(0, .ref a0), (1, .ref a1), (2, .int x2)] [] (g, I, P) r h' := by
  refine z_aload_n 0 dX8_begin_0 rfl rfl (z_aload_n 1 dX8_begin_1 rfl rfl (z_putP (g := g) (I := I) (Q := P) dX8_begin_2 wf_X8_7 (by decide) (by decide) rfl (Or.inl rfl) H.1 (z_aload_n 0 dX8_begin_5 rfl rfl (z_iload_n 2 dX8_begin_6 rfl (z_putI (g := g) (I := I) (Q := zU P a0 0 (some a1)) dX8_begin_7 wf_X8_13 (by decide) (by decide) rfl (Or.inl rfl) (zfit_int rfl) H.2.1 (z_aload_n 0 dX8_begin_10 rfl rfl (z_iconst (w := 0) dX8_begin_11 (by decide) (z_putI (g := g) (I := zU I a0 1 x2) (Q := zU P a0 0 (some a1)) dX8_begin_12 wf_X8_17 (by decide) (by decide) rfl (Or.inl rfl) (zfit_int rfl) H.2.2.1 ?_))))))))
  obtain ⟨rfl, rfl⟩ := H.2.2.2
  exact z_vret dX8_begin_15 rfl (by decide) (by decide)
theorem eX8_begin {g : zG} {I : Nat → Nat → Int32} {P : Nat → Nat → Option Nat} {r : Option Value} {h' : zH} {a0 : Nat} {a1 : Nat} {x2 : Int32} (H : Zt none mX8_begin 0 0 0 [(0, .ref a0), (1, .ref a1), (2, .int x2)] [] (g, I, P) r h') : Cl mX8_begin [.ref a0, .ref a1, .int x2] (g, I, P) r h' := Cl.of (by decide) (Nat.le_of_ble_eq_true rfl) H
theorem dX8_step_0 : decode cX8_step 0 = .ok (.aload_n 0, 1) := by decide +kernel
theorem dX8_step_1 : decode cX8_step 1 = .ok (.getfield 17, 3) := by decide +kernel
theorem dX8_step_4 : decode cX8_step 4 = .ok (.aload_n 0, 1) := by decide +kernel
theorem dX8_step_5 : decode cX8_step 5 = .ok (.getfield 13, 3) := by decide +kernel
theorem dX8_step_8 : decode cX8_step 8 = .ok (.if_icmp .ge 33, 3) := by decide +kernel
theorem dX8_step_11 : decode cX8_step 11 = .ok (.aload_n 0, 1) := by decide +kernel
theorem dX8_step_12 : decode cX8_step 12 = .ok (.getfield 7, 3) := by decide +kernel
theorem dX8_step_15 : decode cX8_step 15 = .ok (.aload_n 0, 1) := by decide +kernel
theorem dX8_step_16 : decode cX8_step 16 = .ok (.getfield 17, 3) := by decide +kernel
theorem dX8_step_19 : decode cX8_step 19 = .ok (.invokestatic 20, 3) := by decide +kernel
theorem dX8_step_22 : decode cX8_step 22 = .ok (.invokestatic 26, 3) := by decide +kernel
theorem dX8_step_25 : decode cX8_step 25 = .ok (.ifCond .eq 16, 3) := by decide +kernel
theorem dX8_step_28 : decode cX8_step 28 = .ok (.aload_n 0, 1) := by decide +kernel
theorem dX8_step_29 : decode cX8_step 29 = .ok (.dup, 1) := by decide +kernel
theorem dX8_step_30 : decode cX8_step 30 = .ok (.getfield 17, 3) := by decide +kernel
theorem dX8_step_33 : decode cX8_step 33 = .ok (.iconst 1, 1) := by decide +kernel
theorem dX8_step_34 : decode cX8_step 34 = .ok (.iadd, 1) := by decide +kernel
theorem dX8_step_35 : decode cX8_step 35 = .ok (.putfield 17, 3) := by decide +kernel
theorem dX8_step_38 : decode cX8_step 38 = .ok (.goto (-38), 3) := by decide +kernel
theorem dX8_step_41 : decode cX8_step 41 = .ok (.aload_n 0, 1) := by decide +kernel
theorem dX8_step_42 : decode cX8_step 42 = .ok (.aload_n 0, 1) := by decide +kernel
theorem dX8_step_43 : decode cX8_step 43 = .ok (.getfield 17, 3) := by decide +kernel
theorem dX8_step_46 : decode cX8_step 46 = .ok (.putfield 30, 3) := by decide +kernel
theorem dX8_step_49 : decode cX8_step 49 = .ok (.aload_n 0, 1) := by decide +kernel
theorem dX8_step_50 : decode cX8_step 50 = .ok (.getfield 17, 3) := by decide +kernel
theorem dX8_step_53 : decode cX8_step 53 = .ok (.aload_n 0, 1) := by decide +kernel
theorem dX8_step_54 : decode cX8_step 54 = .ok (.getfield 13, 3) := by decide +kernel
theorem dX8_step_57 : decode cX8_step 57 = .ok (.if_icmp .lt 11, 3) := by decide +kernel
theorem dX8_step_60 : decode cX8_step 60 = .ok (.aload_n 0, 1) := by decide +kernel
theorem dX8_step_61 : decode cX8_step 61 = .ok (.iconst 0, 1) := by decide +kernel
theorem dX8_step_62 : decode cX8_step 62 = .ok (.putfield 33, 3) := by decide +kernel
theorem dX8_step_65 : decode cX8_step 65 = .ok (.goto 86, 3) := by decide +kernel
theorem dX8_step_68 : decode cX8_step 68 = .ok (.aload_n 0, 1) := by decide +kernel
theorem dX8_step_69 : decode cX8_step 69 = .ok (.getfield 7, 3) := by decide +kernel
theorem dX8_step_72 : decode cX8_step 72 = .ok (.aload_n 0, 1) := by decide +kernel
theorem dX8_step_73 : decode cX8_step 73 = .ok (.getfield 17, 3) := by decide +kernel
theorem dX8_step_76 : decode cX8_step 76 = .ok (.invokestatic 20, 3) := by decide +kernel
theorem dX8_step_79 : decode cX8_step 79 = .ok (.invokestatic 36, 3) := by decide +kernel
theorem dX8_step_82 : decode cX8_step 82 = .ok (.ifCond .eq 10, 3) := by decide +kernel
theorem dX8_step_85 : decode cX8_step 85 = .ok (.aload_n 0, 1) := by decide +kernel
theorem dX8_step_86 : decode cX8_step 86 = .ok (.invokevirtual 39, 3) := by decide +kernel
theorem dX8_step_89 : decode cX8_step 89 = .ok (.goto 62, 3) := by decide +kernel
theorem dX8_step_92 : decode cX8_step 92 = .ok (.aload_n 0, 1) := by decide +kernel
theorem dX8_step_93 : decode cX8_step 93 = .ok (.getfield 7, 3) := by decide +kernel
theorem dX8_step_96 : decode cX8_step 96 = .ok (.aload_n 0, 1) := by decide +kernel
theorem dX8_step_97 : decode cX8_step 97 = .ok (.getfield 17, 3) := by decide +kernel
theorem dX8_step_100 : decode cX8_step 100 = .ok (.invokestatic 20, 3) := by decide +kernel
theorem dX8_step_103 : decode cX8_step 103 = .ok (.invokestatic 42, 3) := by decide +kernel
theorem dX8_step_106 : decode cX8_step 106 = .ok (.ifCond .eq 10, 3) := by decide +kernel
theorem dX8_step_109 : decode cX8_step 109 = .ok (.aload_n 0, 1) := by decide +kernel
theorem dX8_step_110 : decode cX8_step 110 = .ok (.invokevirtual 45, 3) := by decide +kernel
theorem dX8_step_113 : decode cX8_step 113 = .ok (.goto 38, 3) := by decide +kernel
theorem dX8_step_116 : decode cX8_step 116 = .ok (.aload_n 0, 1) := by decide +kernel
theorem dX8_step_117 : decode cX8_step 117 = .ok (.aload_n 0, 1) := by decide +kernel
theorem dX8_step_118 : decode cX8_step 118 = .ok (.getfield 7, 3) := by decide +kernel
theorem dX8_step_121 : decode cX8_step 121 = .ok (.aload_n 0, 1) := by decide +kernel
theorem dX8_step_122 : decode cX8_step 122 = .ok (.getfield 17, 3) := by decide +kernel
theorem dX8_step_125 : decode cX8_step 125 = .ok (.invokestatic 20, 3) := by decide +kernel
theorem dX8_step_128 : decode cX8_step 128 = .ok (.bipush 59, 2) := by decide +kernel
theorem dX8_step_130 : decode cX8_step 130 = .ok (.if_icmp .ne 7, 3) := by decide +kernel
theorem dX8_step_133 : decode cX8_step 133 = .ok (.iconst 3, 1) := by decide +kernel
theorem dX8_step_134 : decode cX8_step 134 = .ok (.goto 4, 3) := by decide +kernel
theorem dX8_step_137 : decode cX8_step 137 = .ok (.iconst 4, 1) := by decide +kernel
theorem dX8_step_138 : decode cX8_step 138 = .ok (.putfield 33, 3) := by decide +kernel
theorem dX8_step_141 : decode cX8_step 141 = .ok (.aload_n 0, 1) := by decide +kernel
theorem dX8_step_142 : decode cX8_step 142 = .ok (.dup, 1) := by decide +kernel
theorem dX8_step_143 : decode cX8_step 143 = .ok (.getfield 17, 3) := by decide +kernel
theorem dX8_step_146 : decode cX8_step 146 = .ok (.iconst 1, 1) := by decide +kernel
theorem dX8_step_147 : decode cX8_step 147 = .ok (.iadd, 1) := by decide +kernel
theorem dX8_step_148 : decode cX8_step 148 = .ok (.putfield 17, 3) := by decide +kernel
theorem dX8_step_151 : decode cX8_step 151 = .ok (.aload_n 0, 1) := by decide +kernel
theorem dX8_step_152 : decode cX8_step 152 = .ok (.aload_n 0, 1) := by decide +kernel
theorem dX8_step_153 : decode cX8_step 153 = .ok (.getfield 17, 3) := by decide +kernel
theorem dX8_step_156 : decode cX8_step 156 = .ok (.aload_n 0, 1) := by decide +kernel
theorem dX8_step_157 : decode cX8_step 157 = .ok (.getfield 30, 3) := by decide +kernel
theorem dX8_step_160 : decode cX8_step 160 = .ok (.isub, 1) := by decide +kernel
theorem dX8_step_161 : decode cX8_step 161 = .ok (.putfield 48, 3) := by decide +kernel
theorem dX8_step_164 : decode cX8_step 164 = .ok (.return_, 1) := by decide +kernel
set_option maxRecDepth 10000 in
theorem wX8_step_0 {g : zG} {I : Nat → Nat → Int32} {P : Nat → Nat → Option Nat} {r : Option Value} {h' : zH} {a0 : Nat} (H : zk g a0 8 ∧ zk g a0 8 ∧ ((I a0 1 ≤ I a0 2) → Zt none mX8_step 0 0 41 [(0, .ref a0)] [] (g, I, P) r h') ∧ ((¬ I a0 1 ≤ I a0 2) → zk g a0 8 ∧ ∃ b3, P a0 0 = some b3 ∧ zk g a0 8 ∧ ∃ (w6 : Int32), Cl mX11_got [.ref b3, .int (I a0 2)] (g, I, P) (some (.int w6)) (g, I, P) ∧ ∃ (w9 : Int32), Cl mX8_isBlank [.int w6] (g, I, P) (some (.int w9)) (g, I, P) ∧ ((w9 = 0) → Zt none mX8_step 0 0 41 [(0, .ref a0)] [] (g, I, P) r h') ∧ ((¬ w9 = 0) → zk g a0 8 ∧ zk g a0 8 ∧ Zt none mX8_step 0 0 0 [(0, .ref a0)] [] (g, zU I a0 2 ((I a0 2) + 1), P) r h'))) : Zt none mX8_step 0 0 0 [(0, .ref a0)] [] (g, I, P) r h' := by
  refine z_aload_n 0 dX8_step_0 rfl rfl (z_getI dX8_step_1 wf_X8_17 (by decide) (by decide) rfl H.1 (z_aload_n 0 dX8_step_4 rfl rfl (z_getI dX8_step_5 wf_X8_13 (by decide) (by decide) rfl H.2.1 ?_)))
  refine z_icmp_ge (t := 41) dX8_step_8 (by decide) (fun q => ?_) (fun q => ?_)
  · have H1 := H.2.2.1 q
    exact z_less [0] rfl H1
  · have H2 := H.2.2.2 q
    refine z_aload_n 0 dX8_step_11 rfl rfl ?_
    obtain ⟨oe5, b3, e5, H4⟩ := H2
    refine z_getP dX8_step_12 wf_X8_7 (by decide) (by decide) rfl oe5 (fun q => (by cases q.symm.trans e5)) (fun j q => ?_)
    cases q.symm.trans e5
    refine z_aload_n 0 dX8_step_15 rfl rfl (z_getI dX8_step_16 wf_X8_17 (by decide) (by decide) rfl H4.1 ?_)
    obtain ⟨w6, c7, H8⟩ := H4.2
    refine z_stat (As := [.ref b3, .int (I a0 2)]) (st := []) (r1 := (some (.int w6))) (h1 := (g, I, P)) dX8_step_19 kX11_got wm_X8_20 ⟨by decide, by decide⟩ rfl rfl (Nat.le_of_ble_eq_true rfl) (by decide) (by decide) c7 ?_
    obtain ⟨w9, c10, H11⟩ := H8
    refine z_stat (As := [.int w6]) (st := []) (r1 := (some (.int w9))) (h1 := (g, I, P)) dX8_step_22 kX8_isBlank wm_X8_26 ⟨by decide, by decide⟩ rfl rfl (Nat.le_of_ble_eq_true rfl) (by decide) (by decide) c10 ?_
    refine z_if_eq (t := 41) dX8_step_25 (by decide) (fun q => ?_) (fun q => ?_)
    · have H12 := H11.1 q
      exact z_less [0] rfl H12
    · have H13 := H11.2 q
      refine z_aload_n 0 dX8_step_28 rfl rfl (z_dup dX8_step_29 rfl (z_getI dX8_step_30 wf_X8_17 (by decide) (by decide) rfl H13.1 (z_iconst (w := 1) dX8_step_33 (by decide) (z_iadd dX8_step_34 (z_putI (g := g) (I := I) (Q := P) dX8_step_35 wf_X8_17 (by decide) (by decide) rfl (Or.inl rfl) (zfit_int rfl) H13.2.1 (z_goto (t := 0) dX8_step_38 (by decide) ?_))))))
      exact z_less [0] rfl H13.2.2
theorem eX8_step {g : zG} {I : Nat → Nat → Int32} {P : Nat → Nat → Option Nat} {r : Option Value} {h' : zH} {a0 : Nat} (H : Zt none mX8_step 0 0 0 [(0, .ref a0)] [] (g, I, P) r h') : Cl mX8_step [.ref a0] (g, I, P) r h' := Cl.of (by decide) (Nat.le_of_ble_eq_true rfl) H
set_option maxRecDepth 10000 in
theorem wX8_step_41 {g : zG} {I : Nat → Nat → Int32} {P : Nat → Nat → Option Nat} {r : Option Value} {h' : zH} {a0 : Nat} (H : zk g a0 8 ∧ zk g a0 8 ∧ zk g a0 8 ∧ zk g a0 8 ∧ (((zU I a0 4 (I a0 2)) a0 2 < (zU I a0 4 (I a0 2)) a0 1) → zk g a0 8 ∧ ∃ b2, P a0 0 = some b2 ∧ zk g a0 8 ∧ ∃ (w5 : Int32), Cl mX11_got [.ref b2, .int ((zU I a0 4 (I a0 2)) a0 2)] (g, zU I a0 4 (I a0 2), P) (some (.int w5)) (g, zU I a0 4 (I a0 2), P) ∧ ∃ (w8 : Int32), Cl mX8_isLetter [.int w5] (g, zU I a0 4 (I a0 2), P) (some (.int w8)) (g, zU I a0 4 (I a0 2), P) ∧ ((w8 = 0) → zk g a0 8 ∧ ∃ b12, P a0 0 = some b12 ∧ zk g a0 8 ∧ ∃ (w15 : Int32), Cl mX11_got [.ref b12, .int ((zU I a0 4 (I a0 2)) a0 2)] (g, zU I a0 4 (I a0 2), P) (some (.int w15)) (g, zU I a0 4 (I a0 2), P) ∧ ∃ (w18 : Int32), Cl mX8_isDigit [.int w15] (g, zU I a0 4 (I a0 2), P) (some (.int w18)) (g, zU I a0 4 (I a0 2), P) ∧ ((w18 = 0) → zk g a0 8 ∧ ∃ b22, P a0 0 = some b22 ∧ zk g a0 8 ∧ ∃ (w25 : Int32), Cl mX11_got [.ref b22, .int ((zU I a0 4 (I a0 2)) a0 2)] (g, zU I a0 4 (I a0 2), P) (some (.int w25)) (g, zU I a0 4 (I a0 2), P) ∧ ((¬ w25 = 59) → Zt none mX8_step 0 0 138 [(0, .ref a0)] [.int 4, .ref a0] (g, zU I a0 4 (I a0 2), P) r h') ∧ ((w25 = 59) → Zt none mX8_step 0 0 138 [(0, .ref a0)] [.int 3, .ref a0] (g, zU I a0 4 (I a0 2), P) r h')) ∧ ((¬ w18 = 0) → zk g a0 8 ∧ ∃ (I31 : Nat → Nat → Int32), Cl mX8_stepOverDigits [.ref a0] (g, zU I a0 4 (I a0 2), P) none (g, I31, P) ∧ zk g a0 8 ∧ zk g a0 8 ∧ zk g a0 8 ∧ r = none ∧ h' = (g, zU I31 a0 5 ((I31 a0 2) - (I31 a0 4)), P))) ∧ ((¬ w8 = 0) → zk g a0 8 ∧ ∃ (I35 : Nat → Nat → Int32), Cl mX8_stepOverRow [.ref a0] (g, zU I a0 4 (I a0 2), P) none (g, I35, P) ∧ zk g a0 8 ∧ zk g a0 8 ∧ zk g a0 8 ∧ r = none ∧ h' = (g, zU I35 a0 5 ((I35 a0 2) - (I35 a0 4)), P))) ∧ ((¬ (zU I a0 4 (I a0 2)) a0 2 < (zU I a0 4 (I a0 2)) a0 1) → zk g a0 8 ∧ zk g a0 8 ∧ zk g a0 8 ∧ zk g a0 8 ∧ r = none ∧ h' = (g, zU (zU (zU I a0 4 (I a0 2)) a0 3 0) a0 5 (((zU (zU I a0 4 (I a0 2)) a0 3 0) a0 2) - ((zU (zU I a0 4 (I a0 2)) a0 3 0) a0 4)), P))) : Zt none mX8_step 0 0 41 [(0, .ref a0)] [] (g, I, P) r h' := by
  refine z_aload_n 0 dX8_step_41 rfl rfl (z_aload_n 0 dX8_step_42 rfl rfl (z_getI dX8_step_43 wf_X8_17 (by decide) (by decide) rfl H.1 (z_putI (g := g) (I := I) (Q := P) dX8_step_46 wf_X8_30 (by decide) (by decide) rfl (Or.inl rfl) (zfit_int rfl) H.2.1 (z_aload_n 0 dX8_step_49 rfl rfl (z_getI dX8_step_50 wf_X8_17 (by decide) (by decide) rfl H.2.2.1 (z_aload_n 0 dX8_step_53 rfl rfl (z_getI dX8_step_54 wf_X8_13 (by decide) (by decide) rfl H.2.2.2.1 ?_)))))))
  refine z_icmp_lt (t := 68) dX8_step_57 (by decide) (fun q => ?_) (fun q => ?_)
  · have H1 := H.2.2.2.2.1 q
    refine z_aload_n 0 dX8_step_68 rfl rfl ?_
    obtain ⟨oe4, b2, e4, H3⟩ := H1
    refine z_getP dX8_step_69 wf_X8_7 (by decide) (by decide) rfl oe4 (fun q => (by cases q.symm.trans e4)) (fun j q => ?_)
    cases q.symm.trans e4
    refine z_aload_n 0 dX8_step_72 rfl rfl (z_getI dX8_step_73 wf_X8_17 (by decide) (by decide) rfl H3.1 ?_)
    obtain ⟨w5, c6, H7⟩ := H3.2
    refine z_stat (As := [.ref b2, .int ((zU I a0 4 (I a0 2)) a0 2)]) (st := []) (r1 := (some (.int w5))) (h1 := (g, zU I a0 4 (I a0 2), P)) dX8_step_76 kX11_got wm_X8_20 ⟨by decide, by decide⟩ rfl rfl (Nat.le_of_ble_eq_true rfl) (by decide) (by decide) c6 ?_
    obtain ⟨w8, c9, H10⟩ := H7
    refine z_stat (As := [.int w5]) (st := []) (r1 := (some (.int w8))) (h1 := (g, zU I a0 4 (I a0 2), P)) dX8_step_79 kX8_isLetter wm_X8_36 ⟨by decide, by decide⟩ rfl rfl (Nat.le_of_ble_eq_true rfl) (by decide) (by decide) c9 ?_
    refine z_if_eq (t := 92) dX8_step_82 (by decide) (fun q => ?_) (fun q => ?_)
    · have H11 := H10.1 q
      refine z_aload_n 0 dX8_step_92 rfl rfl ?_
      obtain ⟨oe14, b12, e14, H13⟩ := H11
      refine z_getP dX8_step_93 wf_X8_7 (by decide) (by decide) rfl oe14 (fun q => (by cases q.symm.trans e14)) (fun j q => ?_)
      cases q.symm.trans e14
      refine z_aload_n 0 dX8_step_96 rfl rfl (z_getI dX8_step_97 wf_X8_17 (by decide) (by decide) rfl H13.1 ?_)
      obtain ⟨w15, c16, H17⟩ := H13.2
      refine z_stat (As := [.ref b12, .int ((zU I a0 4 (I a0 2)) a0 2)]) (st := []) (r1 := (some (.int w15))) (h1 := (g, zU I a0 4 (I a0 2), P)) dX8_step_100 kX11_got wm_X8_20 ⟨by decide, by decide⟩ rfl rfl (Nat.le_of_ble_eq_true rfl) (by decide) (by decide) c16 ?_
      obtain ⟨w18, c19, H20⟩ := H17
      refine z_stat (As := [.int w15]) (st := []) (r1 := (some (.int w18))) (h1 := (g, zU I a0 4 (I a0 2), P)) dX8_step_103 kX8_isDigit wm_X8_42 ⟨by decide, by decide⟩ rfl rfl (Nat.le_of_ble_eq_true rfl) (by decide) (by decide) c19 ?_
      refine z_if_eq (t := 116) dX8_step_106 (by decide) (fun q => ?_) (fun q => ?_)
      · have H21 := H20.1 q
        refine z_aload_n 0 dX8_step_116 rfl rfl (z_aload_n 0 dX8_step_117 rfl rfl ?_)
        obtain ⟨oe24, b22, e24, H23⟩ := H21
        refine z_getP dX8_step_118 wf_X8_7 (by decide) (by decide) rfl oe24 (fun q => (by cases q.symm.trans e24)) (fun j q => ?_)
        cases q.symm.trans e24
        refine z_aload_n 0 dX8_step_121 rfl rfl (z_getI dX8_step_122 wf_X8_17 (by decide) (by decide) rfl H23.1 ?_)
        obtain ⟨w25, c26, H27⟩ := H23.2
        refine z_stat (As := [.ref b22, .int ((zU I a0 4 (I a0 2)) a0 2)]) (st := [.ref a0]) (r1 := (some (.int w25))) (h1 := (g, zU I a0 4 (I a0 2), P)) dX8_step_125 kX11_got wm_X8_20 ⟨by decide, by decide⟩ rfl rfl (Nat.le_of_ble_eq_true rfl) (by decide) (by decide) c26 ?_
        refine z_bipush (w := 59) dX8_step_128 (by decide) ?_
        refine z_icmp_ne (t := 137) dX8_step_130 (by decide) (fun q => ?_) (fun q => ?_)
        · have H28 := H27.1 q
          refine z_iconst (w := 4) dX8_step_137 (by decide) ?_
          exact z_less [0] rfl H28
        · have H29 := H27.2 q
          refine z_iconst (w := 3) dX8_step_133 (by decide) (z_goto (t := 138) dX8_step_134 (by decide) ?_)
          exact z_less [0] rfl H29
      · have H30 := H20.2 q
        refine z_aload_n 0 dX8_step_109 rfl rfl ?_
        obtain ⟨oc32, I31, c32, H33⟩ := H30
        refine z_virt (As := []) (st := []) (r1 := none) (h1 := (g, I31, P)) dX8_step_110 kX8_stepOverDigits wm_X8_45 ⟨by decide, by decide⟩ rfl rfl (Nat.le_of_ble_eq_true rfl) (by decide) (by decide) oc32 c32 ?_
        refine z_goto (t := 151) dX8_step_113 (by decide) (z_aload_n 0 dX8_step_151 rfl rfl (z_aload_n 0 dX8_step_152 rfl rfl (z_getI dX8_step_153 wf_X8_17 (by decide) (by decide) rfl H33.1 (z_aload_n 0 dX8_step_156 rfl rfl (z_getI dX8_step_157 wf_X8_30 (by decide) (by decide) rfl H33.2.1 (z_isub dX8_step_160 (z_putI (g := g) (I := I31) (Q := P) dX8_step_161 wf_X8_48 (by decide) (by decide) rfl (Or.inl rfl) (zfit_int rfl) H33.2.2.1 ?_)))))))
        obtain ⟨rfl, rfl⟩ := H33.2.2.2
        exact z_vret dX8_step_164 rfl (by decide) (by decide)
    · have H34 := H10.2 q
      refine z_aload_n 0 dX8_step_85 rfl rfl ?_
      obtain ⟨oc36, I35, c36, H37⟩ := H34
      refine z_virt (As := []) (st := []) (r1 := none) (h1 := (g, I35, P)) dX8_step_86 kX8_stepOverRow wm_X8_39 ⟨by decide, by decide⟩ rfl rfl (Nat.le_of_ble_eq_true rfl) (by decide) (by decide) oc36 c36 ?_
      refine z_goto (t := 151) dX8_step_89 (by decide) (z_aload_n 0 dX8_step_151 rfl rfl (z_aload_n 0 dX8_step_152 rfl rfl (z_getI dX8_step_153 wf_X8_17 (by decide) (by decide) rfl H37.1 (z_aload_n 0 dX8_step_156 rfl rfl (z_getI dX8_step_157 wf_X8_30 (by decide) (by decide) rfl H37.2.1 (z_isub dX8_step_160 (z_putI (g := g) (I := I35) (Q := P) dX8_step_161 wf_X8_48 (by decide) (by decide) rfl (Or.inl rfl) (zfit_int rfl) H37.2.2.1 ?_)))))))
      obtain ⟨rfl, rfl⟩ := H37.2.2.2
      exact z_vret dX8_step_164 rfl (by decide) (by decide)
  · have H38 := H.2.2.2.2.2 q
    refine z_aload_n 0 dX8_step_60 rfl rfl (z_iconst (w := 0) dX8_step_61 (by decide) (z_putI (g := g) (I := zU I a0 4 (I a0 2)) (Q := P) dX8_step_62 wf_X8_33 (by decide) (by decide) rfl (Or.inl rfl) (zfit_int rfl) H38.1 (z_goto (t := 151) dX8_step_65 (by decide) (z_aload_n 0 dX8_step_151 rfl rfl (z_aload_n 0 dX8_step_152 rfl rfl (z_getI dX8_step_153 wf_X8_17 (by decide) (by decide) rfl H38.2.1 (z_aload_n 0 dX8_step_156 rfl rfl (z_getI dX8_step_157 wf_X8_30 (by decide) (by decide) rfl H38.2.2.1 (z_isub dX8_step_160 (z_putI (g := g) (I := zU (zU I a0 4 (I a0 2)) a0 3 0) (Q := P) dX8_step_161 wf_X8_48 (by decide) (by decide) rfl (Or.inl rfl) (zfit_int rfl) H38.2.2.2.1 ?_))))))))))
    obtain ⟨rfl, rfl⟩ := H38.2.2.2.2
    exact z_vret dX8_step_164 rfl (by decide) (by decide)
set_option maxRecDepth 10000 in
theorem wX8_step_138 {g : zG} {I : Nat → Nat → Int32} {P : Nat → Nat → Option Nat} {r : Option Value} {h' : zH} {a0 : Nat} {as0 : Nat} {xs1 : Int32} (H : zk g as0 8 ∧ zk g a0 8 ∧ zk g a0 8 ∧ zk g a0 8 ∧ zk g a0 8 ∧ zk g a0 8 ∧ r = none ∧ h' = (g, zU (zU (zU I as0 3 xs1) a0 2 (((zU I as0 3 xs1) a0 2) + 1)) a0 5 (((zU (zU I as0 3 xs1) a0 2 (((zU I as0 3 xs1) a0 2) + 1)) a0 2) - ((zU (zU I as0 3 xs1) a0 2 (((zU I as0 3 xs1) a0 2) + 1)) a0 4)), P)) : Zt none mX8_step 0 0 138 [(0, .ref a0)] [.int xs1, .ref as0] (g, I, P) r h' := by
  refine z_putI (g := g) (I := I) (Q := P) dX8_step_138 wf_X8_33 (by decide) (by decide) rfl (Or.inl rfl) (zfit_int rfl) H.1 (z_aload_n 0 dX8_step_141 rfl rfl (z_dup dX8_step_142 rfl (z_getI dX8_step_143 wf_X8_17 (by decide) (by decide) rfl H.2.1 (z_iconst (w := 1) dX8_step_146 (by decide) (z_iadd dX8_step_147 (z_putI (g := g) (I := zU I as0 3 xs1) (Q := P) dX8_step_148 wf_X8_17 (by decide) (by decide) rfl (Or.inl rfl) (zfit_int rfl) H.2.2.1 (z_aload_n 0 dX8_step_151 rfl rfl (z_aload_n 0 dX8_step_152 rfl rfl (z_getI dX8_step_153 wf_X8_17 (by decide) (by decide) rfl H.2.2.2.1 (z_aload_n 0 dX8_step_156 rfl rfl (z_getI dX8_step_157 wf_X8_30 (by decide) (by decide) rfl H.2.2.2.2.1 (z_isub dX8_step_160 (z_putI (g := g) (I := zU (zU I as0 3 xs1) a0 2 (((zU I as0 3 xs1) a0 2) + 1)) (Q := P) dX8_step_161 wf_X8_48 (by decide) (by decide) rfl (Or.inl rfl) (zfit_int rfl) H.2.2.2.2.2.1 ?_)))))))))))))
  obtain ⟨rfl, rfl⟩ := H.2.2.2.2.2.2
  exact z_vret dX8_step_164 rfl (by decide) (by decide)
theorem dX8_stepOverRow_0 : decode cX8_stepOverRow 0 = .ok (.aload_n 0, 1) := by decide +kernel
theorem dX8_stepOverRow_1 : decode cX8_stepOverRow 1 = .ok (.iconst 1, 1) := by decide +kernel
theorem dX8_stepOverRow_2 : decode cX8_stepOverRow 2 = .ok (.putfield 33, 3) := by decide +kernel
theorem dX8_stepOverRow_5 : decode cX8_stepOverRow 5 = .ok (.aload_n 0, 1) := by decide +kernel
theorem dX8_stepOverRow_6 : decode cX8_stepOverRow 6 = .ok (.getfield 17, 3) := by decide +kernel
theorem dX8_stepOverRow_9 : decode cX8_stepOverRow 9 = .ok (.aload_n 0, 1) := by decide +kernel
theorem dX8_stepOverRow_10 : decode cX8_stepOverRow 10 = .ok (.getfield 13, 3) := by decide +kernel
theorem dX8_stepOverRow_13 : decode cX8_stepOverRow 13 = .ok (.if_icmp .ge 33, 3) := by decide +kernel
theorem dX8_stepOverRow_16 : decode cX8_stepOverRow 16 = .ok (.aload_n 0, 1) := by decide +kernel
theorem dX8_stepOverRow_17 : decode cX8_stepOverRow 17 = .ok (.getfield 7, 3) := by decide +kernel
theorem dX8_stepOverRow_20 : decode cX8_stepOverRow 20 = .ok (.aload_n 0, 1) := by decide +kernel
theorem dX8_stepOverRow_21 : decode cX8_stepOverRow 21 = .ok (.getfield 17, 3) := by decide +kernel
theorem dX8_stepOverRow_24 : decode cX8_stepOverRow 24 = .ok (.invokestatic 20, 3) := by decide +kernel
theorem dX8_stepOverRow_27 : decode cX8_stepOverRow 27 = .ok (.invokestatic 36, 3) := by decide +kernel
theorem dX8_stepOverRow_30 : decode cX8_stepOverRow 30 = .ok (.ifCond .eq 16, 3) := by decide +kernel
theorem dX8_stepOverRow_33 : decode cX8_stepOverRow 33 = .ok (.aload_n 0, 1) := by decide +kernel
theorem dX8_stepOverRow_34 : decode cX8_stepOverRow 34 = .ok (.dup, 1) := by decide +kernel
theorem dX8_stepOverRow_35 : decode cX8_stepOverRow 35 = .ok (.getfield 17, 3) := by decide +kernel
theorem dX8_stepOverRow_38 : decode cX8_stepOverRow 38 = .ok (.iconst 1, 1) := by decide +kernel
theorem dX8_stepOverRow_39 : decode cX8_stepOverRow 39 = .ok (.iadd, 1) := by decide +kernel
theorem dX8_stepOverRow_40 : decode cX8_stepOverRow 40 = .ok (.putfield 17, 3) := by decide +kernel
theorem dX8_stepOverRow_43 : decode cX8_stepOverRow 43 = .ok (.goto (-38), 3) := by decide +kernel
theorem dX8_stepOverRow_46 : decode cX8_stepOverRow 46 = .ok (.return_, 1) := by decide +kernel
set_option maxRecDepth 10000 in
theorem wX8_stepOverRow_0 {g : zG} {I : Nat → Nat → Int32} {P : Nat → Nat → Option Nat} {r : Option Value} {h' : zH} {a0 : Nat} (H : zk g a0 8 ∧ Zt none mX8_stepOverRow 0 0 5 [(0, .ref a0)] [] (g, zU I a0 3 1, P) r h') : Zt none mX8_stepOverRow 0 0 0 [(0, .ref a0)] [] (g, I, P) r h' := by
  refine z_aload_n 0 dX8_stepOverRow_0 rfl rfl (z_iconst (w := 1) dX8_stepOverRow_1 (by decide) (z_putI (g := g) (I := I) (Q := P) dX8_stepOverRow_2 wf_X8_33 (by decide) (by decide) rfl (Or.inl rfl) (zfit_int rfl) H.1 ?_))
  exact z_less [0] rfl H.2
theorem eX8_stepOverRow {g : zG} {I : Nat → Nat → Int32} {P : Nat → Nat → Option Nat} {r : Option Value} {h' : zH} {a0 : Nat} (H : Zt none mX8_stepOverRow 0 0 0 [(0, .ref a0)] [] (g, I, P) r h') : Cl mX8_stepOverRow [.ref a0] (g, I, P) r h' := Cl.of (by decide) (Nat.le_of_ble_eq_true rfl) H
set_option maxRecDepth 10000 in
theorem wX8_stepOverRow_5 {g : zG} {I : Nat → Nat → Int32} {P : Nat → Nat → Option Nat} {r : Option Value} {h' : zH} {a0 : Nat} (H : zk g a0 8 ∧ zk g a0 8 ∧ ((I a0 1 ≤ I a0 2) → r = none ∧ h' = (g, I, P)) ∧ ((¬ I a0 1 ≤ I a0 2) → zk g a0 8 ∧ ∃ b3, P a0 0 = some b3 ∧ zk g a0 8 ∧ ∃ (w6 : Int32), Cl mX11_got [.ref b3, .int (I a0 2)] (g, I, P) (some (.int w6)) (g, I, P) ∧ ∃ (w9 : Int32), Cl mX8_isLetter [.int w6] (g, I, P) (some (.int w9)) (g, I, P) ∧ ((w9 = 0) → r = none ∧ h' = (g, I, P)) ∧ ((¬ w9 = 0) → zk g a0 8 ∧ zk g a0 8 ∧ Zt none mX8_stepOverRow 0 0 5 [(0, .ref a0)] [] (g, zU I a0 2 ((I a0 2) + 1), P) r h'))) : Zt none mX8_stepOverRow 0 0 5 [(0, .ref a0)] [] (g, I, P) r h' := by
  refine z_aload_n 0 dX8_stepOverRow_5 rfl rfl (z_getI dX8_stepOverRow_6 wf_X8_17 (by decide) (by decide) rfl H.1 (z_aload_n 0 dX8_stepOverRow_9 rfl rfl (z_getI dX8_stepOverRow_10 wf_X8_13 (by decide) (by decide) rfl H.2.1 ?_)))
  refine z_icmp_ge (t := 46) dX8_stepOverRow_13 (by decide) (fun q => ?_) (fun q => ?_)
  · have H1 := H.2.2.1 q
    obtain ⟨rfl, rfl⟩ := H1
    exact z_vret dX8_stepOverRow_46 rfl (by decide) (by decide)
  · have H2 := H.2.2.2 q
    refine z_aload_n 0 dX8_stepOverRow_16 rfl rfl ?_
    obtain ⟨oe5, b3, e5, H4⟩ := H2
    refine z_getP dX8_stepOverRow_17 wf_X8_7 (by decide) (by decide) rfl oe5 (fun q => (by cases q.symm.trans e5)) (fun j q => ?_)
    cases q.symm.trans e5
    refine z_aload_n 0 dX8_stepOverRow_20 rfl rfl (z_getI dX8_stepOverRow_21 wf_X8_17 (by decide) (by decide) rfl H4.1 ?_)
    obtain ⟨w6, c7, H8⟩ := H4.2
    refine z_stat (As := [.ref b3, .int (I a0 2)]) (st := []) (r1 := (some (.int w6))) (h1 := (g, I, P)) dX8_stepOverRow_24 kX11_got wm_X8_20 ⟨by decide, by decide⟩ rfl rfl (Nat.le_of_ble_eq_true rfl) (by decide) (by decide) c7 ?_
    obtain ⟨w9, c10, H11⟩ := H8
    refine z_stat (As := [.int w6]) (st := []) (r1 := (some (.int w9))) (h1 := (g, I, P)) dX8_stepOverRow_27 kX8_isLetter wm_X8_36 ⟨by decide, by decide⟩ rfl rfl (Nat.le_of_ble_eq_true rfl) (by decide) (by decide) c10 ?_
    refine z_if_eq (t := 46) dX8_stepOverRow_30 (by decide) (fun q => ?_) (fun q => ?_)
    · have H12 := H11.1 q
      obtain ⟨rfl, rfl⟩ := H12
      exact z_vret dX8_stepOverRow_46 rfl (by decide) (by decide)
    · have H13 := H11.2 q
      refine z_aload_n 0 dX8_stepOverRow_33 rfl rfl (z_dup dX8_stepOverRow_34 rfl (z_getI dX8_stepOverRow_35 wf_X8_17 (by decide) (by decide) rfl H13.1 (z_iconst (w := 1) dX8_stepOverRow_38 (by decide) (z_iadd dX8_stepOverRow_39 (z_putI (g := g) (I := I) (Q := P) dX8_stepOverRow_40 wf_X8_17 (by decide) (by decide) rfl (Or.inl rfl) (zfit_int rfl) H13.2.1 (z_goto (t := 5) dX8_stepOverRow_43 (by decide) ?_))))))
      exact z_less [0] rfl H13.2.2
theorem dX8_stepOverDigits_0 : decode cX8_stepOverDigits 0 = .ok (.aload_n 0, 1) := by decide +kernel
theorem dX8_stepOverDigits_1 : decode cX8_stepOverDigits 1 = .ok (.iconst 0, 1) := by decide +kernel
theorem dX8_stepOverDigits_2 : decode cX8_stepOverDigits 2 = .ok (.putfield 51, 3) := by decide +kernel
theorem dX8_stepOverDigits_5 : decode cX8_stepOverDigits 5 = .ok (.aload_n 0, 1) := by decide +kernel
theorem dX8_stepOverDigits_6 : decode cX8_stepOverDigits 6 = .ok (.getfield 17, 3) := by decide +kernel
theorem dX8_stepOverDigits_9 : decode cX8_stepOverDigits 9 = .ok (.aload_n 0, 1) := by decide +kernel
theorem dX8_stepOverDigits_10 : decode cX8_stepOverDigits 10 = .ok (.getfield 13, 3) := by decide +kernel
theorem dX8_stepOverDigits_13 : decode cX8_stepOverDigits 13 = .ok (.if_icmp .ge 59, 3) := by decide +kernel
theorem dX8_stepOverDigits_16 : decode cX8_stepOverDigits 16 = .ok (.aload_n 0, 1) := by decide +kernel
theorem dX8_stepOverDigits_17 : decode cX8_stepOverDigits 17 = .ok (.getfield 7, 3) := by decide +kernel
theorem dX8_stepOverDigits_20 : decode cX8_stepOverDigits 20 = .ok (.aload_n 0, 1) := by decide +kernel
theorem dX8_stepOverDigits_21 : decode cX8_stepOverDigits 21 = .ok (.getfield 17, 3) := by decide +kernel
theorem dX8_stepOverDigits_24 : decode cX8_stepOverDigits 24 = .ok (.invokestatic 20, 3) := by decide +kernel
theorem dX8_stepOverDigits_27 : decode cX8_stepOverDigits 27 = .ok (.invokestatic 42, 3) := by decide +kernel
theorem dX8_stepOverDigits_30 : decode cX8_stepOverDigits 30 = .ok (.ifCond .eq 42, 3) := by decide +kernel
theorem dX8_stepOverDigits_33 : decode cX8_stepOverDigits 33 = .ok (.aload_n 0, 1) := by decide +kernel
theorem dX8_stepOverDigits_34 : decode cX8_stepOverDigits 34 = .ok (.aload_n 0, 1) := by decide +kernel
theorem dX8_stepOverDigits_35 : decode cX8_stepOverDigits 35 = .ok (.getfield 51, 3) := by decide +kernel
theorem dX8_stepOverDigits_38 : decode cX8_stepOverDigits 38 = .ok (.bipush 10, 2) := by decide +kernel
theorem dX8_stepOverDigits_40 : decode cX8_stepOverDigits 40 = .ok (.imul, 1) := by decide +kernel
theorem dX8_stepOverDigits_41 : decode cX8_stepOverDigits 41 = .ok (.aload_n 0, 1) := by decide +kernel
theorem dX8_stepOverDigits_42 : decode cX8_stepOverDigits 42 = .ok (.getfield 7, 3) := by decide +kernel
theorem dX8_stepOverDigits_45 : decode cX8_stepOverDigits 45 = .ok (.aload_n 0, 1) := by decide +kernel
theorem dX8_stepOverDigits_46 : decode cX8_stepOverDigits 46 = .ok (.getfield 17, 3) := by decide +kernel
theorem dX8_stepOverDigits_49 : decode cX8_stepOverDigits 49 = .ok (.invokestatic 20, 3) := by decide +kernel
theorem dX8_stepOverDigits_52 : decode cX8_stepOverDigits 52 = .ok (.iadd, 1) := by decide +kernel
theorem dX8_stepOverDigits_53 : decode cX8_stepOverDigits 53 = .ok (.bipush 48, 2) := by decide +kernel
theorem dX8_stepOverDigits_55 : decode cX8_stepOverDigits 55 = .ok (.isub, 1) := by decide +kernel
theorem dX8_stepOverDigits_56 : decode cX8_stepOverDigits 56 = .ok (.putfield 51, 3) := by decide +kernel
theorem dX8_stepOverDigits_59 : decode cX8_stepOverDigits 59 = .ok (.aload_n 0, 1) := by decide +kernel
theorem dX8_stepOverDigits_60 : decode cX8_stepOverDigits 60 = .ok (.dup, 1) := by decide +kernel
theorem dX8_stepOverDigits_61 : decode cX8_stepOverDigits 61 = .ok (.getfield 17, 3) := by decide +kernel
theorem dX8_stepOverDigits_64 : decode cX8_stepOverDigits 64 = .ok (.iconst 1, 1) := by decide +kernel
theorem dX8_stepOverDigits_65 : decode cX8_stepOverDigits 65 = .ok (.iadd, 1) := by decide +kernel
theorem dX8_stepOverDigits_66 : decode cX8_stepOverDigits 66 = .ok (.putfield 17, 3) := by decide +kernel
theorem dX8_stepOverDigits_69 : decode cX8_stepOverDigits 69 = .ok (.goto (-64), 3) := by decide +kernel
theorem dX8_stepOverDigits_72 : decode cX8_stepOverDigits 72 = .ok (.aload_n 0, 1) := by decide +kernel
theorem dX8_stepOverDigits_73 : decode cX8_stepOverDigits 73 = .ok (.aload_n 0, 1) := by decide +kernel
theorem dX8_stepOverDigits_74 : decode cX8_stepOverDigits 74 = .ok (.getfield 17, 3) := by decide +kernel
theorem dX8_stepOverDigits_77 : decode cX8_stepOverDigits 77 = .ok (.aload_n 0, 1) := by decide +kernel
theorem dX8_stepOverDigits_78 : decode cX8_stepOverDigits 78 = .ok (.getfield 30, 3) := by decide +kernel
theorem dX8_stepOverDigits_81 : decode cX8_stepOverDigits 81 = .ok (.isub, 1) := by decide +kernel
theorem dX8_stepOverDigits_82 : decode cX8_stepOverDigits 82 = .ok (.iconst 2, 1) := by decide +kernel
theorem dX8_stepOverDigits_83 : decode cX8_stepOverDigits 83 = .ok (.if_icmp .gt 7, 3) := by decide +kernel
theorem dX8_stepOverDigits_86 : decode cX8_stepOverDigits 86 = .ok (.iconst 2, 1) := by decide +kernel
theorem dX8_stepOverDigits_87 : decode cX8_stepOverDigits 87 = .ok (.goto 4, 3) := by decide +kernel
theorem dX8_stepOverDigits_90 : decode cX8_stepOverDigits 90 = .ok (.iconst 4, 1) := by decide +kernel
theorem dX8_stepOverDigits_91 : decode cX8_stepOverDigits 91 = .ok (.putfield 33, 3) := by decide +kernel
theorem dX8_stepOverDigits_94 : decode cX8_stepOverDigits 94 = .ok (.return_, 1) := by decide +kernel
set_option maxRecDepth 10000 in
theorem wX8_stepOverDigits_0 {g : zG} {I : Nat → Nat → Int32} {P : Nat → Nat → Option Nat} {r : Option Value} {h' : zH} {a0 : Nat} (H : zk g a0 8 ∧ Zt none mX8_stepOverDigits 0 0 5 [(0, .ref a0)] [] (g, zU I a0 6 0, P) r h') : Zt none mX8_stepOverDigits 0 0 0 [(0, .ref a0)] [] (g, I, P) r h' := by
  refine z_aload_n 0 dX8_stepOverDigits_0 rfl rfl (z_iconst (w := 0) dX8_stepOverDigits_1 (by decide) (z_putI (g := g) (I := I) (Q := P) dX8_stepOverDigits_2 wf_X8_51 (by decide) (by decide) rfl (Or.inl rfl) (zfit_int rfl) H.1 ?_))
  exact z_less [0] rfl H.2
theorem eX8_stepOverDigits {g : zG} {I : Nat → Nat → Int32} {P : Nat → Nat → Option Nat} {r : Option Value} {h' : zH} {a0 : Nat} (H : Zt none mX8_stepOverDigits 0 0 0 [(0, .ref a0)] [] (g, I, P) r h') : Cl mX8_stepOverDigits [.ref a0] (g, I, P) r h' := Cl.of (by decide) (Nat.le_of_ble_eq_true rfl) H
set_option maxRecDepth 10000 in
theorem wX8_stepOverDigits_5 {g : zG} {I : Nat → Nat → Int32} {P : Nat → Nat → Option Nat} {r : Option Value} {h' : zH} {a0 : Nat} (H : zk g a0 8 ∧ zk g a0 8 ∧ ((I a0 1 ≤ I a0 2) → Zt none mX8_stepOverDigits 0 0 72 [(0, .ref a0)] [] (g, I, P) r h') ∧ ((¬ I a0 1 ≤ I a0 2) → zk g a0 8 ∧ ∃ b3, P a0 0 = some b3 ∧ zk g a0 8 ∧ ∃ (w6 : Int32), Cl mX11_got [.ref b3, .int (I a0 2)] (g, I, P) (some (.int w6)) (g, I, P) ∧ ∃ (w9 : Int32), Cl mX8_isDigit [.int w6] (g, I, P) (some (.int w9)) (g, I, P) ∧ ((w9 = 0) → Zt none mX8_stepOverDigits 0 0 72 [(0, .ref a0)] [] (g, I, P) r h') ∧ ((¬ w9 = 0) → zk g a0 8 ∧ zk g a0 8 ∧ ∃ b14, P a0 0 = some b14 ∧ zk g a0 8 ∧ ∃ (w17 : Int32), Cl mX11_got [.ref b14, .int (I a0 2)] (g, I, P) (some (.int w17)) (g, I, P) ∧ zk g a0 8 ∧ zk g a0 8 ∧ zk g a0 8 ∧ Zt none mX8_stepOverDigits 0 0 5 [(0, .ref a0)] [] (g, zU (zU I a0 6 ((((I a0 6) * 10) + w17) - 48)) a0 2 (((zU I a0 6 ((((I a0 6) * 10) + w17) - 48)) a0 2) + 1), P) r h'))) : Zt none mX8_stepOverDigits 0 0 5 [(0, .ref a0)] [] (g, I, P) r h' := by
  refine z_aload_n 0 dX8_stepOverDigits_5 rfl rfl (z_getI dX8_stepOverDigits_6 wf_X8_17 (by decide) (by decide) rfl H.1 (z_aload_n 0 dX8_stepOverDigits_9 rfl rfl (z_getI dX8_stepOverDigits_10 wf_X8_13 (by decide) (by decide) rfl H.2.1 ?_)))
  refine z_icmp_ge (t := 72) dX8_stepOverDigits_13 (by decide) (fun q => ?_) (fun q => ?_)
  · have H1 := H.2.2.1 q
    exact z_less [0] rfl H1
  · have H2 := H.2.2.2 q
    refine z_aload_n 0 dX8_stepOverDigits_16 rfl rfl ?_
    obtain ⟨oe5, b3, e5, H4⟩ := H2
    refine z_getP dX8_stepOverDigits_17 wf_X8_7 (by decide) (by decide) rfl oe5 (fun q => (by cases q.symm.trans e5)) (fun j q => ?_)
    cases q.symm.trans e5
    refine z_aload_n 0 dX8_stepOverDigits_20 rfl rfl (z_getI dX8_stepOverDigits_21 wf_X8_17 (by decide) (by decide) rfl H4.1 ?_)
    obtain ⟨w6, c7, H8⟩ := H4.2
    refine z_stat (As := [.ref b3, .int (I a0 2)]) (st := []) (r1 := (some (.int w6))) (h1 := (g, I, P)) dX8_stepOverDigits_24 kX11_got wm_X8_20 ⟨by decide, by decide⟩ rfl rfl (Nat.le_of_ble_eq_true rfl) (by decide) (by decide) c7 ?_
    obtain ⟨w9, c10, H11⟩ := H8
    refine z_stat (As := [.int w6]) (st := []) (r1 := (some (.int w9))) (h1 := (g, I, P)) dX8_stepOverDigits_27 kX8_isDigit wm_X8_42 ⟨by decide, by decide⟩ rfl rfl (Nat.le_of_ble_eq_true rfl) (by decide) (by decide) c10 ?_
    refine z_if_eq (t := 72) dX8_stepOverDigits_30 (by decide) (fun q => ?_) (fun q => ?_)
    · have H12 := H11.1 q
      exact z_less [0] rfl H12
    · have H13 := H11.2 q
      refine z_aload_n 0 dX8_stepOverDigits_33 rfl rfl (z_aload_n 0 dX8_stepOverDigits_34 rfl rfl (z_getI dX8_stepOverDigits_35 wf_X8_51 (by decide) (by decide) rfl H13.1 (z_bipush (w := 10) dX8_stepOverDigits_38 (by decide) (z_imul dX8_stepOverDigits_40 (z_aload_n 0 dX8_stepOverDigits_41 rfl rfl ?_)))))
      obtain ⟨oe16, b14, e16, H15⟩ := H13.2
      refine z_getP dX8_stepOverDigits_42 wf_X8_7 (by decide) (by decide) rfl oe16 (fun q => (by cases q.symm.trans e16)) (fun j q => ?_)
      cases q.symm.trans e16
      refine z_aload_n 0 dX8_stepOverDigits_45 rfl rfl (z_getI dX8_stepOverDigits_46 wf_X8_17 (by decide) (by decide) rfl H15.1 ?_)
      obtain ⟨w17, c18, H19⟩ := H15.2
      refine z_stat (As := [.ref b14, .int (I a0 2)]) (st := [.int ((I a0 6) * 10), .ref a0]) (r1 := (some (.int w17))) (h1 := (g, I, P)) dX8_stepOverDigits_49 kX11_got wm_X8_20 ⟨by decide, by decide⟩ rfl rfl (Nat.le_of_ble_eq_true rfl) (by decide) (by decide) c18 ?_
      refine z_iadd dX8_stepOverDigits_52 (z_bipush (w := 48) dX8_stepOverDigits_53 (by decide) (z_isub dX8_stepOverDigits_55 (z_putI (g := g) (I := I) (Q := P) dX8_stepOverDigits_56 wf_X8_51 (by decide) (by decide) rfl (Or.inl rfl) (zfit_int rfl) H19.1 (z_aload_n 0 dX8_stepOverDigits_59 rfl rfl (z_dup dX8_stepOverDigits_60 rfl (z_getI dX8_stepOverDigits_61 wf_X8_17 (by decide) (by decide) rfl H19.2.1 (z_iconst (w := 1) dX8_stepOverDigits_64 (by decide) (z_iadd dX8_stepOverDigits_65 (z_putI (g := g) (I := zU I a0 6 ((((I a0 6) * 10) + w17) - 48)) (Q := P) dX8_stepOverDigits_66 wf_X8_17 (by decide) (by decide) rfl (Or.inl rfl) (zfit_int rfl) H19.2.2.1 (z_goto (t := 5) dX8_stepOverDigits_69 (by decide) ?_))))))))))
      exact z_less [0] rfl H19.2.2.2
set_option maxRecDepth 10000 in
theorem wX8_stepOverDigits_72 {g : zG} {I : Nat → Nat → Int32} {P : Nat → Nat → Option Nat} {r : Option Value} {h' : zH} {a0 : Nat} (H : zk g a0 8 ∧ zk g a0 8 ∧ ((2 < (I a0 2) - (I a0 4)) → zk g a0 8 ∧ r = none ∧ h' = (g, zU I a0 3 4, P)) ∧ ((¬ 2 < (I a0 2) - (I a0 4)) → zk g a0 8 ∧ r = none ∧ h' = (g, zU I a0 3 2, P))) : Zt none mX8_stepOverDigits 0 0 72 [(0, .ref a0)] [] (g, I, P) r h' := by
  refine z_aload_n 0 dX8_stepOverDigits_72 rfl rfl (z_aload_n 0 dX8_stepOverDigits_73 rfl rfl (z_getI dX8_stepOverDigits_74 wf_X8_17 (by decide) (by decide) rfl H.1 (z_aload_n 0 dX8_stepOverDigits_77 rfl rfl (z_getI dX8_stepOverDigits_78 wf_X8_30 (by decide) (by decide) rfl H.2.1 (z_isub dX8_stepOverDigits_81 (z_iconst (w := 2) dX8_stepOverDigits_82 (by decide) ?_))))))
  refine z_icmp_gt (t := 90) dX8_stepOverDigits_83 (by decide) (fun q => ?_) (fun q => ?_)
  · have H1 := H.2.2.1 q
    refine z_iconst (w := 4) dX8_stepOverDigits_90 (by decide) (z_putI (g := g) (I := I) (Q := P) dX8_stepOverDigits_91 wf_X8_33 (by decide) (by decide) rfl (Or.inl rfl) (zfit_int rfl) H1.1 ?_)
    obtain ⟨rfl, rfl⟩ := H1.2
    exact z_vret dX8_stepOverDigits_94 rfl (by decide) (by decide)
  · have H2 := H.2.2.2 q
    refine z_iconst (w := 2) dX8_stepOverDigits_86 (by decide) (z_goto (t := 91) dX8_stepOverDigits_87 (by decide) (z_putI (g := g) (I := I) (Q := P) dX8_stepOverDigits_91 wf_X8_33 (by decide) (by decide) rfl (Or.inl rfl) (zfit_int rfl) H2.1 ?_))
    obtain ⟨rfl, rfl⟩ := H2.2
    exact z_vret dX8_stepOverDigits_94 rfl (by decide) (by decide)
theorem dX8_isBlank_0 : decode cX8_isBlank 0 = .ok (.iload_n 0, 1) := by decide +kernel
theorem dX8_isBlank_1 : decode cX8_isBlank 1 = .ok (.bipush 10, 2) := by decide +kernel
theorem dX8_isBlank_3 : decode cX8_isBlank 3 = .ok (.if_icmp .eq 9, 3) := by decide +kernel
theorem dX8_isBlank_6 : decode cX8_isBlank 6 = .ok (.iload_n 0, 1) := by decide +kernel
theorem dX8_isBlank_7 : decode cX8_isBlank 7 = .ok (.bipush 32, 2) := by decide +kernel
theorem dX8_isBlank_9 : decode cX8_isBlank 9 = .ok (.if_icmp .ne 7, 3) := by decide +kernel
theorem dX8_isBlank_12 : decode cX8_isBlank 12 = .ok (.iconst 1, 1) := by decide +kernel
theorem dX8_isBlank_13 : decode cX8_isBlank 13 = .ok (.goto 4, 3) := by decide +kernel
theorem dX8_isBlank_16 : decode cX8_isBlank 16 = .ok (.iconst 0, 1) := by decide +kernel
theorem dX8_isBlank_17 : decode cX8_isBlank 17 = .ok (.ireturn, 1) := by decide +kernel
set_option maxRecDepth 10000 in
theorem wX8_isBlank_0 {g : zG} {I : Nat → Nat → Int32} {P : Nat → Nat → Option Nat} {r : Option Value} {h' : zH} {x0 : Int32} (H : ((x0 = 10) → r = some (.int 1) ∧ h' = (g, I, P)) ∧ ((¬ x0 = 10) → ((¬ x0 = 32) → r = some (.int 0) ∧ h' = (g, I, P)) ∧ ((x0 = 32) → r = some (.int 1) ∧ h' = (g, I, P)))) : Zt none mX8_isBlank 0 0 0 [(0, .int x0)] [] (g, I, P) r h' := by
  refine z_iload_n 0 dX8_isBlank_0 rfl (z_bipush (w := 10) dX8_isBlank_1 (by decide) ?_)
  refine z_icmp_eq (t := 12) dX8_isBlank_3 (by decide) (fun q => ?_) (fun q => ?_)
  · have H1 := H.1 q
    refine z_iconst (w := 1) dX8_isBlank_12 (by decide) (z_goto (t := 17) dX8_isBlank_13 (by decide) ?_)
    obtain ⟨rfl, rfl⟩ := H1
    exact z_zret dX8_isBlank_17 rfl (Or.inr rfl) (by decide) (by decide)
  · have H2 := H.2 q
    refine z_iload_n 0 dX8_isBlank_6 rfl (z_bipush (w := 32) dX8_isBlank_7 (by decide) ?_)
    refine z_icmp_ne (t := 16) dX8_isBlank_9 (by decide) (fun q => ?_) (fun q => ?_)
    · have H3 := H2.1 q
      refine z_iconst (w := 0) dX8_isBlank_16 (by decide) ?_
      obtain ⟨rfl, rfl⟩ := H3
      exact z_zret dX8_isBlank_17 rfl (Or.inl rfl) (by decide) (by decide)
    · have H4 := H2.2 q
      refine z_iconst (w := 1) dX8_isBlank_12 (by decide) (z_goto (t := 17) dX8_isBlank_13 (by decide) ?_)
      obtain ⟨rfl, rfl⟩ := H4
      exact z_zret dX8_isBlank_17 rfl (Or.inr rfl) (by decide) (by decide)
theorem eX8_isBlank {g : zG} {I : Nat → Nat → Int32} {P : Nat → Nat → Option Nat} {r : Option Value} {h' : zH} {x0 : Int32} (H : Zt none mX8_isBlank 0 0 0 [(0, .int x0)] [] (g, I, P) r h') : Cl mX8_isBlank [.int x0] (g, I, P) r h' := Cl.of (by decide) (Nat.le_of_ble_eq_true rfl) H
theorem dX8_isLetter_0 : decode cX8_isLetter 0 = .ok (.iload_n 0, 1) := by decide +kernel
theorem dX8_isLetter_1 : decode cX8_isLetter 1 = .ok (.bipush 97, 2) := by decide +kernel
theorem dX8_isLetter_3 : decode cX8_isLetter 3 = .ok (.if_icmp .lt 13, 3) := by decide +kernel
theorem dX8_isLetter_6 : decode cX8_isLetter 6 = .ok (.iload_n 0, 1) := by decide +kernel
theorem dX8_isLetter_7 : decode cX8_isLetter 7 = .ok (.bipush 122, 2) := by decide +kernel
theorem dX8_isLetter_9 : decode cX8_isLetter 9 = .ok (.if_icmp .gt 7, 3) := by decide +kernel
theorem dX8_isLetter_12 : decode cX8_isLetter 12 = .ok (.iconst 1, 1) := by decide +kernel
theorem dX8_isLetter_13 : decode cX8_isLetter 13 = .ok (.goto 4, 3) := by decide +kernel
theorem dX8_isLetter_16 : decode cX8_isLetter 16 = .ok (.iconst 0, 1) := by decide +kernel
theorem dX8_isLetter_17 : decode cX8_isLetter 17 = .ok (.ireturn, 1) := by decide +kernel
set_option maxRecDepth 10000 in
theorem wX8_isLetter_0 {g : zG} {I : Nat → Nat → Int32} {P : Nat → Nat → Option Nat} {r : Option Value} {h' : zH} {x0 : Int32} (H : ((x0 < 97) → r = some (.int 0) ∧ h' = (g, I, P)) ∧ ((¬ x0 < 97) → ((122 < x0) → r = some (.int 0) ∧ h' = (g, I, P)) ∧ ((¬ 122 < x0) → r = some (.int 1) ∧ h' = (g, I, P)))) : Zt none mX8_isLetter 0 0 0 [(0, .int x0)] [] (g, I, P) r h' := by
  refine z_iload_n 0 dX8_isLetter_0 rfl (z_bipush (w := 97) dX8_isLetter_1 (by decide) ?_)
  refine z_icmp_lt (t := 16) dX8_isLetter_3 (by decide) (fun q => ?_) (fun q => ?_)
  · have H1 := H.1 q
    refine z_iconst (w := 0) dX8_isLetter_16 (by decide) ?_
    obtain ⟨rfl, rfl⟩ := H1
    exact z_zret dX8_isLetter_17 rfl (Or.inl rfl) (by decide) (by decide)
  · have H2 := H.2 q
    refine z_iload_n 0 dX8_isLetter_6 rfl (z_bipush (w := 122) dX8_isLetter_7 (by decide) ?_)
    refine z_icmp_gt (t := 16) dX8_isLetter_9 (by decide) (fun q => ?_) (fun q => ?_)
    · have H3 := H2.1 q
      refine z_iconst (w := 0) dX8_isLetter_16 (by decide) ?_
      obtain ⟨rfl, rfl⟩ := H3
      exact z_zret dX8_isLetter_17 rfl (Or.inl rfl) (by decide) (by decide)
    · have H4 := H2.2 q
      refine z_iconst (w := 1) dX8_isLetter_12 (by decide) (z_goto (t := 17) dX8_isLetter_13 (by decide) ?_)
      obtain ⟨rfl, rfl⟩ := H4
      exact z_zret dX8_isLetter_17 rfl (Or.inr rfl) (by decide) (by decide)
theorem eX8_isLetter {g : zG} {I : Nat → Nat → Int32} {P : Nat → Nat → Option Nat} {r : Option Value} {h' : zH} {x0 : Int32} (H : Zt none mX8_isLetter 0 0 0 [(0, .int x0)] [] (g, I, P) r h') : Cl mX8_isLetter [.int x0] (g, I, P) r h' := Cl.of (by decide) (Nat.le_of_ble_eq_true rfl) H
theorem dX8_isDigit_0 : decode cX8_isDigit 0 = .ok (.iload_n 0, 1) := by decide +kernel
theorem dX8_isDigit_1 : decode cX8_isDigit 1 = .ok (.bipush 48, 2) := by decide +kernel
theorem dX8_isDigit_3 : decode cX8_isDigit 3 = .ok (.if_icmp .lt 13, 3) := by decide +kernel
theorem dX8_isDigit_6 : decode cX8_isDigit 6 = .ok (.iload_n 0, 1) := by decide +kernel
theorem dX8_isDigit_7 : decode cX8_isDigit 7 = .ok (.bipush 57, 2) := by decide +kernel
theorem dX8_isDigit_9 : decode cX8_isDigit 9 = .ok (.if_icmp .gt 7, 3) := by decide +kernel
theorem dX8_isDigit_12 : decode cX8_isDigit 12 = .ok (.iconst 1, 1) := by decide +kernel
theorem dX8_isDigit_13 : decode cX8_isDigit 13 = .ok (.goto 4, 3) := by decide +kernel
theorem dX8_isDigit_16 : decode cX8_isDigit 16 = .ok (.iconst 0, 1) := by decide +kernel
theorem dX8_isDigit_17 : decode cX8_isDigit 17 = .ok (.ireturn, 1) := by decide +kernel
set_option maxRecDepth 10000 in
theorem wX8_isDigit_0 {g : zG} {I : Nat → Nat → Int32} {P : Nat → Nat → Option Nat} {r : Option Value} {h' : zH} {x0 : Int32} (H : ((x0 < 48) → r = some (.int 0) ∧ h' = (g, I, P)) ∧ ((¬ x0 < 48) → ((57 < x0) → r = some (.int 0) ∧ h' = (g, I, P)) ∧ ((¬ 57 < x0) → r = some (.int 1) ∧ h' = (g, I, P)))) : Zt none mX8_isDigit 0 0 0 [(0, .int x0)] [] (g, I, P) r h' := by
  refine z_iload_n 0 dX8_isDigit_0 rfl (z_bipush (w := 48) dX8_isDigit_1 (by decide) ?_)
  refine z_icmp_lt (t := 16) dX8_isDigit_3 (by decide) (fun q => ?_) (fun q => ?_)
  · have H1 := H.1 q
    refine z_iconst (w := 0) dX8_isDigit_16 (by decide) ?_
    obtain ⟨rfl, rfl⟩ := H1
    exact z_zret dX8_isDigit_17 rfl (Or.inl rfl) (by decide) (by decide)
  · have H2 := H.2 q
    refine z_iload_n 0 dX8_isDigit_6 rfl (z_bipush (w := 57) dX8_isDigit_7 (by decide) ?_)
    refine z_icmp_gt (t := 16) dX8_isDigit_9 (by decide) (fun q => ?_) (fun q => ?_)
    · have H3 := H2.1 q
      refine z_iconst (w := 0) dX8_isDigit_16 (by decide) ?_
      obtain ⟨rfl, rfl⟩ := H3
      exact z_zret dX8_isDigit_17 rfl (Or.inl rfl) (by decide) (by decide)
    · have H4 := H2.2 q
      refine z_iconst (w := 1) dX8_isDigit_12 (by decide) (z_goto (t := 17) dX8_isDigit_13 (by decide) ?_)
      obtain ⟨rfl, rfl⟩ := H4
      exact z_zret dX8_isDigit_17 rfl (Or.inr rfl) (by decide) (by decide)
theorem eX8_isDigit {g : zG} {I : Nat → Nat → Int32} {P : Nat → Nat → Option Nat} {r : Option Value} {h' : zH} {x0 : Int32} (H : Zt none mX8_isDigit 0 0 0 [(0, .int x0)] [] (g, I, P) r h') : Cl mX8_isDigit [.int x0] (g, I, P) r h' := Cl.of (by decide) (Nat.le_of_ble_eq_true rfl) H
theorem dX9_copy_0 : decode cX9_copy 0 = .ok (.aload_n 1, 1) := by decide +kernel
theorem dX9_copy_1 : decode cX9_copy 1 = .ok (.getfield 9, 3) := by decide +kernel
theorem dX9_copy_4 : decode cX9_copy 4 = .ok (.aload_n 0, 1) := by decide +kernel
theorem dX9_copy_5 : decode cX9_copy 5 = .ok (.getfield 9, 3) := by decide +kernel
theorem dX9_copy_8 : decode cX9_copy 8 = .ok (.invokestatic 50, 3) := by decide +kernel
theorem dX9_copy_11 : decode cX9_copy 11 = .ok (.aload_n 0, 1) := by decide +kernel
theorem dX9_copy_12 : decode cX9_copy 12 = .ok (.aload_n 1, 1) := by decide +kernel
theorem dX9_copy_13 : decode cX9_copy 13 = .ok (.getfield 54, 3) := by decide +kernel
theorem dX9_copy_16 : decode cX9_copy 16 = .ok (.putfield 54, 3) := by decide +kernel
theorem dX9_copy_19 : decode cX9_copy 19 = .ok (.aload_n 0, 1) := by decide +kernel
theorem dX9_copy_20 : decode cX9_copy 20 = .ok (.aload_n 1, 1) := by decide +kernel
theorem dX9_copy_21 : decode cX9_copy 21 = .ok (.getfield 57, 3) := by decide +kernel
theorem dX9_copy_24 : decode cX9_copy 24 = .ok (.putfield 57, 3) := by decide +kernel
theorem dX9_copy_27 : decode cX9_copy 27 = .ok (.aload_n 0, 1) := by decide +kernel
theorem dX9_copy_28 : decode cX9_copy 28 = .ok (.aload_n 1, 1) := by decide +kernel
theorem dX9_copy_29 : decode cX9_copy 29 = .ok (.getfield 15, 3) := by decide +kernel
theorem dX9_copy_32 : decode cX9_copy 32 = .ok (.putfield 15, 3) := by decide +kernel
theorem dX9_copy_35 : decode cX9_copy 35 = .ok (.aload_n 1, 1) := by decide +kernel
theorem dX9_copy_36 : decode cX9_copy 36 = .ok (.getfield 19, 3) := by decide +kernel
theorem dX9_copy_39 : decode cX9_copy 39 = .ok (.aload_n 0, 1) := by decide +kernel
theorem dX9_copy_40 : decode cX9_copy 40 = .ok (.getfield 19, 3) := by decide +kernel
theorem dX9_copy_43 : decode cX9_copy 43 = .ok (.invokestatic 50, 3) := by decide +kernel
theorem dX9_copy_46 : decode cX9_copy 46 = .ok (.iconst 0, 1) := by decide +kernel
theorem dX9_copy_47 : decode cX9_copy 47 = .ok (.istore_n 2, 1) := by decide +kernel
theorem dX9_copy_48 : decode cX9_copy 48 = .ok (.iload_n 2, 1) := by decide +kernel
theorem dX9_copy_49 : decode cX9_copy 49 = .ok (.iconst 2, 1) := by decide +kernel
theorem dX9_copy_50 : decode cX9_copy 50 = .ok (.if_icmp .ge 69, 3) := by decide +kernel
theorem dX9_copy_53 : decode cX9_copy 53 = .ok (.aload_n 1, 1) := by decide +kernel
theorem dX9_copy_54 : decode cX9_copy 54 = .ok (.getfield 24, 3) := by decide +kernel
theorem dX9_copy_57 : decode cX9_copy 57 = .ok (.iload_n 2, 1) := by decide +kernel
theorem dX9_copy_58 : decode cX9_copy 58 = .ok (.aaload, 1) := by decide +kernel
theorem dX9_copy_59 : decode cX9_copy 59 = .ok (.aload_n 0, 1) := by decide +kernel
theorem dX9_copy_60 : decode cX9_copy 60 = .ok (.getfield 24, 3) := by decide +kernel
theorem dX9_copy_63 : decode cX9_copy 63 = .ok (.iload_n 2, 1) := by decide +kernel
theorem dX9_copy_64 : decode cX9_copy 64 = .ok (.aaload, 1) := by decide +kernel
theorem dX9_copy_65 : decode cX9_copy 65 = .ok (.invokestatic 60, 3) := by decide +kernel
theorem dX9_copy_68 : decode cX9_copy 68 = .ok (.aload_n 1, 1) := by decide +kernel
theorem dX9_copy_69 : decode cX9_copy 69 = .ok (.getfield 30, 3) := by decide +kernel
theorem dX9_copy_72 : decode cX9_copy 72 = .ok (.iload_n 2, 1) := by decide +kernel
theorem dX9_copy_73 : decode cX9_copy 73 = .ok (.aaload, 1) := by decide +kernel
theorem dX9_copy_74 : decode cX9_copy 74 = .ok (.aload_n 0, 1) := by decide +kernel
theorem dX9_copy_75 : decode cX9_copy 75 = .ok (.getfield 30, 3) := by decide +kernel
theorem dX9_copy_78 : decode cX9_copy 78 = .ok (.iload_n 2, 1) := by decide +kernel
theorem dX9_copy_79 : decode cX9_copy 79 = .ok (.aaload, 1) := by decide +kernel
theorem dX9_copy_80 : decode cX9_copy 80 = .ok (.invokestatic 64, 3) := by decide +kernel
theorem dX9_copy_83 : decode cX9_copy 83 = .ok (.aload_n 1, 1) := by decide +kernel
theorem dX9_copy_84 : decode cX9_copy 84 = .ok (.getfield 36, 3) := by decide +kernel
theorem dX9_copy_87 : decode cX9_copy 87 = .ok (.iload_n 2, 1) := by decide +kernel
theorem dX9_copy_88 : decode cX9_copy 88 = .ok (.aaload, 1) := by decide +kernel
theorem dX9_copy_89 : decode cX9_copy 89 = .ok (.aload_n 0, 1) := by decide +kernel
theorem dX9_copy_90 : decode cX9_copy 90 = .ok (.getfield 36, 3) := by decide +kernel
theorem dX9_copy_93 : decode cX9_copy 93 = .ok (.iload_n 2, 1) := by decide +kernel
theorem dX9_copy_94 : decode cX9_copy 94 = .ok (.aaload, 1) := by decide +kernel
theorem dX9_copy_95 : decode cX9_copy 95 = .ok (.invokestatic 67, 3) := by decide +kernel
theorem dX9_copy_98 : decode cX9_copy 98 = .ok (.aload_n 1, 1) := by decide +kernel
theorem dX9_copy_99 : decode cX9_copy 99 = .ok (.getfield 42, 3) := by decide +kernel
theorem dX9_copy_102 : decode cX9_copy 102 = .ok (.iload_n 2, 1) := by decide +kernel
theorem dX9_copy_103 : decode cX9_copy 103 = .ok (.aaload, 1) := by decide +kernel
theorem dX9_copy_104 : decode cX9_copy 104 = .ok (.aload_n 0, 1) := by decide +kernel
theorem dX9_copy_105 : decode cX9_copy 105 = .ok (.getfield 42, 3) := by decide +kernel
theorem dX9_copy_108 : decode cX9_copy 108 = .ok (.iload_n 2, 1) := by decide +kernel
theorem dX9_copy_109 : decode cX9_copy 109 = .ok (.aaload, 1) := by decide +kernel
theorem dX9_copy_110 : decode cX9_copy 110 = .ok (.invokestatic 70, 3) := by decide +kernel
theorem dX9_copy_113 : decode cX9_copy 113 = .ok (.iinc 2 1, 3) := by decide +kernel
theorem dX9_copy_116 : decode cX9_copy 116 = .ok (.goto (-68), 3) := by decide +kernel
theorem dX9_copy_119 : decode cX9_copy 119 = .ok (.return_, 1) := by decide +kernel
set_option maxRecDepth 10000 in
theorem wX9_copy_0 {g : zG} {I : Nat → Nat → Int32} {P : Nat → Nat → Option Nat} {r : Option Value} {h' : zH} {a0 : Nat} {a1 : Nat} (H : zk g a1 9 ∧ ∃ b1, P a1 0 = some b1 ∧ zk g a0 9 ∧ ∃ b4, P a0 0 = some b4 ∧ ∃ (I7 : Nat → Nat → Int32), Cl mX11_copyRow [.ref b1, .ref b4] (g, I, P) none (g, I7, P) ∧ zk g a1 9 ∧ zk g a0 9 ∧ zk g a1 9 ∧ zk g a0 9 ∧ zk g a1 9 ∧ zk g a0 9 ∧ zk g a1 9 ∧ ∃ b10, P a1 4 = some b10 ∧ zk g a0 9 ∧ ∃ b13, P a0 4 = some b13 ∧ ∃ (I16 : Nat → Nat → Int32), Cl mX11_copyRow [.ref b10, .ref b13] (g, zU (zU (zU I7 a0 1 (I7 a1 1)) a0 2 ((zU I7 a0 1 (I7 a1 1)) a1 2)) a0 3 ((zU (zU I7 a0 1 (I7 a1 1)) a0 2 ((zU I7 a0 1 (I7 a1 1)) a1 2)) a1 3), P) none (g, I16, P) ∧ Zt none mX9_copy 0 0 48 [(0, .ref a0), (1, .ref a1), (2, .int 0)] [] (g, I16, P) r h') : Zt none mX9_copy 0 0 0 [(0, .ref a0), (1, .ref a1)] [] (g, I, P) r h' := by
  refine z_aload_n 1 dX9_copy_0 rfl rfl ?_
  obtain ⟨oe3, b1, e3, H2⟩ := H
  refine z_getP dX9_copy_1 wf_X9_9 (by decide) (by decide) rfl oe3 (fun q => (by cases q.symm.trans e3)) (fun j q => ?_)
  cases q.symm.trans e3
  refine z_aload_n 0 dX9_copy_4 rfl rfl ?_
  obtain ⟨oe6, b4, e6, H5⟩ := H2
  refine z_getP dX9_copy_5 wf_X9_9 (by decide) (by decide) rfl oe6 (fun q => (by cases q.symm.trans e6)) (fun j q => ?_)
  cases q.symm.trans e6
  obtain ⟨I7, c8, H9⟩ := H5
  refine z_stat (As := [.ref b1, .ref b4]) (st := []) (r1 := none) (h1 := (g, I7, P)) dX9_copy_8 kX11_copyRow wm_X9_50 ⟨by decide, by decide⟩ rfl rfl (Nat.le_of_ble_eq_true rfl) (by decide) (by decide) c8 ?_
  refine z_aload_n 0 dX9_copy_11 rfl rfl (z_aload_n 1 dX9_copy_12 rfl rfl (z_getI dX9_copy_13 wf_X9_54 (by decide) (by decide) rfl H9.1 (z_putI (g := g) (I := I7) (Q := P) dX9_copy_16 wf_X9_54 (by decide) (by decide) rfl (Or.inl rfl) (zfit_int rfl) H9.2.1 (z_aload_n 0 dX9_copy_19 rfl rfl (z_aload_n 1 dX9_copy_20 rfl rfl (z_getI dX9_copy_21 wf_X9_57 (by decide) (by decide) rfl H9.2.2.1 (z_putI (g := g) (I := zU I7 a0 1 (I7 a1 1)) (Q := P) dX9_copy_24 wf_X9_57 (by decide) (by decide) rfl (Or.inl rfl) (zfit_int rfl) H9.2.2.2.1 (z_aload_n 0 dX9_copy_27 rfl rfl (z_aload_n 1 dX9_copy_28 rfl rfl (z_getI dX9_copy_29 wf_X9_15 (by decide) (by decide) rfl H9.2.2.2.2.1 (z_putI (g := g) (I := zU (zU I7 a0 1 (I7 a1 1)) a0 2 ((zU I7 a0 1 (I7 a1 1)) a1 2)) (Q := P) dX9_copy_32 wf_X9_15 (by decide) (by decide) rfl (Or.inl rfl) (zfit_int rfl) H9.2.2.2.2.2.1 (z_aload_n 1 dX9_copy_35 rfl rfl ?_))))))))))))
  obtain ⟨oe12, b10, e12, H11⟩ := H9.2.2.2.2.2.2
  refine z_getP dX9_copy_36 wf_X9_19 (by decide) (by decide) rfl oe12 (fun q => (by cases q.symm.trans e12)) (fun j q => ?_)
  cases q.symm.trans e12
  refine z_aload_n 0 dX9_copy_39 rfl rfl ?_
  obtain ⟨oe15, b13, e15, H14⟩ := H11
  refine z_getP dX9_copy_40 wf_X9_19 (by decide) (by decide) rfl oe15 (fun q => (by cases q.symm.trans e15)) (fun j q => ?_)
  cases q.symm.trans e15
  obtain ⟨I16, c17, H18⟩ := H14
  refine z_stat (As := [.ref b10, .ref b13]) (st := []) (r1 := none) (h1 := (g, I16, P)) dX9_copy_43 kX11_copyRow wm_X9_50 ⟨by decide, by decide⟩ rfl rfl (Nat.le_of_ble_eq_true rfl) (by decide) (by decide) c17 ?_
  refine z_iconst (w := 0) dX9_copy_46 (by decide) (z_istore_n (lv' := [(2, .int 0), (0, .ref a0), (1, .ref a1)]) dX9_copy_47 (by decide) rfl ?_)
  exact z_less [1, 2, 0] rfl H18
theorem eX9_copy {g : zG} {I : Nat → Nat → Int32} {P : Nat → Nat → Option Nat} {r : Option Value} {h' : zH} {a0 : Nat} {a1 : Nat} (H : Zt none mX9_copy 0 0 0 [(0, .ref a0), (1, .ref a1)] [] (g, I, P) r h') : Cl mX9_copy [.ref a0, .ref a1] (g, I, P) r h' := Cl.of (by decide) (Nat.le_of_ble_eq_true rfl) H
set_option maxRecDepth 10000 in
theorem wX9_copy_48 {g : zG} {I : Nat → Nat → Int32} {P : Nat → Nat → Option Nat} {r : Option Value} {h' : zH} {a0 : Nat} {a1 : Nat} {x2 : Int32} (H : ((2 ≤ x2) → r = none ∧ h' = (g, I, P)) ∧ ((¬ 2 ≤ x2) → zk g a1 9 ∧ ∃ b3, P a1 5 = some b3 ∧ zk g b3 16 ∧ vp_in x2 (g.2.2 b3) ∧ ∃ b6, P b3 x2.toNatClampNeg = some b6 ∧ zk g a0 9 ∧ ∃ b9, P a0 5 = some b9 ∧ zk g b9 16 ∧ vp_in x2 (g.2.2 b9) ∧ ∃ b12, P b9 x2.toNatClampNeg = some b12 ∧ ∃ (I15 : Nat → Nat → Int32), Cl mX3_copy [.ref b6, .ref b12] (g, I, P) none (g, I15, P) ∧ zk g a1 9 ∧ ∃ b18, P a1 6 = some b18 ∧ zk g b18 15 ∧ vp_in x2 (g.2.2 b18) ∧ ∃ b21, P b18 x2.toNatClampNeg = some b21 ∧ zk g a0 9 ∧ ∃ b24, P a0 6 = some b24 ∧ zk g b24 15 ∧ vp_in x2 (g.2.2 b24) ∧ ∃ b27, P b24 x2.toNatClampNeg = some b27 ∧ ∃ (I30 : Nat → Nat → Int32), Cl mX0_copy [.ref b21, .ref b27] (g, I15, P) none (g, I30, P) ∧ zk g a1 9 ∧ ∃ b33, P a1 7 = some b33 ∧ zk g b33 17 ∧ vp_in x2 (g.2.2 b33) ∧ ∃ b36, P b33 x2.toNatClampNeg = some b36 ∧ zk g a0 9 ∧ ∃ b39, P a0 7 = some b39 ∧ zk g b39 17 ∧ vp_in x2 (g.2.2 b39) ∧ ∃ b42, P b39 x2.toNatClampNeg = some b42 ∧ ∃ (I45 : Nat → Nat → Int32), Cl mX4_copy [.ref b36, .ref b42] (g, I30, P) none (g, I45, P) ∧ zk g a1 9 ∧ ∃ b48, P a1 8 = some b48 ∧ zk g b48 18 ∧ vp_in x2 (g.2.2 b48) ∧ ∃ b51, P b48 x2.toNatClampNeg = some b51 ∧ zk g a0 9 ∧ ∃ b54, P a0 8 = some b54 ∧ zk g b54 18 ∧ vp_in x2 (g.2.2 b54) ∧ ∃ b57, P b54 x2.toNatClampNeg = some b57 ∧ ∃ (I60 : Nat → Nat → Int32), Cl mX5_copy [.ref b51, .ref b57] (g, I45, P) none (g, I60, P) ∧ Zt none mX9_copy 0 0 48 [(0, .ref a0), (1, .ref a1), (2, .int (x2 + 1))] [] (g, I60, P) r h')) : Zt none mX9_copy 0 0 48 [(0, .ref a0), (1, .ref a1), (2, .int x2)] [] (g, I, P) r h' := by
  refine z_iload_n 2 dX9_copy_48 rfl (z_iconst (w := 2) dX9_copy_49 (by decide) ?_)
  refine z_icmp_ge (t := 119) dX9_copy_50 (by decide) (fun q => ?_) (fun q => ?_)
  · have H1 := H.1 q
    obtain ⟨rfl, rfl⟩ := H1
    exact z_vret dX9_copy_119 rfl (by decide) (by decide)
  · have H2 := H.2 q
    refine z_aload_n 1 dX9_copy_53 rfl rfl ?_
    obtain ⟨oe5, b3, e5, H4⟩ := H2
    refine z_getP dX9_copy_54 wf_X9_24 (by decide) (by decide) rfl oe5 (fun q => (by cases q.symm.trans e5)) (fun j q => ?_)
    cases q.symm.trans e5
    refine z_iload_n 2 dX9_copy_57 rfl ?_
    obtain ⟨oe8, pe8, b6, e8, H7⟩ := H4
    refine z_aald dX9_copy_58 oe8 (by decide) (by decide) pe8 (fun q => (by cases q.symm.trans e8)) (fun j q => ?_)
    cases q.symm.trans e8
    refine z_aload_n 0 dX9_copy_59 rfl rfl ?_
    obtain ⟨oe11, b9, e11, H10⟩ := H7
    refine z_getP dX9_copy_60 wf_X9_24 (by decide) (by decide) rfl oe11 (fun q => (by cases q.symm.trans e11)) (fun j q => ?_)
    cases q.symm.trans e11
    refine z_iload_n 2 dX9_copy_63 rfl ?_
    obtain ⟨oe14, pe14, b12, e14, H13⟩ := H10
    refine z_aald dX9_copy_64 oe14 (by decide) (by decide) pe14 (fun q => (by cases q.symm.trans e14)) (fun j q => ?_)
    cases q.symm.trans e14
    obtain ⟨I15, c16, H17⟩ := H13
    refine z_stat (As := [.ref b6, .ref b12]) (st := []) (r1 := none) (h1 := (g, I15, P)) dX9_copy_65 kX3_copy wm_X9_60 ⟨by decide, by decide⟩ rfl rfl (Nat.le_of_ble_eq_true rfl) (by decide) (by decide) c16 ?_
    refine z_aload_n 1 dX9_copy_68 rfl rfl ?_
    obtain ⟨oe20, b18, e20, H19⟩ := H17
    refine z_getP dX9_copy_69 wf_X9_30 (by decide) (by decide) rfl oe20 (fun q => (by cases q.symm.trans e20)) (fun j q => ?_)
    cases q.symm.trans e20
    refine z_iload_n 2 dX9_copy_72 rfl ?_
    obtain ⟨oe23, pe23, b21, e23, H22⟩ := H19
    refine z_aald dX9_copy_73 oe23 (by decide) (by decide) pe23 (fun q => (by cases q.symm.trans e23)) (fun j q => ?_)
    cases q.symm.trans e23
    refine z_aload_n 0 dX9_copy_74 rfl rfl ?_
    obtain ⟨oe26, b24, e26, H25⟩ := H22
    refine z_getP dX9_copy_75 wf_X9_30 (by decide) (by decide) rfl oe26 (fun q => (by cases q.symm.trans e26)) (fun j q => ?_)
    cases q.symm.trans e26
    refine z_iload_n 2 dX9_copy_78 rfl ?_
    obtain ⟨oe29, pe29, b27, e29, H28⟩ := H25
    refine z_aald dX9_copy_79 oe29 (by decide) (by decide) pe29 (fun q => (by cases q.symm.trans e29)) (fun j q => ?_)
    cases q.symm.trans e29
    obtain ⟨I30, c31, H32⟩ := H28
    refine z_stat (As := [.ref b21, .ref b27]) (st := []) (r1 := none) (h1 := (g, I30, P)) dX9_copy_80 kX0_copy wm_X9_64 ⟨by decide, by decide⟩ rfl rfl (Nat.le_of_ble_eq_true rfl) (by decide) (by decide) c31 ?_
    refine z_aload_n 1 dX9_copy_83 rfl rfl ?_
    obtain ⟨oe35, b33, e35, H34⟩ := H32
    refine z_getP dX9_copy_84 wf_X9_36 (by decide) (by decide) rfl oe35 (fun q => (by cases q.symm.trans e35)) (fun j q => ?_)
    cases q.symm.trans e35
    refine z_iload_n 2 dX9_copy_87 rfl ?_
    obtain ⟨oe38, pe38, b36, e38, H37⟩ := H34
    refine z_aald dX9_copy_88 oe38 (by decide) (by decide) pe38 (fun q => (by cases q.symm.trans e38)) (fun j q => ?_)
    cases q.symm.trans e38
    refine z_aload_n 0 dX9_copy_89 rfl rfl ?_
    obtain ⟨oe41, b39, e41, H40⟩ := H37
    refine z_getP dX9_copy_90 wf_X9_36 (by decide) (by decide) rfl oe41 (fun q => (by cases q.symm.trans e41)) (fun j q => ?_)
    cases q.symm.trans e41
    refine z_iload_n 2 dX9_copy_93 rfl ?_
    obtain ⟨oe44, pe44, b42, e44, H43⟩ := H40
    refine z_aald dX9_copy_94 oe44 (by decide) (by decide) pe44 (fun q => (by cases q.symm.trans e44)) (fun j q => ?_)
    cases q.symm.trans e44
    obtain ⟨I45, c46, H47⟩ := H43
    refine z_stat (As := [.ref b36, .ref b42]) (st := []) (r1 := none) (h1 := (g, I45, P)) dX9_copy_95 kX4_copy wm_X9_67 ⟨by decide, by decide⟩ rfl rfl (Nat.le_of_ble_eq_true rfl) (by decide) (by decide) c46 ?_
    refine z_aload_n 1 dX9_copy_98 rfl rfl ?_
    obtain ⟨oe50, b48, e50, H49⟩ := H47
    refine z_getP dX9_copy_99 wf_X9_42 (by decide) (by decide) rfl oe50 (fun q => (by cases q.symm.trans e50)) (fun j q => ?_)
    cases q.symm.trans e50
    refine z_iload_n 2 dX9_copy_102 rfl ?_
    obtain ⟨oe53, pe53, b51, e53, H52⟩ := H49
    refine z_aald dX9_copy_103 oe53 (by decide) (by decide) pe53 (fun q => (by cases q.symm.trans e53)) (fun j q => ?_)
    cases q.symm.trans e53
    refine z_aload_n 0 dX9_copy_104 rfl rfl ?_
    obtain ⟨oe56, b54, e56, H55⟩ := H52
    refine z_getP dX9_copy_105 wf_X9_42 (by decide) (by decide) rfl oe56 (fun q => (by cases q.symm.trans e56)) (fun j q => ?_)
    cases q.symm.trans e56
    refine z_iload_n 2 dX9_copy_108 rfl ?_
    obtain ⟨oe59, pe59, b57, e59, H58⟩ := H55
    refine z_aald dX9_copy_109 oe59 (by decide) (by decide) pe59 (fun q => (by cases q.symm.trans e59)) (fun j q => ?_)
    cases q.symm.trans e59
    obtain ⟨I60, c61, H62⟩ := H58
    refine z_stat (As := [.ref b51, .ref b57]) (st := []) (r1 := none) (h1 := (g, I60, P)) dX9_copy_110 kX5_copy wm_X9_70 ⟨by decide, by decide⟩ rfl rfl (Nat.le_of_ble_eq_true rfl) (by decide) (by decide) c61 ?_
    refine z_iinc (y := x2 + 1) (lv' := [(2, .int (x2 + 1)), (0, .ref a0), (1, .ref a1)]) 2 dX9_copy_113 rfl rfl (by decide) rfl (z_goto (t := 48) dX9_copy_116 (by decide) ?_)
    exact z_less [1, 2, 0] rfl H62
theorem dX9_addBytes_0 : decode cX9_addBytes 0 = .ok (.bipush 24, 2) := by decide +kernel
theorem dX9_addBytes_2 : decode cX9_addBytes 2 = .ok (.istore_n 2, 1) := by decide +kernel
theorem dX9_addBytes_3 : decode cX9_addBytes 3 = .ok (.iload_n 2, 1) := by decide +kernel
theorem dX9_addBytes_4 : decode cX9_addBytes 4 = .ok (.ifCond .lt 37, 3) := by decide +kernel
theorem dX9_addBytes_7 : decode cX9_addBytes 7 = .ok (.aload_n 0, 1) := by decide +kernel
theorem dX9_addBytes_8 : decode cX9_addBytes 8 = .ok (.getfield 9, 3) := by decide +kernel
theorem dX9_addBytes_11 : decode cX9_addBytes 11 = .ok (.aload_n 0, 1) := by decide +kernel
theorem dX9_addBytes_12 : decode cX9_addBytes 12 = .ok (.getfield 54, 3) := by decide +kernel
theorem dX9_addBytes_15 : decode cX9_addBytes 15 = .ok (.iload_n 1, 1) := by decide +kernel
theorem dX9_addBytes_16 : decode cX9_addBytes 16 = .ok (.iload_n 2, 1) := by decide +kernel
theorem dX9_addBytes_17 : decode cX9_addBytes 17 = .ok (.iushr, 1) := by decide +kernel
theorem dX9_addBytes_18 : decode cX9_addBytes 18 = .ok (.sipush 255, 3) := by decide +kernel
theorem dX9_addBytes_21 : decode cX9_addBytes 21 = .ok (.iand, 1) := by decide +kernel
theorem dX9_addBytes_22 : decode cX9_addBytes 22 = .ok (.invokestatic 73, 3) := by decide +kernel
theorem dX9_addBytes_25 : decode cX9_addBytes 25 = .ok (.aload_n 0, 1) := by decide +kernel
theorem dX9_addBytes_26 : decode cX9_addBytes 26 = .ok (.dup, 1) := by decide +kernel
theorem dX9_addBytes_27 : decode cX9_addBytes 27 = .ok (.getfield 54, 3) := by decide +kernel
theorem dX9_addBytes_30 : decode cX9_addBytes 30 = .ok (.iconst 1, 1) := by decide +kernel
theorem dX9_addBytes_31 : decode cX9_addBytes 31 = .ok (.iadd, 1) := by decide +kernel
theorem dX9_addBytes_32 : decode cX9_addBytes 32 = .ok (.putfield 54, 3) := by decide +kernel
theorem dX9_addBytes_35 : decode cX9_addBytes 35 = .ok (.iinc 2 (-8), 3) := by decide +kernel
theorem dX9_addBytes_38 : decode cX9_addBytes 38 = .ok (.goto (-35), 3) := by decide +kernel
theorem dX9_addBytes_41 : decode cX9_addBytes 41 = .ok (.return_, 1) := by decide +kernel
set_option maxRecDepth 10000 in
theorem wX9_addBytes_0 {g : zG} {I : Nat → Nat → Int32} {P : Nat → Nat → Option Nat} {r : Option Value} {h' : zH} {a0 : Nat} {x1 : Int32} (H : Zt none mX9_addBytes 0 0 3 [(0, .ref a0), (1, .int x1), (2, .int 24)] [] (g, I, P) r h') : Zt none mX9_addBytes 0 0 0 [(0, .ref a0), (1, .int x1)] [] (g, I, P) r h' := by
  refine z_bipush (w := 24) dX9_addBytes_0 (by decide) (z_istore_n (lv' := [(2, .int 24), (0, .ref a0), (1, .int x1)]) dX9_addBytes_2 (by decide) rfl ?_)
  exact z_less [1, 2, 0] rfl H
theorem eX9_addBytes {g : zG} {I : Nat → Nat → Int32} {P : Nat → Nat → Option Nat} {r : Option Value} {h' : zH} {a0 : Nat} {x1 : Int32} (H : Zt none mX9_addBytes 0 0 0 [(0, .ref a0), (1, .int x1)] [] (g, I, P) r h') : Cl mX9_addBytes [.ref a0, .int x1] (g, I, P) r h' := Cl.of (by decide) (Nat.le_of_ble_eq_true rfl) H
set_option maxRecDepth 10000 in
theorem wX9_addBytes_3 {g : zG} {I : Nat → Nat → Int32} {P : Nat → Nat → Option Nat} {r : Option Value} {h' : zH} {a0 : Nat} {x1 : Int32} {x2 : Int32} (H : ((x2 < 0) → r = none ∧ h' = (g, I, P)) ∧ ((¬ x2 < 0) → zk g a0 9 ∧ ∃ b3, P a0 0 = some b3 ∧ zk g a0 9 ∧ ∃ (I6 : Nat → Nat → Int32), Cl mX11_put [.ref b3, .int (I a0 1), .int ((zus x1 x2) &&& 255)] (g, I, P) none (g, I6, P) ∧ zk g a0 9 ∧ zk g a0 9 ∧ Zt none mX9_addBytes 0 0 3 [(0, .ref a0), (1, .int x1), (2, .int (x2 + (-8)))] [] (g, zU I6 a0 1 ((I6 a0 1) + 1), P) r h')) : Zt none mX9_addBytes 0 0 3 [(0, .ref a0), (1, .int x1), (2, .int x2)] [] (g, I, P) r h' := by
  refine z_iload_n 2 dX9_addBytes_3 rfl ?_
  refine z_if_lt (t := 41) dX9_addBytes_4 (by decide) (fun q => ?_) (fun q => ?_)
  · have H1 := H.1 q
    obtain ⟨rfl, rfl⟩ := H1
    exact z_vret dX9_addBytes_41 rfl (by decide) (by decide)
  · have H2 := H.2 q
    refine z_aload_n 0 dX9_addBytes_7 rfl rfl ?_
    obtain ⟨oe5, b3, e5, H4⟩ := H2
    refine z_getP dX9_addBytes_8 wf_X9_9 (by decide) (by decide) rfl oe5 (fun q => (by cases q.symm.trans e5)) (fun j q => ?_)
    cases q.symm.trans e5
    refine z_aload_n 0 dX9_addBytes_11 rfl rfl (z_getI dX9_addBytes_12 wf_X9_54 (by decide) (by decide) rfl H4.1 (z_iload_n 1 dX9_addBytes_15 rfl (z_iload_n 2 dX9_addBytes_16 rfl (z_iushr dX9_addBytes_17 (z_sipush (w := 255) dX9_addBytes_18 (by decide) (z_iand dX9_addBytes_21 ?_))))))
    obtain ⟨I6, c7, H8⟩ := H4.2
    refine z_stat (As := [.ref b3, .int (I a0 1), .int ((zus x1 x2) &&& 255)]) (st := []) (r1 := none) (h1 := (g, I6, P)) dX9_addBytes_22 kX11_put wm_X9_73 ⟨by decide, by decide⟩ rfl rfl (Nat.le_of_ble_eq_true rfl) (by decide) (by decide) c7 ?_
    refine z_aload_n 0 dX9_addBytes_25 rfl rfl (z_dup dX9_addBytes_26 rfl (z_getI dX9_addBytes_27 wf_X9_54 (by decide) (by decide) rfl H8.1 (z_iconst (w := 1) dX9_addBytes_30 (by decide) (z_iadd dX9_addBytes_31 (z_putI (g := g) (I := I6) (Q := P) dX9_addBytes_32 wf_X9_54 (by decide) (by decide) rfl (Or.inl rfl) (zfit_int rfl) H8.2.1 (z_iinc (y := x2 + (-8)) (lv' := [(2, .int (x2 + (-8))), (0, .ref a0), (1, .int x1)]) 2 dX9_addBytes_35 rfl rfl (by decide) rfl (z_goto (t := 3) dX9_addBytes_38 (by decide) ?_)))))))
    exact z_less [1, 2, 0] rfl H8.2.2
theorem dX9_many_0 : decode cX9_many 0 = .ok (.iload_n 1, 1) := by decide +kernel
theorem dX9_many_1 : decode cX9_many 1 = .ok (.ifCond .lt 8, 3) := by decide +kernel
theorem dX9_many_4 : decode cX9_many 4 = .ok (.iload_n 1, 1) := by decide +kernel
theorem dX9_many_5 : decode cX9_many 5 = .ok (.iconst 4, 1) := by decide +kernel
theorem dX9_many_6 : decode cX9_many 6 = .ok (.if_icmp .lt 8, 3) := by decide +kernel
theorem dX9_many_9 : decode cX9_many 9 = .ok (.bipush (-2), 2) := by decide +kernel
theorem dX9_many_11 : decode cX9_many 11 = .ok (.goto 11, 3) := by decide +kernel
theorem dX9_many_14 : decode cX9_many 14 = .ok (.aload_n 0, 1) := by decide +kernel
theorem dX9_many_15 : decode cX9_many 15 = .ok (.getfield 19, 3) := by decide +kernel
theorem dX9_many_18 : decode cX9_many 18 = .ok (.iload_n 1, 1) := by decide +kernel
theorem dX9_many_19 : decode cX9_many 19 = .ok (.invokestatic 77, 3) := by decide +kernel
theorem dX9_many_22 : decode cX9_many 22 = .ok (.ireturn, 1) := by decide +kernel
set_option maxRecDepth 10000 in
theorem wX9_many_0 {g : zG} {I : Nat → Nat → Int32} {P : Nat → Nat → Option Nat} {r : Option Value} {h' : zH} {a0 : Nat} {x1 : Int32} (H : ((x1 < 0) → r = some (.int (-2)) ∧ h' = (g, I, P)) ∧ ((¬ x1 < 0) → ((x1 < 4) → zk g a0 9 ∧ ∃ b4, P a0 4 = some b4 ∧ ∃ (w7 : Int32), Cl mX11_got [.ref b4, .int x1] (g, I, P) (some (.int w7)) (g, I, P) ∧ r = some (.int w7) ∧ h' = (g, I, P)) ∧ ((¬ x1 < 4) → r = some (.int (-2)) ∧ h' = (g, I, P)))) : Zt none mX9_many 0 0 0 [(0, .ref a0), (1, .int x1)] [] (g, I, P) r h' := by
  refine z_iload_n 1 dX9_many_0 rfl ?_
  refine z_if_lt (t := 9) dX9_many_1 (by decide) (fun q => ?_) (fun q => ?_)
  · have H1 := H.1 q
    refine z_bipush (w := (-2)) dX9_many_9 (by decide) (z_goto (t := 22) dX9_many_11 (by decide) ?_)
    obtain ⟨rfl, rfl⟩ := H1
    exact z_iret dX9_many_22 rfl (by decide) (by decide)
  · have H2 := H.2 q
    refine z_iload_n 1 dX9_many_4 rfl (z_iconst (w := 4) dX9_many_5 (by decide) ?_)
    refine z_icmp_lt (t := 14) dX9_many_6 (by decide) (fun q => ?_) (fun q => ?_)
    · have H3 := H2.1 q
      refine z_aload_n 0 dX9_many_14 rfl rfl ?_
      obtain ⟨oe6, b4, e6, H5⟩ := H3
      refine z_getP dX9_many_15 wf_X9_19 (by decide) (by decide) rfl oe6 (fun q => (by cases q.symm.trans e6)) (fun j q => ?_)
      cases q.symm.trans e6
      refine z_iload_n 1 dX9_many_18 rfl ?_
      obtain ⟨w7, c8, H9⟩ := H5
      refine z_stat (As := [.ref b4, .int x1]) (st := []) (r1 := (some (.int w7))) (h1 := (g, I, P)) dX9_many_19 kX11_got wm_X9_77 ⟨by decide, by decide⟩ rfl rfl (Nat.le_of_ble_eq_true rfl) (by decide) (by decide) c8 ?_
      obtain ⟨rfl, rfl⟩ := H9
      exact z_iret dX9_many_22 rfl (by decide) (by decide)
    · have H10 := H2.2 q
      refine z_bipush (w := (-2)) dX9_many_9 (by decide) (z_goto (t := 22) dX9_many_11 (by decide) ?_)
      obtain ⟨rfl, rfl⟩ := H10
      exact z_iret dX9_many_22 rfl (by decide) (by decide)
theorem eX9_many {g : zG} {I : Nat → Nat → Int32} {P : Nat → Nat → Option Nat} {r : Option Value} {h' : zH} {a0 : Nat} {x1 : Int32} (H : Zt none mX9_many 0 0 0 [(0, .ref a0), (1, .int x1)] [] (g, I, P) r h') : Cl mX9_many [.ref a0, .int x1] (g, I, P) r h' := Cl.of (by decide) (Nat.le_of_ble_eq_true rfl) H
theorem dX9_keep_0 : decode cX9_keep 0 = .ok (.iload_n 3, 1) := by decide +kernel
theorem dX9_keep_1 : decode cX9_keep 1 = .ok (.ifCond .lt 8, 3) := by decide +kernel
theorem dX9_keep_4 : decode cX9_keep 4 = .ok (.iload_n 3, 1) := by decide +kernel
theorem dX9_keep_5 : decode cX9_keep 5 = .ok (.iconst 2, 1) := by decide +kernel
theorem dX9_keep_6 : decode cX9_keep 6 = .ok (.if_icmp .lt 4, 3) := by decide +kernel
theorem dX9_keep_9 : decode cX9_keep 9 = .ok (.return_, 1) := by decide +kernel
theorem dX9_keep_10 : decode cX9_keep 10 = .ok (.aload_n 0, 1) := by decide +kernel
theorem dX9_keep_11 : decode cX9_keep 11 = .ok (.getfield 19, 3) := by decide +kernel
theorem dX9_keep_14 : decode cX9_keep 14 = .ok (.iload_n 2, 1) := by decide +kernel
theorem dX9_keep_15 : decode cX9_keep 15 = .ok (.aload_n 0, 1) := by decide +kernel
theorem dX9_keep_16 : decode cX9_keep 16 = .ok (.getfield 19, 3) := by decide +kernel
theorem dX9_keep_19 : decode cX9_keep 19 = .ok (.iload_n 2, 1) := by decide +kernel
theorem dX9_keep_20 : decode cX9_keep 20 = .ok (.invokestatic 77, 3) := by decide +kernel
theorem dX9_keep_23 : decode cX9_keep 23 = .ok (.iload_n 3, 1) := by decide +kernel
theorem dX9_keep_24 : decode cX9_keep 24 = .ok (.iconst 1, 1) := by decide +kernel
theorem dX9_keep_25 : decode cX9_keep 25 = .ok (.iadd, 1) := by decide +kernel
theorem dX9_keep_26 : decode cX9_keep 26 = .ok (.invokestatic 81, 3) := by decide +kernel
theorem dX9_keep_29 : decode cX9_keep 29 = .ok (.invokestatic 73, 3) := by decide +kernel
theorem dX9_keep_32 : decode cX9_keep 32 = .ok (.iload_n 2, 1) := by decide +kernel
theorem dX9_keep_33 : decode cX9_keep 33 = .ok (.tableswitch 95 0 3 #[31, 47, 63, 79], 31) := by decide +kernel
theorem dX9_keep_64 : decode cX9_keep 64 = .ok (.aload_n 1, 1) := by decide +kernel
theorem dX9_keep_65 : decode cX9_keep 65 = .ok (.getfield 87, 3) := by decide +kernel
theorem dX9_keep_68 : decode cX9_keep 68 = .ok (.aload_n 0, 1) := by decide +kernel
theorem dX9_keep_69 : decode cX9_keep 69 = .ok (.getfield 24, 3) := by decide +kernel
theorem dX9_keep_72 : decode cX9_keep 72 = .ok (.iload_n 3, 1) := by decide +kernel
theorem dX9_keep_73 : decode cX9_keep 73 = .ok (.aaload, 1) := by decide +kernel
theorem dX9_keep_74 : decode cX9_keep 74 = .ok (.invokestatic 60, 3) := by decide +kernel
theorem dX9_keep_77 : decode cX9_keep 77 = .ok (.goto 51, 3) := by decide +kernel
theorem dX9_keep_80 : decode cX9_keep 80 = .ok (.aload_n 1, 1) := by decide +kernel
theorem dX9_keep_81 : decode cX9_keep 81 = .ok (.getfield 93, 3) := by decide +kernel
theorem dX9_keep_84 : decode cX9_keep 84 = .ok (.aload_n 0, 1) := by decide +kernel
theorem dX9_keep_85 : decode cX9_keep 85 = .ok (.getfield 30, 3) := by decide +kernel
theorem dX9_keep_88 : decode cX9_keep 88 = .ok (.iload_n 3, 1) := by decide +kernel
theorem dX9_keep_89 : decode cX9_keep 89 = .ok (.aaload, 1) := by decide +kernel
theorem dX9_keep_90 : decode cX9_keep 90 = .ok (.invokestatic 64, 3) := by decide +kernel
theorem dX9_keep_93 : decode cX9_keep 93 = .ok (.goto 35, 3) := by decide +kernel
theorem dX9_keep_96 : decode cX9_keep 96 = .ok (.aload_n 1, 1) := by decide +kernel
theorem dX9_keep_97 : decode cX9_keep 97 = .ok (.getfield 97, 3) := by decide +kernel
theorem dX9_keep_100 : decode cX9_keep 100 = .ok (.aload_n 0, 1) := by decide +kernel
theorem dX9_keep_101 : decode cX9_keep 101 = .ok (.getfield 36, 3) := by decide +kernel
theorem dX9_keep_104 : decode cX9_keep 104 = .ok (.iload_n 3, 1) := by decide +kernel
theorem dX9_keep_105 : decode cX9_keep 105 = .ok (.aaload, 1) := by decide +kernel
theorem dX9_keep_106 : decode cX9_keep 106 = .ok (.invokestatic 67, 3) := by decide +kernel
theorem dX9_keep_109 : decode cX9_keep 109 = .ok (.goto 19, 3) := by decide +kernel
theorem dX9_keep_112 : decode cX9_keep 112 = .ok (.aload_n 1, 1) := by decide +kernel
theorem dX9_keep_113 : decode cX9_keep 113 = .ok (.getfield 100, 3) := by decide +kernel
theorem dX9_keep_116 : decode cX9_keep 116 = .ok (.aload_n 0, 1) := by decide +kernel
theorem dX9_keep_117 : decode cX9_keep 117 = .ok (.getfield 42, 3) := by decide +kernel
theorem dX9_keep_120 : decode cX9_keep 120 = .ok (.iload_n 3, 1) := by decide +kernel
theorem dX9_keep_121 : decode cX9_keep 121 = .ok (.aaload, 1) := by decide +kernel
theorem dX9_keep_122 : decode cX9_keep 122 = .ok (.invokestatic 70, 3) := by decide +kernel
theorem dX9_keep_125 : decode cX9_keep 125 = .ok (.goto 3, 3) := by decide +kernel
theorem dX9_keep_128 : decode cX9_keep 128 = .ok (.return_, 1) := by decide +kernel
set_option maxRecDepth 10000 in
theorem wX9_keep_0 {g : zG} {I : Nat → Nat → Int32} {P : Nat → Nat → Option Nat} {r : Option Value} {h' : zH} {a0 : Nat} {a1 : Nat} {x2 : Int32} {x3 : Int32} (H : ((x3 < 0) → r = none ∧ h' = (g, I, P)) ∧ ((¬ x3 < 0) → ((x3 < 2) → zk g a0 9 ∧ ∃ b4, P a0 4 = some b4 ∧ zk g a0 9 ∧ ∃ b7, P a0 4 = some b7 ∧ ∃ (w10 : Int32), Cl mX11_got [.ref b7, .int x2] (g, I, P) (some (.int w10)) (g, I, P) ∧ ∃ (I13 : Nat → Nat → Int32), Cl mX11_put [.ref b4, .int x2, .int (zmmax w10 (x3 + 1))] (g, I, P) none (g, I13, P) ∧ ((x2 = 0) → zk g a1 6 ∧ ∃ b18, P a1 0 = some b18 ∧ zk g a0 9 ∧ ∃ b21, P a0 5 = some b21 ∧ zk g b21 16 ∧ vp_in x3 (g.2.2 b21) ∧ ∃ b24, P b21 x3.toNatClampNeg = some b24 ∧ ∃ (I27 : Nat → Nat → Int32), Cl mX3_copy [.ref b18, .ref b24] (g, I13, P) none (g, I27, P) ∧ r = none ∧ h' = (g, I27, P)) ∧ ((x2 = 1) → zk g a1 6 ∧ ∃ b32, P a1 1 = some b32 ∧ zk g a0 9 ∧ ∃ b35, P a0 6 = some b35 ∧ zk g b35 15 ∧ vp_in x3 (g.2.2 b35) ∧ ∃ b38, P b35 x3.toNatClampNeg = some b38 ∧ ∃ (I41 : Nat → Nat → Int32), Cl mX0_copy [.ref b32, .ref b38] (g, I13, P) none (g, I41, P) ∧ r = none ∧ h' = (g, I41, P)) ∧ ((x2 = 2) → zk g a1 6 ∧ ∃ b46, P a1 2 = some b46 ∧ zk g a0 9 ∧ ∃ b49, P a0 7 = some b49 ∧ zk g b49 17 ∧ vp_in x3 (g.2.2 b49) ∧ ∃ b52, P b49 x3.toNatClampNeg = some b52 ∧ ∃ (I55 : Nat → Nat → Int32), Cl mX4_copy [.ref b46, .ref b52] (g, I13, P) none (g, I55, P) ∧ r = none ∧ h' = (g, I55, P)) ∧ ((x2 = 3) → zk g a1 6 ∧ ∃ b60, P a1 3 = some b60 ∧ zk g a0 9 ∧ ∃ b63, P a0 8 = some b63 ∧ zk g b63 18 ∧ vp_in x3 (g.2.2 b63) ∧ ∃ b66, P b63 x3.toNatClampNeg = some b66 ∧ ∃ (I69 : Nat → Nat → Int32), Cl mX5_copy [.ref b60, .ref b66] (g, I13, P) none (g, I69, P) ∧ r = none ∧ h' = (g, I69, P)) ∧ (¬ x2 = 0 → ¬ x2 = 1 → ¬ x2 = 2 → ¬ x2 = 3 → r = none ∧ h' = (g, I13, P))) ∧ ((¬ x3 < 2) → r = none ∧ h' = (g, I, P)))) : Zt none mX9_keep 0 0 0 [(0, .ref a0), (1, .ref a1), (2, .int x2), (3, .int x3)] [] (g, I, P) r h' := by
  refine z_iload_n 3 dX9_keep_0 rfl ?_
  refine z_if_lt (t := 9) dX9_keep_1 (by decide) (fun q => ?_) (fun q => ?_)
  · have H1 := H.1 q
    obtain ⟨rfl, rfl⟩ := H1
    exact z_vret dX9_keep_9 rfl (by decide) (by decide)
  · have H2 := H.2 q
    refine z_iload_n 3 dX9_keep_4 rfl (z_iconst (w := 2) dX9_keep_5 (by decide) ?_)
    refine z_icmp_lt (t := 10) dX9_keep_6 (by decide) (fun q => ?_) (fun q => ?_)
    · have H3 := H2.1 q
      refine z_aload_n 0 dX9_keep_10 rfl rfl ?_
      obtain ⟨oe6, b4, e6, H5⟩ := H3
      refine z_getP dX9_keep_11 wf_X9_19 (by decide) (by decide) rfl oe6 (fun q => (by cases q.symm.trans e6)) (fun j q => ?_)
      cases q.symm.trans e6
      refine z_iload_n 2 dX9_keep_14 rfl (z_aload_n 0 dX9_keep_15 rfl rfl ?_)
      obtain ⟨oe9, b7, e9, H8⟩ := H5
      refine z_getP dX9_keep_16 wf_X9_19 (by decide) (by decide) rfl oe9 (fun q => (by cases q.symm.trans e9)) (fun j q => ?_)
      cases q.symm.trans e9
      refine z_iload_n 2 dX9_keep_19 rfl ?_
      obtain ⟨w10, c11, H12⟩ := H8
      refine z_stat (As := [.ref b7, .int x2]) (st := [.int x2, .ref b4]) (r1 := (some (.int w10))) (h1 := (g, I, P)) dX9_keep_20 kX11_got wm_X9_77 ⟨by decide, by decide⟩ rfl rfl (Nat.le_of_ble_eq_true rfl) (by decide) (by decide) c11 ?_
      refine z_iload_n 3 dX9_keep_23 rfl (z_iconst (w := 1) dX9_keep_24 (by decide) (z_iadd dX9_keep_25 (z_mmax dX9_keep_26 wm_X9_81 (by decide) (Nat.le_of_ble_eq_true rfl) (by decide) (by decide) w_mxS w_mI w_mxC ?_)))
      obtain ⟨I13, c14, H15⟩ := H12
      refine z_stat (As := [.ref b4, .int x2, .int (zmmax w10 (x3 + 1))]) (st := []) (r1 := none) (h1 := (g, I13, P)) dX9_keep_29 kX11_put wm_X9_73 ⟨by decide, by decide⟩ rfl rfl (Nat.le_of_ble_eq_true rfl) (by decide) (by decide) c14 ?_
      refine z_iload_n 2 dX9_keep_32 rfl ?_
      by_cases q16 : x2 = 0
      · have H17 := H15.1 q16
        have eq16 : (x2 : Int32).toInt = 0 := by rw [q16]; decide
        refine z_tableIn (off := 31) (t := 64) dX9_keep_33 (by rw [eq16]; decide) (by rw [eq16]; decide) (by rw [eq16]; rfl) (by decide) ?_
        refine z_aload_n 1 dX9_keep_64 rfl rfl ?_
        obtain ⟨oe20, b18, e20, H19⟩ := H17
        refine z_getP dX9_keep_65 wf_X9_87 (by decide) (by decide) rfl oe20 (fun q => (by cases q.symm.trans e20)) (fun j q => ?_)
        cases q.symm.trans e20
        refine z_aload_n 0 dX9_keep_68 rfl rfl ?_
        obtain ⟨oe23, b21, e23, H22⟩ := H19
        refine z_getP dX9_keep_69 wf_X9_24 (by decide) (by decide) rfl oe23 (fun q => (by cases q.symm.trans e23)) (fun j q => ?_)
        cases q.symm.trans e23
        refine z_iload_n 3 dX9_keep_72 rfl ?_
        obtain ⟨oe26, pe26, b24, e26, H25⟩ := H22
        refine z_aald dX9_keep_73 oe26 (by decide) (by decide) pe26 (fun q => (by cases q.symm.trans e26)) (fun j q => ?_)
        cases q.symm.trans e26
        obtain ⟨I27, c28, H29⟩ := H25
        refine z_stat (As := [.ref b18, .ref b24]) (st := []) (r1 := none) (h1 := (g, I27, P)) dX9_keep_74 kX3_copy wm_X9_60 ⟨by decide, by decide⟩ rfl rfl (Nat.le_of_ble_eq_true rfl) (by decide) (by decide) c28 ?_
        refine z_goto (t := 128) dX9_keep_77 (by decide) ?_
        obtain ⟨rfl, rfl⟩ := H29
        exact z_vret dX9_keep_128 rfl (by decide) (by decide)
      by_cases q30 : x2 = 1
      · have H31 := H15.2.1 q30
        have eq30 : (x2 : Int32).toInt = 1 := by rw [q30]; decide
        refine z_tableIn (off := 47) (t := 80) dX9_keep_33 (by rw [eq30]; decide) (by rw [eq30]; decide) (by rw [eq30]; rfl) (by decide) ?_
        refine z_aload_n 1 dX9_keep_80 rfl rfl ?_
        obtain ⟨oe34, b32, e34, H33⟩ := H31
        refine z_getP dX9_keep_81 wf_X9_93 (by decide) (by decide) rfl oe34 (fun q => (by cases q.symm.trans e34)) (fun j q => ?_)
        cases q.symm.trans e34
        refine z_aload_n 0 dX9_keep_84 rfl rfl ?_
        obtain ⟨oe37, b35, e37, H36⟩ := H33
        refine z_getP dX9_keep_85 wf_X9_30 (by decide) (by decide) rfl oe37 (fun q => (by cases q.symm.trans e37)) (fun j q => ?_)
        cases q.symm.trans e37
        refine z_iload_n 3 dX9_keep_88 rfl ?_
        obtain ⟨oe40, pe40, b38, e40, H39⟩ := H36
        refine z_aald dX9_keep_89 oe40 (by decide) (by decide) pe40 (fun q => (by cases q.symm.trans e40)) (fun j q => ?_)
        cases q.symm.trans e40
        obtain ⟨I41, c42, H43⟩ := H39
        refine z_stat (As := [.ref b32, .ref b38]) (st := []) (r1 := none) (h1 := (g, I41, P)) dX9_keep_90 kX0_copy wm_X9_64 ⟨by decide, by decide⟩ rfl rfl (Nat.le_of_ble_eq_true rfl) (by decide) (by decide) c42 ?_
        refine z_goto (t := 128) dX9_keep_93 (by decide) ?_
        obtain ⟨rfl, rfl⟩ := H43
        exact z_vret dX9_keep_128 rfl (by decide) (by decide)
      by_cases q44 : x2 = 2
      · have H45 := H15.2.2.1 q44
        have eq44 : (x2 : Int32).toInt = 2 := by rw [q44]; decide
        refine z_tableIn (off := 63) (t := 96) dX9_keep_33 (by rw [eq44]; decide) (by rw [eq44]; decide) (by rw [eq44]; rfl) (by decide) ?_
        refine z_aload_n 1 dX9_keep_96 rfl rfl ?_
        obtain ⟨oe48, b46, e48, H47⟩ := H45
        refine z_getP dX9_keep_97 wf_X9_97 (by decide) (by decide) rfl oe48 (fun q => (by cases q.symm.trans e48)) (fun j q => ?_)
        cases q.symm.trans e48
        refine z_aload_n 0 dX9_keep_100 rfl rfl ?_
        obtain ⟨oe51, b49, e51, H50⟩ := H47
        refine z_getP dX9_keep_101 wf_X9_36 (by decide) (by decide) rfl oe51 (fun q => (by cases q.symm.trans e51)) (fun j q => ?_)
        cases q.symm.trans e51
        refine z_iload_n 3 dX9_keep_104 rfl ?_
        obtain ⟨oe54, pe54, b52, e54, H53⟩ := H50
        refine z_aald dX9_keep_105 oe54 (by decide) (by decide) pe54 (fun q => (by cases q.symm.trans e54)) (fun j q => ?_)
        cases q.symm.trans e54
        obtain ⟨I55, c56, H57⟩ := H53
        refine z_stat (As := [.ref b46, .ref b52]) (st := []) (r1 := none) (h1 := (g, I55, P)) dX9_keep_106 kX4_copy wm_X9_67 ⟨by decide, by decide⟩ rfl rfl (Nat.le_of_ble_eq_true rfl) (by decide) (by decide) c56 ?_
        refine z_goto (t := 128) dX9_keep_109 (by decide) ?_
        obtain ⟨rfl, rfl⟩ := H57
        exact z_vret dX9_keep_128 rfl (by decide) (by decide)
      by_cases q58 : x2 = 3
      · have H59 := H15.2.2.2.1 q58
        have eq58 : (x2 : Int32).toInt = 3 := by rw [q58]; decide
        refine z_tableIn (off := 79) (t := 112) dX9_keep_33 (by rw [eq58]; decide) (by rw [eq58]; decide) (by rw [eq58]; rfl) (by decide) ?_
        refine z_aload_n 1 dX9_keep_112 rfl rfl ?_
        obtain ⟨oe62, b60, e62, H61⟩ := H59
        refine z_getP dX9_keep_113 wf_X9_100 (by decide) (by decide) rfl oe62 (fun q => (by cases q.symm.trans e62)) (fun j q => ?_)
        cases q.symm.trans e62
        refine z_aload_n 0 dX9_keep_116 rfl rfl ?_
        obtain ⟨oe65, b63, e65, H64⟩ := H61
        refine z_getP dX9_keep_117 wf_X9_42 (by decide) (by decide) rfl oe65 (fun q => (by cases q.symm.trans e65)) (fun j q => ?_)
        cases q.symm.trans e65
        refine z_iload_n 3 dX9_keep_120 rfl ?_
        obtain ⟨oe68, pe68, b66, e68, H67⟩ := H64
        refine z_aald dX9_keep_121 oe68 (by decide) (by decide) pe68 (fun q => (by cases q.symm.trans e68)) (fun j q => ?_)
        cases q.symm.trans e68
        obtain ⟨I69, c70, H71⟩ := H67
        refine z_stat (As := [.ref b60, .ref b66]) (st := []) (r1 := none) (h1 := (g, I69, P)) dX9_keep_122 kX5_copy wm_X9_70 ⟨by decide, by decide⟩ rfl rfl (Nat.le_of_ble_eq_true rfl) (by decide) (by decide) c70 ?_
        refine z_goto (t := 128) dX9_keep_125 (by decide) ?_
        obtain ⟨rfl, rfl⟩ := H71
        exact z_vret dX9_keep_128 rfl (by decide) (by decide)
      have H72 := H15.2.2.2.2 q16 q30 q44 q58
      have nq16 := lv_neT q16 (show (0 : Int32).toInt = 0 by decide)
      have nq30 := lv_neT q30 (show (1 : Int32).toInt = 1 by decide)
      have nq44 := lv_neT q44 (show (2 : Int32).toInt = 2 by decide)
      have nq58 := lv_neT q58 (show (3 : Int32).toInt = 3 by decide)
      refine z_tableOut (t := 128) dX9_keep_33 (by omega) (by decide) ?_
      obtain ⟨rfl, rfl⟩ := H72
      exact z_vret dX9_keep_128 rfl (by decide) (by decide)
    · have H73 := H2.2 q
      obtain ⟨rfl, rfl⟩ := H73
      exact z_vret dX9_keep_9 rfl (by decide) (by decide)
theorem eX9_keep {g : zG} {I : Nat → Nat → Int32} {P : Nat → Nat → Option Nat} {r : Option Value} {h' : zH} {a0 : Nat} {a1 : Nat} {x2 : Int32} {x3 : Int32} (H : Zt none mX9_keep 0 0 0 [(0, .ref a0), (1, .ref a1), (2, .int x2), (3, .int x3)] [] (g, I, P) r h') : Cl mX9_keep [.ref a0, .ref a1, .int x2, .int x3] (g, I, P) r h' := Cl.of (by decide) (Nat.le_of_ble_eq_true rfl) H
theorem dX9_hasOne_0 : decode cX9_hasOne 0 = .ok (.iload_n 2, 1) := by decide +kernel
theorem dX9_hasOne_1 : decode cX9_hasOne 1 = .ok (.ifCond .lt 24, 3) := by decide +kernel
theorem dX9_hasOne_4 : decode cX9_hasOne 4 = .ok (.iload_n 2, 1) := by decide +kernel
theorem dX9_hasOne_5 : decode cX9_hasOne 5 = .ok (.aload_n 0, 1) := by decide +kernel
theorem dX9_hasOne_6 : decode cX9_hasOne 6 = .ok (.getfield 19, 3) := by decide +kernel
theorem dX9_hasOne_9 : decode cX9_hasOne 9 = .ok (.iload_n 1, 1) := by decide +kernel
theorem dX9_hasOne_10 : decode cX9_hasOne 10 = .ok (.invokestatic 77, 3) := by decide +kernel
theorem dX9_hasOne_13 : decode cX9_hasOne 13 = .ok (.if_icmp .ge 12, 3) := by decide +kernel
theorem dX9_hasOne_16 : decode cX9_hasOne 16 = .ok (.iload_n 2, 1) := by decide +kernel
theorem dX9_hasOne_17 : decode cX9_hasOne 17 = .ok (.iconst 2, 1) := by decide +kernel
theorem dX9_hasOne_18 : decode cX9_hasOne 18 = .ok (.if_icmp .ge 7, 3) := by decide +kernel
theorem dX9_hasOne_21 : decode cX9_hasOne 21 = .ok (.iconst 1, 1) := by decide +kernel
theorem dX9_hasOne_22 : decode cX9_hasOne 22 = .ok (.goto 4, 3) := by decide +kernel
theorem dX9_hasOne_25 : decode cX9_hasOne 25 = .ok (.iconst 0, 1) := by decide +kernel
theorem dX9_hasOne_26 : decode cX9_hasOne 26 = .ok (.ireturn, 1) := by decide +kernel
set_option maxRecDepth 10000 in
theorem wX9_hasOne_0 {g : zG} {I : Nat → Nat → Int32} {P : Nat → Nat → Option Nat} {r : Option Value} {h' : zH} {a0 : Nat} {x1 : Int32} {x2 : Int32} (H : ((x2 < 0) → r = some (.int 0) ∧ h' = (g, I, P)) ∧ ((¬ x2 < 0) → zk g a0 9 ∧ ∃ b3, P a0 4 = some b3 ∧ ∃ (w6 : Int32), Cl mX11_got [.ref b3, .int x1] (g, I, P) (some (.int w6)) (g, I, P) ∧ ((w6 ≤ x2) → r = some (.int 0) ∧ h' = (g, I, P)) ∧ ((¬ w6 ≤ x2) → ((2 ≤ x2) → r = some (.int 0) ∧ h' = (g, I, P)) ∧ ((¬ 2 ≤ x2) → r = some (.int 1) ∧ h' = (g, I, P))))) : Zt none mX9_hasOne 0 0 0 [(0, .ref a0), (1, .int x1), (2, .int x2)] [] (g, I, P) r h' := by
  refine z_iload_n 2 dX9_hasOne_0 rfl ?_
  refine z_if_lt (t := 25) dX9_hasOne_1 (by decide) (fun q => ?_) (fun q => ?_)
  · have H1 := H.1 q
    refine z_iconst (w := 0) dX9_hasOne_25 (by decide) ?_
    obtain ⟨rfl, rfl⟩ := H1
    exact z_zret dX9_hasOne_26 rfl (Or.inl rfl) (by decide) (by decide)
  · have H2 := H.2 q
    refine z_iload_n 2 dX9_hasOne_4 rfl (z_aload_n 0 dX9_hasOne_5 rfl rfl ?_)
    obtain ⟨oe5, b3, e5, H4⟩ := H2
    refine z_getP dX9_hasOne_6 wf_X9_19 (by decide) (by decide) rfl oe5 (fun q => (by cases q.symm.trans e5)) (fun j q => ?_)
    cases q.symm.trans e5
    refine z_iload_n 1 dX9_hasOne_9 rfl ?_
    obtain ⟨w6, c7, H8⟩ := H4
    refine z_stat (As := [.ref b3, .int x1]) (st := [.int x2]) (r1 := (some (.int w6))) (h1 := (g, I, P)) dX9_hasOne_10 kX11_got wm_X9_77 ⟨by decide, by decide⟩ rfl rfl (Nat.le_of_ble_eq_true rfl) (by decide) (by decide) c7 ?_
    refine z_icmp_ge (t := 25) dX9_hasOne_13 (by decide) (fun q => ?_) (fun q => ?_)
    · have H9 := H8.1 q
      refine z_iconst (w := 0) dX9_hasOne_25 (by decide) ?_
      obtain ⟨rfl, rfl⟩ := H9
      exact z_zret dX9_hasOne_26 rfl (Or.inl rfl) (by decide) (by decide)
    · have H10 := H8.2 q
      refine z_iload_n 2 dX9_hasOne_16 rfl (z_iconst (w := 2) dX9_hasOne_17 (by decide) ?_)
      refine z_icmp_ge (t := 25) dX9_hasOne_18 (by decide) (fun q => ?_) (fun q => ?_)
      · have H11 := H10.1 q
        refine z_iconst (w := 0) dX9_hasOne_25 (by decide) ?_
        obtain ⟨rfl, rfl⟩ := H11
        exact z_zret dX9_hasOne_26 rfl (Or.inl rfl) (by decide) (by decide)
      · have H12 := H10.2 q
        refine z_iconst (w := 1) dX9_hasOne_21 (by decide) (z_goto (t := 26) dX9_hasOne_22 (by decide) ?_)
        obtain ⟨rfl, rfl⟩ := H12
        exact z_zret dX9_hasOne_26 rfl (Or.inr rfl) (by decide) (by decide)
theorem eX9_hasOne {g : zG} {I : Nat → Nat → Int32} {P : Nat → Nat → Option Nat} {r : Option Value} {h' : zH} {a0 : Nat} {x1 : Int32} {x2 : Int32} (H : Zt none mX9_hasOne 0 0 0 [(0, .ref a0), (1, .int x1), (2, .int x2)] [] (g, I, P) r h') : Cl mX9_hasOne [.ref a0, .int x1, .int x2] (g, I, P) r h' := Cl.of (by decide) (Nat.le_of_ble_eq_true rfl) H
theorem dX9_hillOf_0 : decode cX9_hillOf 0 = .ok (.aload_n 0, 1) := by decide +kernel
theorem dX9_hillOf_1 : decode cX9_hillOf 1 = .ok (.iconst 0, 1) := by decide +kernel
theorem dX9_hillOf_2 : decode cX9_hillOf 2 = .ok (.iload_n 1, 1) := by decide +kernel
theorem dX9_hillOf_3 : decode cX9_hillOf 3 = .ok (.invokevirtual 104, 3) := by decide +kernel
theorem dX9_hillOf_6 : decode cX9_hillOf 6 = .ok (.ifCond .eq 12, 3) := by decide +kernel
theorem dX9_hillOf_9 : decode cX9_hillOf 9 = .ok (.aload_n 0, 1) := by decide +kernel
theorem dX9_hillOf_10 : decode cX9_hillOf 10 = .ok (.getfield 24, 3) := by decide +kernel
theorem dX9_hillOf_13 : decode cX9_hillOf 13 = .ok (.iload_n 1, 1) := by decide +kernel
theorem dX9_hillOf_14 : decode cX9_hillOf 14 = .ok (.aaload, 1) := by decide +kernel
theorem dX9_hillOf_15 : decode cX9_hillOf 15 = .ok (.goto 4, 3) := by decide +kernel
theorem dX9_hillOf_18 : decode cX9_hillOf 18 = .ok (.aconst_null, 1) := by decide +kernel
theorem dX9_hillOf_19 : decode cX9_hillOf 19 = .ok (.areturn, 1) := by decide +kernel
set_option maxRecDepth 10000 in
theorem wX9_hillOf_0 {g : zG} {I : Nat → Nat → Int32} {P : Nat → Nat → Option Nat} {r : Option Value} {h' : zH} {a0 : Nat} {x1 : Int32} (H : zk g a0 9 ∧ ∃ (w1 : Int32), Cl mX9_hasOne [.ref a0, .int 0, .int x1] (g, I, P) (some (.int w1)) (g, I, P) ∧ ((w1 = 0) → r = some (.null) ∧ h' = (g, I, P)) ∧ ((¬ w1 = 0) → zk g a0 9 ∧ ∃ b6, P a0 5 = some b6 ∧ zk g b6 16 ∧ vp_in x1 (g.2.2 b6) ∧ ∃ b9, P b6 x1.toNatClampNeg = some b9 ∧ r = some (.ref b9) ∧ h' = (g, I, P))) : Zt none mX9_hillOf 0 0 0 [(0, .ref a0), (1, .int x1)] [] (g, I, P) r h' := by
  refine z_aload_n 0 dX9_hillOf_0 rfl rfl (z_iconst (w := 0) dX9_hillOf_1 (by decide) (z_iload_n 1 dX9_hillOf_2 rfl ?_))
  obtain ⟨oc2, w1, c2, H3⟩ := H
  refine z_virt (As := [.int 0, .int x1]) (st := []) (r1 := (some (.int w1))) (h1 := (g, I, P)) dX9_hillOf_3 kX9_hasOne wm_X9_104 ⟨by decide, by decide⟩ rfl rfl (Nat.le_of_ble_eq_true rfl) (by decide) (by decide) oc2 c2 ?_
  refine z_if_eq (t := 18) dX9_hillOf_6 (by decide) (fun q => ?_) (fun q => ?_)
  · have H4 := H3.1 q
    refine z_null dX9_hillOf_18 ?_
    obtain ⟨rfl, rfl⟩ := H4
    exact z_aret dX9_hillOf_19 rfl rfl (by decide) (by decide)
  · have H5 := H3.2 q
    refine z_aload_n 0 dX9_hillOf_9 rfl rfl ?_
    obtain ⟨oe8, b6, e8, H7⟩ := H5
    refine z_getP dX9_hillOf_10 wf_X9_24 (by decide) (by decide) rfl oe8 (fun q => (by cases q.symm.trans e8)) (fun j q => ?_)
    cases q.symm.trans e8
    refine z_iload_n 1 dX9_hillOf_13 rfl ?_
    obtain ⟨oe11, pe11, b9, e11, H10⟩ := H7
    refine z_aald dX9_hillOf_14 oe11 (by decide) (by decide) pe11 (fun q => (by cases q.symm.trans e11)) (fun j q => ?_)
    cases q.symm.trans e11
    refine z_goto (t := 19) dX9_hillOf_15 (by decide) ?_
    obtain ⟨rfl, rfl⟩ := H10
    exact z_aret dX9_hillOf_19 rfl rfl (by decide) (by decide)
theorem eX9_hillOf {g : zG} {I : Nat → Nat → Int32} {P : Nat → Nat → Option Nat} {r : Option Value} {h' : zH} {a0 : Nat} {x1 : Int32} (H : Zt none mX9_hillOf 0 0 0 [(0, .ref a0), (1, .int x1)] [] (g, I, P) r h') : Cl mX9_hillOf [.ref a0, .int x1] (g, I, P) r h' := Cl.of (by decide) (Nat.le_of_ble_eq_true rfl) H
theorem dX9_centuryOf_0 : decode cX9_centuryOf 0 = .ok (.aload_n 0, 1) := by decide +kernel
theorem dX9_centuryOf_1 : decode cX9_centuryOf 1 = .ok (.iconst 1, 1) := by decide +kernel
theorem dX9_centuryOf_2 : decode cX9_centuryOf 2 = .ok (.iload_n 1, 1) := by decide +kernel
theorem dX9_centuryOf_3 : decode cX9_centuryOf 3 = .ok (.invokevirtual 104, 3) := by decide +kernel
theorem dX9_centuryOf_6 : decode cX9_centuryOf 6 = .ok (.ifCond .eq 12, 3) := by decide +kernel
theorem dX9_centuryOf_9 : decode cX9_centuryOf 9 = .ok (.aload_n 0, 1) := by decide +kernel
theorem dX9_centuryOf_10 : decode cX9_centuryOf 10 = .ok (.getfield 30, 3) := by decide +kernel
theorem dX9_centuryOf_13 : decode cX9_centuryOf 13 = .ok (.iload_n 1, 1) := by decide +kernel
theorem dX9_centuryOf_14 : decode cX9_centuryOf 14 = .ok (.aaload, 1) := by decide +kernel
theorem dX9_centuryOf_15 : decode cX9_centuryOf 15 = .ok (.goto 4, 3) := by decide +kernel
theorem dX9_centuryOf_18 : decode cX9_centuryOf 18 = .ok (.aconst_null, 1) := by decide +kernel
theorem dX9_centuryOf_19 : decode cX9_centuryOf 19 = .ok (.areturn, 1) := by decide +kernel
set_option maxRecDepth 10000 in
theorem wX9_centuryOf_0 {g : zG} {I : Nat → Nat → Int32} {P : Nat → Nat → Option Nat} {r : Option Value} {h' : zH} {a0 : Nat} {x1 : Int32} (H : zk g a0 9 ∧ ∃ (w1 : Int32), Cl mX9_hasOne [.ref a0, .int 1, .int x1] (g, I, P) (some (.int w1)) (g, I, P) ∧ ((w1 = 0) → r = some (.null) ∧ h' = (g, I, P)) ∧ ((¬ w1 = 0) → zk g a0 9 ∧ ∃ b6, P a0 6 = some b6 ∧ zk g b6 15 ∧ vp_in x1 (g.2.2 b6) ∧ ∃ b9, P b6 x1.toNatClampNeg = some b9 ∧ r = some (.ref b9) ∧ h' = (g, I, P))) : Zt none mX9_centuryOf 0 0 0 [(0, .ref a0), (1, .int x1)] [] (g, I, P) r h' := by
  refine z_aload_n 0 dX9_centuryOf_0 rfl rfl (z_iconst (w := 1) dX9_centuryOf_1 (by decide) (z_iload_n 1 dX9_centuryOf_2 rfl ?_))
  obtain ⟨oc2, w1, c2, H3⟩ := H
  refine z_virt (As := [.int 1, .int x1]) (st := []) (r1 := (some (.int w1))) (h1 := (g, I, P)) dX9_centuryOf_3 kX9_hasOne wm_X9_104 ⟨by decide, by decide⟩ rfl rfl (Nat.le_of_ble_eq_true rfl) (by decide) (by decide) oc2 c2 ?_
  refine z_if_eq (t := 18) dX9_centuryOf_6 (by decide) (fun q => ?_) (fun q => ?_)
  · have H4 := H3.1 q
    refine z_null dX9_centuryOf_18 ?_
    obtain ⟨rfl, rfl⟩ := H4
    exact z_aret dX9_centuryOf_19 rfl rfl (by decide) (by decide)
  · have H5 := H3.2 q
    refine z_aload_n 0 dX9_centuryOf_9 rfl rfl ?_
    obtain ⟨oe8, b6, e8, H7⟩ := H5
    refine z_getP dX9_centuryOf_10 wf_X9_30 (by decide) (by decide) rfl oe8 (fun q => (by cases q.symm.trans e8)) (fun j q => ?_)
    cases q.symm.trans e8
    refine z_iload_n 1 dX9_centuryOf_13 rfl ?_
    obtain ⟨oe11, pe11, b9, e11, H10⟩ := H7
    refine z_aald dX9_centuryOf_14 oe11 (by decide) (by decide) pe11 (fun q => (by cases q.symm.trans e11)) (fun j q => ?_)
    cases q.symm.trans e11
    refine z_goto (t := 19) dX9_centuryOf_15 (by decide) ?_
    obtain ⟨rfl, rfl⟩ := H10
    exact z_aret dX9_centuryOf_19 rfl rfl (by decide) (by decide)
theorem eX9_centuryOf {g : zG} {I : Nat → Nat → Int32} {P : Nat → Nat → Option Nat} {r : Option Value} {h' : zH} {a0 : Nat} {x1 : Int32} (H : Zt none mX9_centuryOf 0 0 0 [(0, .ref a0), (1, .int x1)] [] (g, I, P) r h') : Cl mX9_centuryOf [.ref a0, .int x1] (g, I, P) r h' := Cl.of (by decide) (Nat.le_of_ble_eq_true rfl) H
theorem dX9_linesOf_0 : decode cX9_linesOf 0 = .ok (.aload_n 0, 1) := by decide +kernel
theorem dX9_linesOf_1 : decode cX9_linesOf 1 = .ok (.iconst 2, 1) := by decide +kernel
theorem dX9_linesOf_2 : decode cX9_linesOf 2 = .ok (.iload_n 1, 1) := by decide +kernel
theorem dX9_linesOf_3 : decode cX9_linesOf 3 = .ok (.invokevirtual 104, 3) := by decide +kernel
theorem dX9_linesOf_6 : decode cX9_linesOf 6 = .ok (.ifCond .eq 12, 3) := by decide +kernel
theorem dX9_linesOf_9 : decode cX9_linesOf 9 = .ok (.aload_n 0, 1) := by decide +kernel
theorem dX9_linesOf_10 : decode cX9_linesOf 10 = .ok (.getfield 36, 3) := by decide +kernel
theorem dX9_linesOf_13 : decode cX9_linesOf 13 = .ok (.iload_n 1, 1) := by decide +kernel
theorem dX9_linesOf_14 : decode cX9_linesOf 14 = .ok (.aaload, 1) := by decide +kernel
theorem dX9_linesOf_15 : decode cX9_linesOf 15 = .ok (.goto 4, 3) := by decide +kernel
theorem dX9_linesOf_18 : decode cX9_linesOf 18 = .ok (.aconst_null, 1) := by decide +kernel
theorem dX9_linesOf_19 : decode cX9_linesOf 19 = .ok (.areturn, 1) := by decide +kernel
set_option maxRecDepth 10000 in
theorem wX9_linesOf_0 {g : zG} {I : Nat → Nat → Int32} {P : Nat → Nat → Option Nat} {r : Option Value} {h' : zH} {a0 : Nat} {x1 : Int32} (H : zk g a0 9 ∧ ∃ (w1 : Int32), Cl mX9_hasOne [.ref a0, .int 2, .int x1] (g, I, P) (some (.int w1)) (g, I, P) ∧ ((w1 = 0) → r = some (.null) ∧ h' = (g, I, P)) ∧ ((¬ w1 = 0) → zk g a0 9 ∧ ∃ b6, P a0 7 = some b6 ∧ zk g b6 17 ∧ vp_in x1 (g.2.2 b6) ∧ ∃ b9, P b6 x1.toNatClampNeg = some b9 ∧ r = some (.ref b9) ∧ h' = (g, I, P))) : Zt none mX9_linesOf 0 0 0 [(0, .ref a0), (1, .int x1)] [] (g, I, P) r h' := by
  refine z_aload_n 0 dX9_linesOf_0 rfl rfl (z_iconst (w := 2) dX9_linesOf_1 (by decide) (z_iload_n 1 dX9_linesOf_2 rfl ?_))
  obtain ⟨oc2, w1, c2, H3⟩ := H
  refine z_virt (As := [.int 2, .int x1]) (st := []) (r1 := (some (.int w1))) (h1 := (g, I, P)) dX9_linesOf_3 kX9_hasOne wm_X9_104 ⟨by decide, by decide⟩ rfl rfl (Nat.le_of_ble_eq_true rfl) (by decide) (by decide) oc2 c2 ?_
  refine z_if_eq (t := 18) dX9_linesOf_6 (by decide) (fun q => ?_) (fun q => ?_)
  · have H4 := H3.1 q
    refine z_null dX9_linesOf_18 ?_
    obtain ⟨rfl, rfl⟩ := H4
    exact z_aret dX9_linesOf_19 rfl rfl (by decide) (by decide)
  · have H5 := H3.2 q
    refine z_aload_n 0 dX9_linesOf_9 rfl rfl ?_
    obtain ⟨oe8, b6, e8, H7⟩ := H5
    refine z_getP dX9_linesOf_10 wf_X9_36 (by decide) (by decide) rfl oe8 (fun q => (by cases q.symm.trans e8)) (fun j q => ?_)
    cases q.symm.trans e8
    refine z_iload_n 1 dX9_linesOf_13 rfl ?_
    obtain ⟨oe11, pe11, b9, e11, H10⟩ := H7
    refine z_aald dX9_linesOf_14 oe11 (by decide) (by decide) pe11 (fun q => (by cases q.symm.trans e11)) (fun j q => ?_)
    cases q.symm.trans e11
    refine z_goto (t := 19) dX9_linesOf_15 (by decide) ?_
    obtain ⟨rfl, rfl⟩ := H10
    exact z_aret dX9_linesOf_19 rfl rfl (by decide) (by decide)
theorem eX9_linesOf {g : zG} {I : Nat → Nat → Int32} {P : Nat → Nat → Option Nat} {r : Option Value} {h' : zH} {a0 : Nat} {x1 : Int32} (H : Zt none mX9_linesOf 0 0 0 [(0, .ref a0), (1, .int x1)] [] (g, I, P) r h') : Cl mX9_linesOf [.ref a0, .int x1] (g, I, P) r h' := Cl.of (by decide) (Nat.le_of_ble_eq_true rfl) H
theorem dX9_logOf_0 : decode cX9_logOf 0 = .ok (.aload_n 0, 1) := by decide +kernel
theorem dX9_logOf_1 : decode cX9_logOf 1 = .ok (.iconst 3, 1) := by decide +kernel
theorem dX9_logOf_2 : decode cX9_logOf 2 = .ok (.iload_n 1, 1) := by decide +kernel
theorem dX9_logOf_3 : decode cX9_logOf 3 = .ok (.invokevirtual 104, 3) := by decide +kernel
theorem dX9_logOf_6 : decode cX9_logOf 6 = .ok (.ifCond .eq 12, 3) := by decide +kernel
theorem dX9_logOf_9 : decode cX9_logOf 9 = .ok (.aload_n 0, 1) := by decide +kernel
theorem dX9_logOf_10 : decode cX9_logOf 10 = .ok (.getfield 42, 3) := by decide +kernel
theorem dX9_logOf_13 : decode cX9_logOf 13 = .ok (.iload_n 1, 1) := by decide +kernel
theorem dX9_logOf_14 : decode cX9_logOf 14 = .ok (.aaload, 1) := by decide +kernel
theorem dX9_logOf_15 : decode cX9_logOf 15 = .ok (.goto 4, 3) := by decide +kernel
theorem dX9_logOf_18 : decode cX9_logOf 18 = .ok (.aconst_null, 1) := by decide +kernel
theorem dX9_logOf_19 : decode cX9_logOf 19 = .ok (.areturn, 1) := by decide +kernel
set_option maxRecDepth 10000 in
theorem wX9_logOf_0 {g : zG} {I : Nat → Nat → Int32} {P : Nat → Nat → Option Nat} {r : Option Value} {h' : zH} {a0 : Nat} {x1 : Int32} (H : zk g a0 9 ∧ ∃ (w1 : Int32), Cl mX9_hasOne [.ref a0, .int 3, .int x1] (g, I, P) (some (.int w1)) (g, I, P) ∧ ((w1 = 0) → r = some (.null) ∧ h' = (g, I, P)) ∧ ((¬ w1 = 0) → zk g a0 9 ∧ ∃ b6, P a0 8 = some b6 ∧ zk g b6 18 ∧ vp_in x1 (g.2.2 b6) ∧ ∃ b9, P b6 x1.toNatClampNeg = some b9 ∧ r = some (.ref b9) ∧ h' = (g, I, P))) : Zt none mX9_logOf 0 0 0 [(0, .ref a0), (1, .int x1)] [] (g, I, P) r h' := by
  refine z_aload_n 0 dX9_logOf_0 rfl rfl (z_iconst (w := 3) dX9_logOf_1 (by decide) (z_iload_n 1 dX9_logOf_2 rfl ?_))
  obtain ⟨oc2, w1, c2, H3⟩ := H
  refine z_virt (As := [.int 3, .int x1]) (st := []) (r1 := (some (.int w1))) (h1 := (g, I, P)) dX9_logOf_3 kX9_hasOne wm_X9_104 ⟨by decide, by decide⟩ rfl rfl (Nat.le_of_ble_eq_true rfl) (by decide) (by decide) oc2 c2 ?_
  refine z_if_eq (t := 18) dX9_logOf_6 (by decide) (fun q => ?_) (fun q => ?_)
  · have H4 := H3.1 q
    refine z_null dX9_logOf_18 ?_
    obtain ⟨rfl, rfl⟩ := H4
    exact z_aret dX9_logOf_19 rfl rfl (by decide) (by decide)
  · have H5 := H3.2 q
    refine z_aload_n 0 dX9_logOf_9 rfl rfl ?_
    obtain ⟨oe8, b6, e8, H7⟩ := H5
    refine z_getP dX9_logOf_10 wf_X9_42 (by decide) (by decide) rfl oe8 (fun q => (by cases q.symm.trans e8)) (fun j q => ?_)
    cases q.symm.trans e8
    refine z_iload_n 1 dX9_logOf_13 rfl ?_
    obtain ⟨oe11, pe11, b9, e11, H10⟩ := H7
    refine z_aald dX9_logOf_14 oe11 (by decide) (by decide) pe11 (fun q => (by cases q.symm.trans e11)) (fun j q => ?_)
    cases q.symm.trans e11
    refine z_goto (t := 19) dX9_logOf_15 (by decide) ?_
    obtain ⟨rfl, rfl⟩ := H10
    exact z_aret dX9_logOf_19 rfl rfl (by decide) (by decide)
theorem eX9_logOf {g : zG} {I : Nat → Nat → Int32} {P : Nat → Nat → Option Nat} {r : Option Value} {h' : zH} {a0 : Nat} {x1 : Int32} (H : Zt none mX9_logOf 0 0 0 [(0, .ref a0), (1, .int x1)] [] (g, I, P) r h') : Cl mX9_logOf [.ref a0, .int x1] (g, I, P) r h' := Cl.of (by decide) (Nat.le_of_ble_eq_true rfl) H
theorem dJ6_bitCount_0f7a4_0 : decode cJ6_bitCount_0f7a4 0 = .ok (.iload_n 0, 1) := by decide +kernel
theorem dJ6_bitCount_0f7a4_1 : decode cJ6_bitCount_0f7a4 1 = .ok (.iload_n 0, 1) := by decide +kernel
theorem dJ6_bitCount_0f7a4_2 : decode cJ6_bitCount_0f7a4 2 = .ok (.iconst 1, 1) := by decide +kernel
theorem dJ6_bitCount_0f7a4_3 : decode cJ6_bitCount_0f7a4 3 = .ok (.iushr, 1) := by decide +kernel
theorem dJ6_bitCount_0f7a4_4 : decode cJ6_bitCount_0f7a4 4 = .ok (.ldc_w 265, 3) := by decide +kernel
theorem dJ6_bitCount_0f7a4_7 : decode cJ6_bitCount_0f7a4 7 = .ok (.iand, 1) := by decide +kernel
theorem dJ6_bitCount_0f7a4_8 : decode cJ6_bitCount_0f7a4 8 = .ok (.isub, 1) := by decide +kernel
theorem dJ6_bitCount_0f7a4_9 : decode cJ6_bitCount_0f7a4 9 = .ok (.istore_n 0, 1) := by decide +kernel
theorem dJ6_bitCount_0f7a4_10 : decode cJ6_bitCount_0f7a4 10 = .ok (.iload_n 0, 1) := by decide +kernel
theorem dJ6_bitCount_0f7a4_11 : decode cJ6_bitCount_0f7a4 11 = .ok (.ldc_w 266, 3) := by decide +kernel
theorem dJ6_bitCount_0f7a4_14 : decode cJ6_bitCount_0f7a4 14 = .ok (.iand, 1) := by decide +kernel
theorem dJ6_bitCount_0f7a4_15 : decode cJ6_bitCount_0f7a4 15 = .ok (.iload_n 0, 1) := by decide +kernel
theorem dJ6_bitCount_0f7a4_16 : decode cJ6_bitCount_0f7a4 16 = .ok (.iconst 2, 1) := by decide +kernel
theorem dJ6_bitCount_0f7a4_17 : decode cJ6_bitCount_0f7a4 17 = .ok (.iushr, 1) := by decide +kernel
theorem dJ6_bitCount_0f7a4_18 : decode cJ6_bitCount_0f7a4 18 = .ok (.ldc_w 266, 3) := by decide +kernel
theorem dJ6_bitCount_0f7a4_21 : decode cJ6_bitCount_0f7a4 21 = .ok (.iand, 1) := by decide +kernel
theorem dJ6_bitCount_0f7a4_22 : decode cJ6_bitCount_0f7a4 22 = .ok (.iadd, 1) := by decide +kernel
theorem dJ6_bitCount_0f7a4_23 : decode cJ6_bitCount_0f7a4 23 = .ok (.istore_n 0, 1) := by decide +kernel
theorem dJ6_bitCount_0f7a4_24 : decode cJ6_bitCount_0f7a4 24 = .ok (.iload_n 0, 1) := by decide +kernel
theorem dJ6_bitCount_0f7a4_25 : decode cJ6_bitCount_0f7a4 25 = .ok (.iload_n 0, 1) := by decide +kernel
theorem dJ6_bitCount_0f7a4_26 : decode cJ6_bitCount_0f7a4 26 = .ok (.iconst 4, 1) := by decide +kernel
theorem dJ6_bitCount_0f7a4_27 : decode cJ6_bitCount_0f7a4 27 = .ok (.iushr, 1) := by decide +kernel
theorem dJ6_bitCount_0f7a4_28 : decode cJ6_bitCount_0f7a4 28 = .ok (.iadd, 1) := by decide +kernel
theorem dJ6_bitCount_0f7a4_29 : decode cJ6_bitCount_0f7a4 29 = .ok (.ldc_w 267, 3) := by decide +kernel
theorem dJ6_bitCount_0f7a4_32 : decode cJ6_bitCount_0f7a4 32 = .ok (.iand, 1) := by decide +kernel
theorem dJ6_bitCount_0f7a4_33 : decode cJ6_bitCount_0f7a4 33 = .ok (.istore_n 0, 1) := by decide +kernel
theorem dJ6_bitCount_0f7a4_34 : decode cJ6_bitCount_0f7a4 34 = .ok (.iload_n 0, 1) := by decide +kernel
theorem dJ6_bitCount_0f7a4_35 : decode cJ6_bitCount_0f7a4 35 = .ok (.iload_n 0, 1) := by decide +kernel
theorem dJ6_bitCount_0f7a4_36 : decode cJ6_bitCount_0f7a4 36 = .ok (.bipush 8, 2) := by decide +kernel
theorem dJ6_bitCount_0f7a4_38 : decode cJ6_bitCount_0f7a4 38 = .ok (.iushr, 1) := by decide +kernel
theorem dJ6_bitCount_0f7a4_39 : decode cJ6_bitCount_0f7a4 39 = .ok (.iadd, 1) := by decide +kernel
theorem dJ6_bitCount_0f7a4_40 : decode cJ6_bitCount_0f7a4 40 = .ok (.istore_n 0, 1) := by decide +kernel
theorem dJ6_bitCount_0f7a4_41 : decode cJ6_bitCount_0f7a4 41 = .ok (.iload_n 0, 1) := by decide +kernel
theorem dJ6_bitCount_0f7a4_42 : decode cJ6_bitCount_0f7a4 42 = .ok (.iload_n 0, 1) := by decide +kernel
theorem dJ6_bitCount_0f7a4_43 : decode cJ6_bitCount_0f7a4 43 = .ok (.bipush 16, 2) := by decide +kernel
theorem dJ6_bitCount_0f7a4_45 : decode cJ6_bitCount_0f7a4 45 = .ok (.iushr, 1) := by decide +kernel
theorem dJ6_bitCount_0f7a4_46 : decode cJ6_bitCount_0f7a4 46 = .ok (.iadd, 1) := by decide +kernel
theorem dJ6_bitCount_0f7a4_47 : decode cJ6_bitCount_0f7a4 47 = .ok (.istore_n 0, 1) := by decide +kernel
theorem dJ6_bitCount_0f7a4_48 : decode cJ6_bitCount_0f7a4 48 = .ok (.iload_n 0, 1) := by decide +kernel
theorem dJ6_bitCount_0f7a4_49 : decode cJ6_bitCount_0f7a4 49 = .ok (.bipush 63, 2) := by decide +kernel
theorem dJ6_bitCount_0f7a4_51 : decode cJ6_bitCount_0f7a4 51 = .ok (.iand, 1) := by decide +kernel
theorem dJ6_bitCount_0f7a4_52 : decode cJ6_bitCount_0f7a4 52 = .ok (.ireturn, 1) := by decide +kernel
set_option maxRecDepth 10000 in
theorem wJ6_bitCount_0f7a4_0 {g : zG} {I : Nat → Nat → Int32} {P : Nat → Nat → Option Nat} {r : Option Value} {h' : zH} {x0 : Int32} (H : ∀ y1 : Int32, y1 = x0 - ((zus x0 1) &&& 1431655765) → ∀ y3 : Int32, y3 = (y1 &&& 858993459) + ((zus y1 2) &&& 858993459) → ∀ y5 : Int32, y5 = (y3 + (zus y3 4)) &&& 252645135 → ∀ y7 : Int32, y7 = (y5 + (zus y5 8)) + (zus (y5 + (zus y5 8)) 16) → r = some (.int (y7 &&& 63)) ∧ h' = (g, I, P)) : Zt none mJ6_bitCount_0f7a4 0 0 0 [(0, .int x0)] [] (g, I, P) r h' := by
  refine z_iload_n 0 dJ6_bitCount_0f7a4_0 rfl (z_iload_n 0 dJ6_bitCount_0f7a4_1 rfl (z_iconst (w := 1) dJ6_bitCount_0f7a4_2 (by decide) (z_iushr dJ6_bitCount_0f7a4_3 (z_ldcw dJ6_bitCount_0f7a4_4 wk_J6_265 (z_iand dJ6_bitCount_0f7a4_7 (z_isub dJ6_bitCount_0f7a4_8 ?_))))))
  refine z_nm (fun y1 e_y1 => ?_)
  have H2 := H y1 e_y1
  refine z_istore_n (lv' := [(0, .int y1)]) dJ6_bitCount_0f7a4_9 (by decide) rfl (z_iload_n 0 dJ6_bitCount_0f7a4_10 rfl (z_ldcw dJ6_bitCount_0f7a4_11 wk_J6_266 (z_iand dJ6_bitCount_0f7a4_14 (z_iload_n 0 dJ6_bitCount_0f7a4_15 rfl (z_iconst (w := 2) dJ6_bitCount_0f7a4_16 (by decide) (z_iushr dJ6_bitCount_0f7a4_17 (z_ldcw dJ6_bitCount_0f7a4_18 wk_J6_266 (z_iand dJ6_bitCount_0f7a4_21 (z_iadd dJ6_bitCount_0f7a4_22 ?_)))))))))
  refine z_nm (fun y3 e_y3 => ?_)
  have H4 := H2 y3 e_y3
  refine z_istore_n (lv' := [(0, .int y3)]) dJ6_bitCount_0f7a4_23 (by decide) rfl (z_iload_n 0 dJ6_bitCount_0f7a4_24 rfl (z_iload_n 0 dJ6_bitCount_0f7a4_25 rfl (z_iconst (w := 4) dJ6_bitCount_0f7a4_26 (by decide) (z_iushr dJ6_bitCount_0f7a4_27 (z_iadd dJ6_bitCount_0f7a4_28 (z_ldcw dJ6_bitCount_0f7a4_29 wk_J6_267 (z_iand dJ6_bitCount_0f7a4_32 ?_)))))))
  refine z_nm (fun y5 e_y5 => ?_)
  have H6 := H4 y5 e_y5
  refine z_istore_n (lv' := [(0, .int y5)]) dJ6_bitCount_0f7a4_33 (by decide) rfl (z_iload_n 0 dJ6_bitCount_0f7a4_34 rfl (z_iload_n 0 dJ6_bitCount_0f7a4_35 rfl (z_bipush (w := 8) dJ6_bitCount_0f7a4_36 (by decide) (z_iushr dJ6_bitCount_0f7a4_38 (z_iadd dJ6_bitCount_0f7a4_39 (z_istore_n (lv' := [(0, .int (y5 + (zus y5 8)))]) dJ6_bitCount_0f7a4_40 (by decide) rfl (z_iload_n 0 dJ6_bitCount_0f7a4_41 rfl (z_iload_n 0 dJ6_bitCount_0f7a4_42 rfl (z_bipush (w := 16) dJ6_bitCount_0f7a4_43 (by decide) (z_iushr dJ6_bitCount_0f7a4_45 (z_iadd dJ6_bitCount_0f7a4_46 ?_)))))))))))
  refine z_nm (fun y7 e_y7 => ?_)
  have H8 := H6 y7 e_y7
  refine z_istore_n (lv' := [(0, .int y7)]) dJ6_bitCount_0f7a4_47 (by decide) rfl (z_iload_n 0 dJ6_bitCount_0f7a4_48 rfl (z_bipush (w := 63) dJ6_bitCount_0f7a4_49 (by decide) (z_iand dJ6_bitCount_0f7a4_51 ?_)))
  obtain ⟨rfl, rfl⟩ := H8
  exact z_iret dJ6_bitCount_0f7a4_52 rfl (by decide) (by decide)
theorem eJ6_bitCount_0f7a4 {g : zG} {I : Nat → Nat → Int32} {P : Nat → Nat → Option Nat} {r : Option Value} {h' : zH} {x0 : Int32} (H : Zt none mJ6_bitCount_0f7a4 0 0 0 [(0, .int x0)] [] (g, I, P) r h') : Cl mJ6_bitCount_0f7a4 [.int x0] (g, I, P) r h' := Cl.of (by decide) (Nat.le_of_ble_eq_true rfl) H
theorem dJ7_fill_53178_0 : decode cJ7_fill_53178 0 = .ok (.iconst 0, 1) := by decide +kernel
theorem dJ7_fill_53178_1 : decode cJ7_fill_53178 1 = .ok (.istore_n 2, 1) := by decide +kernel
theorem dJ7_fill_53178_2 : decode cJ7_fill_53178 2 = .ok (.aload_n 0, 1) := by decide +kernel
theorem dJ7_fill_53178_3 : decode cJ7_fill_53178 3 = .ok (.arraylength, 1) := by decide +kernel
theorem dJ7_fill_53178_4 : decode cJ7_fill_53178 4 = .ok (.istore_n 3, 1) := by decide +kernel
theorem dJ7_fill_53178_5 : decode cJ7_fill_53178 5 = .ok (.iload_n 2, 1) := by decide +kernel
theorem dJ7_fill_53178_6 : decode cJ7_fill_53178 6 = .ok (.iload_n 3, 1) := by decide +kernel
theorem dJ7_fill_53178_7 : decode cJ7_fill_53178 7 = .ok (.if_icmp .ge 13, 3) := by decide +kernel
theorem dJ7_fill_53178_10 : decode cJ7_fill_53178 10 = .ok (.aload_n 0, 1) := by decide +kernel
theorem dJ7_fill_53178_11 : decode cJ7_fill_53178 11 = .ok (.iload_n 2, 1) := by decide +kernel
theorem dJ7_fill_53178_12 : decode cJ7_fill_53178 12 = .ok (.iload_n 1, 1) := by decide +kernel
theorem dJ7_fill_53178_13 : decode cJ7_fill_53178 13 = .ok (.iastore, 1) := by decide +kernel
theorem dJ7_fill_53178_14 : decode cJ7_fill_53178 14 = .ok (.iinc 2 1, 3) := by decide +kernel
theorem dJ7_fill_53178_17 : decode cJ7_fill_53178 17 = .ok (.goto (-12), 3) := by decide +kernel
theorem dJ7_fill_53178_20 : decode cJ7_fill_53178 20 = .ok (.return_, 1) := by decide +kernel
set_option maxRecDepth 10000 in
theorem wJ7_fill_53178_0 {g : zG} {I : Nat → Nat → Int32} {P : Nat → Nat → Option Nat} {r : Option Value} {h' : zH} {a0 : Nat} {x1 : Int32} (H : zk g a0 13 ∧ Zt none mJ7_fill_53178 0 0 5 [(0, .ref a0), (1, .int x1), (2, .int 0), (3, .int (Int32.ofNat (g.2.2 a0)))] [] (g, I, P) r h') : Zt none mJ7_fill_53178 0 0 0 [(0, .ref a0), (1, .int x1)] [] (g, I, P) r h' := by
  refine z_iconst (w := 0) dJ7_fill_53178_0 (by decide) (z_istore_n (lv' := [(2, .int 0), (0, .ref a0), (1, .int x1)]) dJ7_fill_53178_1 (by decide) rfl (z_aload_n 1 dJ7_fill_53178_2 rfl rfl (z_alen dJ7_fill_53178_3 H.1 (by decide) (by decide) (z_istore_n (lv' := [(3, .int (Int32.ofNat (g.2.2 a0))), (2, .int 0), (0, .ref a0), (1, .int x1)]) dJ7_fill_53178_4 (by decide) rfl ?_))))
  exact z_less [2, 3, 1, 0] rfl H.2
theorem eJ7_fill_53178 {g : zG} {I : Nat → Nat → Int32} {P : Nat → Nat → Option Nat} {r : Option Value} {h' : zH} {a0 : Nat} {x1 : Int32} (H : Zt none mJ7_fill_53178 0 0 0 [(0, .ref a0), (1, .int x1)] [] (g, I, P) r h') : Cl mJ7_fill_53178 [.ref a0, .int x1] (g, I, P) r h' := Cl.of (by decide) (Nat.le_of_ble_eq_true rfl) H
set_option maxRecDepth 10000 in
theorem wJ7_fill_53178_5 {g : zG} {I : Nat → Nat → Int32} {P : Nat → Nat → Option Nat} {r : Option Value} {h' : zH} {a0 : Nat} {x1 : Int32} {x2 : Int32} {x3 : Int32} (H : ((x3 ≤ x2) → r = none ∧ h' = (g, I, P)) ∧ ((¬ x3 ≤ x2) → zk g a0 13 ∧ vp_in x2 (g.2.2 a0) ∧ Zt none mJ7_fill_53178 0 0 5 [(0, .ref a0), (1, .int x1), (2, .int (x2 + 1)), (3, .int x3)] [] (g, zU I a0 x2.toNatClampNeg x1, P) r h')) : Zt none mJ7_fill_53178 0 0 5 [(0, .ref a0), (1, .int x1), (2, .int x2), (3, .int x3)] [] (g, I, P) r h' := by
  refine z_iload_n 2 dJ7_fill_53178_5 rfl (z_iload_n 3 dJ7_fill_53178_6 rfl ?_)
  refine z_icmp_ge (t := 20) dJ7_fill_53178_7 (by decide) (fun q => ?_) (fun q => ?_)
  · have H1 := H.1 q
    obtain ⟨rfl, rfl⟩ := H1
    exact z_vret dJ7_fill_53178_20 rfl (by decide) (by decide)
  · have H2 := H.2 q
    refine z_aload_n 0 dJ7_fill_53178_10 rfl rfl (z_iload_n 2 dJ7_fill_53178_11 rfl (z_iload_n 1 dJ7_fill_53178_12 rfl (z_iast (g := g) (I := I) (Q := P) dJ7_fill_53178_13 H2.1 H2.2.1 (z_iinc (y := x2 + 1) (lv' := [(2, .int (x2 + 1)), (0, .ref a0), (1, .int x1), (3, .int x3)]) 2 dJ7_fill_53178_14 rfl rfl (by decide) rfl (z_goto (t := 5) dJ7_fill_53178_17 (by decide) ?_)))))
    exact z_less [1, 2, 0, 3] rfl H2.2.2
