theorem dX1_hears_0 : decode cX1_hears 0 = .ok (.aload_n 1, 1) := by decide +kernel
theorem dX1_hears_1 : decode cX1_hears 1 = .ok (.ifnull 15, 3) := by decide +kernel
theorem dX1_hears_4 : decode cX1_hears 4 = .ok (.aload_n 2, 1) := by decide +kernel
theorem dX1_hears_5 : decode cX1_hears 5 = .ok (.ifnull 11, 3) := by decide +kernel
theorem dX1_hears_8 : decode cX1_hears 8 = .ok (.aload_n 2, 1) := by decide +kernel
theorem dX1_hears_9 : decode cX1_hears 9 = .ok (.iload_n 3, 1) := by decide +kernel
theorem dX1_hears_10 : decode cX1_hears 10 = .ok (.invokevirtual 28, 3) := by decide +kernel
theorem dX1_hears_13 : decode cX1_hears 13 = .ok (.ifCond .ne 5, 3) := by decide +kernel
theorem dX1_hears_16 : decode cX1_hears 16 = .ok (.iconst 0, 1) := by decide +kernel
theorem dX1_hears_17 : decode cX1_hears 17 = .ok (.ireturn, 1) := by decide +kernel
theorem dX1_hears_18 : decode cX1_hears 18 = .ok (.aload_n 0, 1) := by decide +kernel
theorem dX1_hears_19 : decode cX1_hears 19 = .ok (.aload_n 1, 1) := by decide +kernel
theorem dX1_hears_20 : decode cX1_hears 20 = .ok (.putfield 12, 3) := by decide +kernel
theorem dX1_hears_23 : decode cX1_hears 23 = .ok (.aload_n 0, 1) := by decide +kernel
theorem dX1_hears_24 : decode cX1_hears 24 = .ok (.aload_n 2, 1) := by decide +kernel
theorem dX1_hears_25 : decode cX1_hears 25 = .ok (.getfield 34, 3) := by decide +kernel
theorem dX1_hears_28 : decode cX1_hears 28 = .ok (.iload_n 3, 1) := by decide +kernel
theorem dX1_hears_29 : decode cX1_hears 29 = .ok (.invokestatic 37, 3) := by decide +kernel
theorem dX1_hears_32 : decode cX1_hears 32 = .ok (.putfield 41, 3) := by decide +kernel
theorem dX1_hears_35 : decode cX1_hears 35 = .ok (.iconst 0, 1) := by decide +kernel
theorem dX1_hears_36 : decode cX1_hears 36 = .ok (.istore 4, 2) := by decide +kernel
theorem dX1_hears_38 : decode cX1_hears 38 = .ok (.iload 4, 2) := by decide +kernel
theorem dX1_hears_40 : decode cX1_hears 40 = .ok (.aload_n 0, 1) := by decide +kernel
theorem dX1_hears_41 : decode cX1_hears 41 = .ok (.getfield 41, 3) := by decide +kernel
theorem dX1_hears_44 : decode cX1_hears 44 = .ok (.if_icmp .ge 25, 3) := by decide +kernel
theorem dX1_hears_47 : decode cX1_hears 47 = .ok (.aload_n 0, 1) := by decide +kernel
theorem dX1_hears_48 : decode cX1_hears 48 = .ok (.getfield 18, 3) := by decide +kernel
theorem dX1_hears_51 : decode cX1_hears 51 = .ok (.iload 4, 2) := by decide +kernel
theorem dX1_hears_53 : decode cX1_hears 53 = .ok (.aload_n 2, 1) := by decide +kernel
theorem dX1_hears_54 : decode cX1_hears 54 = .ok (.iload_n 3, 1) := by decide +kernel
theorem dX1_hears_55 : decode cX1_hears 55 = .ok (.iload 4, 2) := by decide +kernel
theorem dX1_hears_57 : decode cX1_hears 57 = .ok (.invokevirtual 45, 3) := by decide +kernel
theorem dX1_hears_60 : decode cX1_hears 60 = .ok (.invokestatic 49, 3) := by decide +kernel
theorem dX1_hears_63 : decode cX1_hears 63 = .ok (.iinc 4 1, 3) := by decide +kernel
theorem dX1_hears_66 : decode cX1_hears 66 = .ok (.goto (-28), 3) := by decide +kernel
theorem dX1_hears_69 : decode cX1_hears 69 = .ok (.iconst 1, 1) := by decide +kernel
theorem dX1_hears_70 : decode cX1_hears 70 = .ok (.ireturn, 1) := by decide +kernel
set_option maxRecDepth 10000 in
theorem wX1_hears_0 {g : zG} {I : Nat → Nat → Int32} {P : Nat → Nat → Option Nat} {r : Option Value} {h' : zH} {a0 : Nat} {a1 : Nat} {a2 : Nat} {x3 : Int32} (H : zk g a2 4 ∧ ∃ (w1 : Int32), Cl mX4_hasLine [.ref a2, .int x3] (g, I, P) (some (.int w1)) (g, I, P) ∧ ((¬ w1 = 0) → zk g a0 1 ∧ zk g a2 4 ∧ ∃ b5, (zU P a0 0 (some a1)) a2 1 = some b5 ∧ ∃ (w8 : Int32), Cl mX11_got [.ref b5, .int x3] (g, I, zU P a0 0 (some a1)) (some (.int w8)) (g, I, zU P a0 0 (some a1)) ∧ zk g a0 1 ∧ Zt none mX1_hears 0 0 38 [(0, .ref a0), (2, .ref a2), (3, .int x3), (4, .int 0)] [] (g, zU I a0 1 w8, zU P a0 0 (some a1)) r h') ∧ ((w1 = 0) → r = some (.int 0) ∧ h' = (g, I, P))) : Zt none mX1_hears 0 0 0 [(0, .ref a0), (1, .ref a1), (2, .ref a2), (3, .int x3)] [] (g, I, P) r h' := by
  refine z_aload_n 1 dX1_hears_0 rfl rfl (z_ifnullR dX1_hears_1 (z_aload_n 2 dX1_hears_4 rfl rfl (z_ifnullR dX1_hears_5 (z_aload_n 2 dX1_hears_8 rfl rfl (z_iload_n 3 dX1_hears_9 rfl ?_)))))
  obtain ⟨oc2, w1, c2, H3⟩ := H
  refine z_virt (As := [.int x3]) (st := []) (r1 := (some (.int w1))) (h1 := (g, I, P)) dX1_hears_10 kX4_hasLine wm_X1_28 ⟨by decide, by decide⟩ rfl rfl (Nat.le_of_ble_eq_true rfl) (by decide) (by decide) oc2 c2 ?_
  refine z_if_ne (t := 18) dX1_hears_13 (by decide) (fun q => ?_) (fun q => ?_)
  · have H4 := H3.1 q
    refine z_aload_n 0 dX1_hears_18 rfl rfl (z_aload_n 1 dX1_hears_19 rfl rfl (z_putP (g := g) (I := I) (Q := P) dX1_hears_20 wf_X1_12 (by decide) (by decide) rfl (Or.inl rfl) H4.1 (z_aload_n 0 dX1_hears_23 rfl rfl (z_aload_n 2 dX1_hears_24 rfl rfl ?_))))
    obtain ⟨oe7, b5, e7, H6⟩ := H4.2
    refine z_getP dX1_hears_25 wf_X1_34 (by decide) (by decide) rfl oe7 (fun q => (by cases q.symm.trans e7)) (fun j q => ?_)
    cases q.symm.trans e7
    refine z_iload_n 3 dX1_hears_28 rfl ?_
    obtain ⟨w8, c9, H10⟩ := H6
    refine z_stat (As := [.ref b5, .int x3]) (st := [.ref a0]) (r1 := (some (.int w8))) (h1 := (g, I, zU P a0 0 (some a1))) dX1_hears_29 kX11_got wm_X1_37 ⟨by decide, by decide⟩ rfl rfl (Nat.le_of_ble_eq_true rfl) (by decide) (by decide) c9 ?_
    refine z_putI (g := g) (I := I) (Q := zU P a0 0 (some a1)) dX1_hears_32 wf_X1_41 (by decide) (by decide) rfl (Or.inl rfl) (zfit_int rfl) H10.1 (z_iconst (w := 0) dX1_hears_35 (by decide) (z_istore (lv' := [(4, .int 0), (0, .ref a0), (1, .ref a1), (2, .ref a2), (3, .int x3)]) dX1_hears_36 (by decide) rfl ?_))
    exact z_less [1, 3, 4, 0] rfl H10.2
  · have H11 := H3.2 q
    refine z_iconst (w := 0) dX1_hears_16 (by decide) ?_
    obtain ⟨rfl, rfl⟩ := H11
    exact z_zret dX1_hears_17 rfl (Or.inl rfl) (by decide) (by decide)
theorem eX1_hears {g : zG} {I : Nat → Nat → Int32} {P : Nat → Nat → Option Nat} {r : Option Value} {h' : zH} {a0 : Nat} {a1 : Nat} {a2 : Nat} {x3 : Int32} (H : Zt none mX1_hears 0 0 0 [(0, .ref a0), (1, .ref a1), (2, .ref a2), (3, .int x3)] [] (g, I, P) r h') : Cl mX1_hears [.ref a0, .ref a1, .ref a2, .int x3] (g, I, P) r h' := Cl.of (by decide) (Nat.le_of_ble_eq_true rfl) H
set_option maxRecDepth 10000 in
theorem wX1_hears_38 {g : zG} {I : Nat → Nat → Int32} {P : Nat → Nat → Option Nat} {r : Option Value} {h' : zH} {a0 : Nat} {a2 : Nat} {x3 : Int32} {x4 : Int32} (H : zk g a0 1 ∧ ((I a0 1 ≤ x4) → r = some (.int 1) ∧ h' = (g, I, P)) ∧ ((¬ I a0 1 ≤ x4) → zk g a0 1 ∧ ∃ b3, P a0 2 = some b3 ∧ zk g a2 4 ∧ ∃ (w6 : Int32), Cl mX4_letterOf [.ref a2, .int x3, .int x4] (g, I, P) (some (.int w6)) (g, I, P) ∧ ∃ (I9 : Nat → Nat → Int32), Cl mX11_put [.ref b3, .int x4, .int w6] (g, I, P) none (g, I9, P) ∧ Zt none mX1_hears 0 0 38 [(0, .ref a0), (2, .ref a2), (3, .int x3), (4, .int (x4 + 1))] [] (g, I9, P) r h')) : Zt none mX1_hears 0 0 38 [(0, .ref a0), (2, .ref a2), (3, .int x3), (4, .int x4)] [] (g, I, P) r h' := by
  refine z_iload 3 dX1_hears_38 rfl (z_aload_n 0 dX1_hears_40 rfl rfl (z_getI dX1_hears_41 wf_X1_41 (by decide) (by decide) rfl H.1 ?_))
  refine z_icmp_ge (t := 69) dX1_hears_44 (by decide) (fun q => ?_) (fun q => ?_)
  · have H1 := H.2.1 q
    refine z_iconst (w := 1) dX1_hears_69 (by decide) ?_
    obtain ⟨rfl, rfl⟩ := H1
    exact z_zret dX1_hears_70 rfl (Or.inr rfl) (by decide) (by decide)
  · have H2 := H.2.2 q
    refine z_aload_n 0 dX1_hears_47 rfl rfl ?_
    obtain ⟨oe5, b3, e5, H4⟩ := H2
    refine z_getP dX1_hears_48 wf_X1_18 (by decide) (by decide) rfl oe5 (fun q => (by cases q.symm.trans e5)) (fun j q => ?_)
    cases q.symm.trans e5
    refine z_iload 3 dX1_hears_51 rfl (z_aload_n 1 dX1_hears_53 rfl rfl (z_iload_n 2 dX1_hears_54 rfl (z_iload 3 dX1_hears_55 rfl ?_)))
    obtain ⟨oc7, w6, c7, H8⟩ := H4
    refine z_virt (As := [.int x3, .int x4]) (st := [.int x4, .ref b3]) (r1 := (some (.int w6))) (h1 := (g, I, P)) dX1_hears_57 kX4_letterOf wm_X1_45 ⟨by decide, by decide⟩ rfl rfl (Nat.le_of_ble_eq_true rfl) (by decide) (by decide) oc7 c7 ?_
    obtain ⟨I9, c10, H11⟩ := H8
    refine z_stat (As := [.ref b3, .int x4, .int w6]) (st := []) (r1 := none) (h1 := (g, I9, P)) dX1_hears_60 kX11_put wm_X1_49 ⟨by decide, by decide⟩ rfl rfl (Nat.le_of_ble_eq_true rfl) (by decide) (by decide) c10 ?_
    refine z_iinc (y := x4 + 1) (lv' := [(4, .int (x4 + 1)), (0, .ref a0), (2, .ref a2), (3, .int x3)]) 3 dX1_hears_63 rfl rfl (by decide) rfl (z_goto (t := 38) dX1_hears_66 (by decide) ?_)
    exact z_less [1, 2, 3, 0] rfl H11
theorem dX1_heard_0 : decode cX1_heard 0 = .ok (.aload_n 0, 1) := by decide +kernel
theorem dX1_heard_1 : decode cX1_heard 1 = .ok (.getfield 12, 3) := by decide +kernel
theorem dX1_heard_4 : decode cX1_heard 4 = .ok (.aload_n 0, 1) := by decide +kernel
theorem dX1_heard_5 : decode cX1_heard 5 = .ok (.getfield 18, 3) := by decide +kernel
theorem dX1_heard_8 : decode cX1_heard 8 = .ok (.iconst 0, 1) := by decide +kernel
theorem dX1_heard_9 : decode cX1_heard 9 = .ok (.aload_n 0, 1) := by decide +kernel
theorem dX1_heard_10 : decode cX1_heard 10 = .ok (.getfield 41, 3) := by decide +kernel
theorem dX1_heard_13 : decode cX1_heard 13 = .ok (.invokevirtual 53, 3) := by decide +kernel
theorem dX1_heard_16 : decode cX1_heard 16 = .ok (.ireturn, 1) := by decide +kernel
set_option maxRecDepth 10000 in
theorem wX1_heard_0 {g : zG} {I : Nat → Nat → Int32} {P : Nat → Nat → Option Nat} {r : Option Value} {h' : zH} {a0 : Nat} (H : zk g a0 1 ∧ ∃ b1, P a0 0 = some b1 ∧ zk g a0 1 ∧ ∃ b4, P a0 2 = some b4 ∧ zk g a0 1 ∧ zk g b1 3 ∧ ∃ (w7 : Int32), Cl mX3_beginningWith [.ref b1, .ref b4, .int 0, .int (I a0 1)] (g, I, P) (some (.int w7)) (g, I, P) ∧ r = some (.int w7) ∧ h' = (g, I, P)) : Zt none mX1_heard 0 0 0 [(0, .ref a0)] [] (g, I, P) r h' := by
  refine z_aload_n 0 dX1_heard_0 rfl rfl ?_
  obtain ⟨oe3, b1, e3, H2⟩ := H
  refine z_getP dX1_heard_1 wf_X1_12 (by decide) (by decide) rfl oe3 (fun q => (by cases q.symm.trans e3)) (fun j q => ?_)
  cases q.symm.trans e3
  refine z_aload_n 0 dX1_heard_4 rfl rfl ?_
  obtain ⟨oe6, b4, e6, H5⟩ := H2
  refine z_getP dX1_heard_5 wf_X1_18 (by decide) (by decide) rfl oe6 (fun q => (by cases q.symm.trans e6)) (fun j q => ?_)
  cases q.symm.trans e6
  refine z_iconst (w := 0) dX1_heard_8 (by decide) (z_aload_n 0 dX1_heard_9 rfl rfl (z_getI dX1_heard_10 wf_X1_41 (by decide) (by decide) rfl H5.1 ?_))
  obtain ⟨oc8, w7, c8, H9⟩ := H5.2
  refine z_virt (As := [.ref b4, .int 0, .int (I a0 1)]) (st := []) (r1 := (some (.int w7))) (h1 := (g, I, P)) dX1_heard_13 kX3_beginningWith wm_X1_53 ⟨by decide, by decide⟩ rfl rfl (Nat.le_of_ble_eq_true rfl) (by decide) (by decide) oc8 c8 ?_
  obtain ⟨rfl, rfl⟩ := H9
  exact z_iret dX1_heard_16 rfl (by decide) (by decide)
theorem eX1_heard {g : zG} {I : Nat → Nat → Int32} {P : Nat → Nat → Option Nat} {r : Option Value} {h' : zH} {a0 : Nat} (H : Zt none mX1_heard 0 0 0 [(0, .ref a0)] [] (g, I, P) r h') : Cl mX1_heard [.ref a0] (g, I, P) r h' := Cl.of (by decide) (Nat.le_of_ble_eq_true rfl) H
theorem dX1_likely_0 : decode cX1_likely 0 = .ok (.aload_n 0, 1) := by decide +kernel
theorem dX1_likely_1 : decode cX1_likely 1 = .ok (.invokevirtual 57, 3) := by decide +kernel
theorem dX1_likely_4 : decode cX1_likely 4 = .ok (.istore_n 1, 1) := by decide +kernel
theorem dX1_likely_5 : decode cX1_likely 5 = .ok (.iconst (-1), 1) := by decide +kernel
theorem dX1_likely_6 : decode cX1_likely 6 = .ok (.istore_n 2, 1) := by decide +kernel
theorem dX1_likely_7 : decode cX1_likely 7 = .ok (.iconst 0, 1) := by decide +kernel
theorem dX1_likely_8 : decode cX1_likely 8 = .ok (.istore_n 3, 1) := by decide +kernel
theorem dX1_likely_9 : decode cX1_likely 9 = .ok (.iload_n 3, 1) := by decide +kernel
theorem dX1_likely_10 : decode cX1_likely 10 = .ok (.bipush 10, 2) := by decide +kernel
theorem dX1_likely_12 : decode cX1_likely 12 = .ok (.if_icmp .ge 43, 3) := by decide +kernel
theorem dX1_likely_15 : decode cX1_likely 15 = .ok (.iload_n 1, 1) := by decide +kernel
theorem dX1_likely_16 : decode cX1_likely 16 = .ok (.iload_n 3, 1) := by decide +kernel
theorem dX1_likely_17 : decode cX1_likely 17 = .ok (.invokestatic 61, 3) := by decide +kernel
theorem dX1_likely_20 : decode cX1_likely 20 = .ok (.ifCond .eq 29, 3) := by decide +kernel
theorem dX1_likely_23 : decode cX1_likely 23 = .ok (.iload_n 2, 1) := by decide +kernel
theorem dX1_likely_24 : decode cX1_likely 24 = .ok (.iconst (-1), 1) := by decide +kernel
theorem dX1_likely_25 : decode cX1_likely 25 = .ok (.if_icmp .eq 22, 3) := by decide +kernel
theorem dX1_likely_28 : decode cX1_likely 28 = .ok (.aload_n 0, 1) := by decide +kernel
theorem dX1_likely_29 : decode cX1_likely 29 = .ok (.getfield 12, 3) := by decide +kernel
theorem dX1_likely_32 : decode cX1_likely 32 = .ok (.iload_n 3, 1) := by decide +kernel
theorem dX1_likely_33 : decode cX1_likely 33 = .ok (.invokevirtual 65, 3) := by decide +kernel
theorem dX1_likely_36 : decode cX1_likely 36 = .ok (.aload_n 0, 1) := by decide +kernel
theorem dX1_likely_37 : decode cX1_likely 37 = .ok (.getfield 12, 3) := by decide +kernel
theorem dX1_likely_40 : decode cX1_likely 40 = .ok (.iload_n 2, 1) := by decide +kernel
theorem dX1_likely_41 : decode cX1_likely 41 = .ok (.invokevirtual 65, 3) := by decide +kernel
theorem dX1_likely_44 : decode cX1_likely 44 = .ok (.if_icmp .le 5, 3) := by decide +kernel
theorem dX1_likely_47 : decode cX1_likely 47 = .ok (.iload_n 3, 1) := by decide +kernel
theorem dX1_likely_48 : decode cX1_likely 48 = .ok (.istore_n 2, 1) := by decide +kernel
theorem dX1_likely_49 : decode cX1_likely 49 = .ok (.iinc 3 1, 3) := by decide +kernel
theorem dX1_likely_52 : decode cX1_likely 52 = .ok (.goto (-43), 3) := by decide +kernel
theorem dX1_likely_55 : decode cX1_likely 55 = .ok (.iload_n 2, 1) := by decide +kernel
theorem dX1_likely_56 : decode cX1_likely 56 = .ok (.ireturn, 1) := by decide +kernel
set_option maxRecDepth 10000 in
theorem wX1_likely_0 {g : zG} {I : Nat → Nat → Int32} {P : Nat → Nat → Option Nat} {r : Option Value} {h' : zH} {a0 : Nat} (H : zk g a0 1 ∧ ∃ (w1 : Int32), Cl mX1_heard [.ref a0] (g, I, P) (some (.int w1)) (g, I, P) ∧ Zt none mX1_likely 0 0 9 [(0, .ref a0), (1, .int w1), (2, .int (-1)), (3, .int 0)] [] (g, I, P) r h') : Zt none mX1_likely 0 0 0 [(0, .ref a0)] [] (g, I, P) r h' := by
  refine z_aload_n 0 dX1_likely_0 rfl rfl ?_
  obtain ⟨oc2, w1, c2, H3⟩ := H
  refine z_virt (As := []) (st := []) (r1 := (some (.int w1))) (h1 := (g, I, P)) dX1_likely_1 kX1_heard wm_X1_57 ⟨by decide, by decide⟩ rfl rfl (Nat.le_of_ble_eq_true rfl) (by decide) (by decide) oc2 c2 ?_
  refine z_istore_n (lv' := [(1, .int w1), (0, .ref a0)]) dX1_likely_4 (by decide) rfl (z_iconst (w := (-1)) dX1_likely_5 (by decide) (z_istore_n (lv' := [(2, .int (-1)), (1, .int w1), (0, .ref a0)]) dX1_likely_6 (by decide) rfl (z_iconst (w := 0) dX1_likely_7 (by decide) (z_istore_n (lv' := [(3, .int 0), (2, .int (-1)), (1, .int w1), (0, .ref a0)]) dX1_likely_8 (by decide) rfl ?_))))
  exact z_less [3, 2, 1, 0] rfl H3
theorem eX1_likely {g : zG} {I : Nat → Nat → Int32} {P : Nat → Nat → Option Nat} {r : Option Value} {h' : zH} {a0 : Nat} (H : Zt none mX1_likely 0 0 0 [(0, .ref a0)] [] (g, I, P) r h') : Cl mX1_likely [.ref a0] (g, I, P) r h' := Cl.of (by decide) (Nat.le_of_ble_eq_true rfl) H
set_option maxRecDepth 10000 in
theorem wX1_likely_9 {g : zG} {I : Nat → Nat → Int32} {P : Nat → Nat → Option Nat} {r : Option Value} {h' : zH} {a0 : Nat} {x1 : Int32} {x2 : Int32} {x3 : Int32} (H : ((10 ≤ x3) → r = some (.int x2) ∧ h' = (g, I, P)) ∧ ((¬ 10 ≤ x3) → ∃ (w3 : Int32), Cl mX11_has [.int x1, .int x3] (g, I, P) (some (.int w3)) (g, I, P) ∧ ((w3 = 0) → Zt none mX1_likely 0 0 9 [(0, .ref a0), (1, .int x1), (2, .int x2), (3, .int (x3 + 1))] [] (g, I, P) r h') ∧ ((¬ w3 = 0) → ((x2 = (-1)) → Zt none mX1_likely 0 0 9 [(0, .ref a0), (1, .int x1), (2, .int x3), (3, .int (x3 + 1))] [] (g, I, P) r h') ∧ ((¬ x2 = (-1)) → zk g a0 1 ∧ ∃ b10, P a0 0 = some b10 ∧ zk g b10 3 ∧ ∃ (w13 : Int32), Cl mX3_oftenOf [.ref b10, .int x3] (g, I, P) (some (.int w13)) (g, I, P) ∧ zk g a0 1 ∧ ∃ b16, P a0 0 = some b16 ∧ zk g b16 3 ∧ ∃ (w19 : Int32), Cl mX3_oftenOf [.ref b16, .int x2] (g, I, P) (some (.int w19)) (g, I, P) ∧ ((w13 ≤ w19) → Zt none mX1_likely 0 0 9 [(0, .ref a0), (1, .int x1), (2, .int x2), (3, .int (x3 + 1))] [] (g, I, P) r h') ∧ ((¬ w13 ≤ w19) → Zt none mX1_likely 0 0 9 [(0, .ref a0), (1, .int x1), (2, .int x3), (3, .int (x3 + 1))] [] (g, I, P) r h'))))) : Zt none mX1_likely 0 0 9 [(0, .ref a0), (1, .int x1), (2, .int x2), (3, .int x3)] [] (g, I, P) r h' := by
  refine z_iload_n 3 dX1_likely_9 rfl (z_bipush (w := 10) dX1_likely_10 (by decide) ?_)
  refine z_icmp_ge (t := 55) dX1_likely_12 (by decide) (fun q => ?_) (fun q => ?_)
  · have H1 := H.1 q
    refine z_iload_n 2 dX1_likely_55 rfl ?_
    obtain ⟨rfl, rfl⟩ := H1
    exact z_iret dX1_likely_56 rfl (by decide) (by decide)
  · have H2 := H.2 q
    refine z_iload_n 1 dX1_likely_15 rfl (z_iload_n 3 dX1_likely_16 rfl ?_)
    obtain ⟨w3, c4, H5⟩ := H2
    refine z_stat (As := [.int x1, .int x3]) (st := []) (r1 := (some (.int w3))) (h1 := (g, I, P)) dX1_likely_17 kX11_has wm_X1_61 ⟨by decide, by decide⟩ rfl rfl (Nat.le_of_ble_eq_true rfl) (by decide) (by decide) c4 ?_
    refine z_if_eq (t := 49) dX1_likely_20 (by decide) (fun q => ?_) (fun q => ?_)
    · have H6 := H5.1 q
      refine z_iinc (y := x3 + 1) (lv' := [(3, .int (x3 + 1)), (0, .ref a0), (1, .int x1), (2, .int x2)]) 3 dX1_likely_49 rfl rfl (by decide) rfl (z_goto (t := 9) dX1_likely_52 (by decide) ?_)
      exact z_less [1, 2, 3, 0] rfl H6
    · have H7 := H5.2 q
      refine z_iload_n 2 dX1_likely_23 rfl (z_iconst (w := (-1)) dX1_likely_24 (by decide) ?_)
      refine z_icmp_eq (t := 47) dX1_likely_25 (by decide) (fun q => ?_) (fun q => ?_)
      · have H8 := H7.1 q
        refine z_iload_n 3 dX1_likely_47 rfl (z_istore_n (lv' := [(2, .int x3), (0, .ref a0), (1, .int x1), (3, .int x3)]) dX1_likely_48 (by decide) rfl (z_iinc (y := x3 + 1) (lv' := [(3, .int (x3 + 1)), (2, .int x3), (0, .ref a0), (1, .int x1)]) 3 dX1_likely_49 rfl rfl (by decide) rfl (z_goto (t := 9) dX1_likely_52 (by decide) ?_)))
        exact z_less [2, 3, 1, 0] rfl H8
      · have H9 := H7.2 q
        refine z_aload_n 0 dX1_likely_28 rfl rfl ?_
        obtain ⟨oe12, b10, e12, H11⟩ := H9
        refine z_getP dX1_likely_29 wf_X1_12 (by decide) (by decide) rfl oe12 (fun q => (by cases q.symm.trans e12)) (fun j q => ?_)
        cases q.symm.trans e12
        refine z_iload_n 3 dX1_likely_32 rfl ?_
        obtain ⟨oc14, w13, c14, H15⟩ := H11
        refine z_virt (As := [.int x3]) (st := []) (r1 := (some (.int w13))) (h1 := (g, I, P)) dX1_likely_33 kX3_oftenOf wm_X1_65 ⟨by decide, by decide⟩ rfl rfl (Nat.le_of_ble_eq_true rfl) (by decide) (by decide) oc14 c14 ?_
        refine z_aload_n 0 dX1_likely_36 rfl rfl ?_
        obtain ⟨oe18, b16, e18, H17⟩ := H15
        refine z_getP dX1_likely_37 wf_X1_12 (by decide) (by decide) rfl oe18 (fun q => (by cases q.symm.trans e18)) (fun j q => ?_)
        cases q.symm.trans e18
        refine z_iload_n 2 dX1_likely_40 rfl ?_
        obtain ⟨oc20, w19, c20, H21⟩ := H17
        refine z_virt (As := [.int x2]) (st := [.int w13]) (r1 := (some (.int w19))) (h1 := (g, I, P)) dX1_likely_41 kX3_oftenOf wm_X1_65 ⟨by decide, by decide⟩ rfl rfl (Nat.le_of_ble_eq_true rfl) (by decide) (by decide) oc20 c20 ?_
        refine z_icmp_le (t := 49) dX1_likely_44 (by decide) (fun q => ?_) (fun q => ?_)
        · have H22 := H21.1 q
          refine z_iinc (y := x3 + 1) (lv' := [(3, .int (x3 + 1)), (0, .ref a0), (1, .int x1), (2, .int x2)]) 3 dX1_likely_49 rfl rfl (by decide) rfl (z_goto (t := 9) dX1_likely_52 (by decide) ?_)
          exact z_less [1, 2, 3, 0] rfl H22
        · have H23 := H21.2 q
          refine z_iload_n 3 dX1_likely_47 rfl (z_istore_n (lv' := [(2, .int x3), (0, .ref a0), (1, .int x1), (3, .int x3)]) dX1_likely_48 (by decide) rfl (z_iinc (y := x3 + 1) (lv' := [(3, .int (x3 + 1)), (2, .int x3), (0, .ref a0), (1, .int x1)]) 3 dX1_likely_49 rfl rfl (by decide) rfl (z_goto (t := 9) dX1_likely_52 (by decide) ?_)))
          exact z_less [2, 3, 1, 0] rfl H23
theorem dX1_lettersBehind_0 : decode cX1_lettersBehind 0 = .ok (.aload_n 0, 1) := by decide +kernel
theorem dX1_lettersBehind_1 : decode cX1_lettersBehind 1 = .ok (.invokevirtual 57, 3) := by decide +kernel
theorem dX1_lettersBehind_4 : decode cX1_lettersBehind 4 = .ok (.istore_n 1, 1) := by decide +kernel
theorem dX1_lettersBehind_5 : decode cX1_lettersBehind 5 = .ok (.iconst 0, 1) := by decide +kernel
theorem dX1_lettersBehind_6 : decode cX1_lettersBehind 6 = .ok (.istore_n 2, 1) := by decide +kernel
theorem dX1_lettersBehind_7 : decode cX1_lettersBehind 7 = .ok (.iconst 0, 1) := by decide +kernel
theorem dX1_lettersBehind_8 : decode cX1_lettersBehind 8 = .ok (.istore_n 3, 1) := by decide +kernel
theorem dX1_lettersBehind_9 : decode cX1_lettersBehind 9 = .ok (.iload_n 3, 1) := by decide +kernel
theorem dX1_lettersBehind_10 : decode cX1_lettersBehind 10 = .ok (.bipush 10, 2) := by decide +kernel
theorem dX1_lettersBehind_12 : decode cX1_lettersBehind 12 = .ok (.if_icmp .ge 50, 3) := by decide +kernel
theorem dX1_lettersBehind_15 : decode cX1_lettersBehind 15 = .ok (.iload_n 1, 1) := by decide +kernel
theorem dX1_lettersBehind_16 : decode cX1_lettersBehind 16 = .ok (.iload_n 3, 1) := by decide +kernel
theorem dX1_lettersBehind_17 : decode cX1_lettersBehind 17 = .ok (.invokestatic 61, 3) := by decide +kernel
theorem dX1_lettersBehind_20 : decode cX1_lettersBehind 20 = .ok (.ifCond .eq 36, 3) := by decide +kernel
theorem dX1_lettersBehind_23 : decode cX1_lettersBehind 23 = .ok (.aload_n 0, 1) := by decide +kernel
theorem dX1_lettersBehind_24 : decode cX1_lettersBehind 24 = .ok (.getfield 12, 3) := by decide +kernel
theorem dX1_lettersBehind_27 : decode cX1_lettersBehind 27 = .ok (.iload_n 3, 1) := by decide +kernel
theorem dX1_lettersBehind_28 : decode cX1_lettersBehind 28 = .ok (.invokevirtual 69, 3) := by decide +kernel
theorem dX1_lettersBehind_31 : decode cX1_lettersBehind 31 = .ok (.aload_n 0, 1) := by decide +kernel
theorem dX1_lettersBehind_32 : decode cX1_lettersBehind 32 = .ok (.getfield 41, 3) := by decide +kernel
theorem dX1_lettersBehind_35 : decode cX1_lettersBehind 35 = .ok (.if_icmp .le 21, 3) := by decide +kernel
theorem dX1_lettersBehind_38 : decode cX1_lettersBehind 38 = .ok (.iload_n 2, 1) := by decide +kernel
theorem dX1_lettersBehind_39 : decode cX1_lettersBehind 39 = .ok (.aload_n 0, 1) := by decide +kernel
theorem dX1_lettersBehind_40 : decode cX1_lettersBehind 40 = .ok (.getfield 12, 3) := by decide +kernel
theorem dX1_lettersBehind_43 : decode cX1_lettersBehind 43 = .ok (.iload_n 3, 1) := by decide +kernel
theorem dX1_lettersBehind_44 : decode cX1_lettersBehind 44 = .ok (.aload_n 0, 1) := by decide +kernel
theorem dX1_lettersBehind_45 : decode cX1_lettersBehind 45 = .ok (.getfield 41, 3) := by decide +kernel
theorem dX1_lettersBehind_48 : decode cX1_lettersBehind 48 = .ok (.invokevirtual 72, 3) := by decide +kernel
theorem dX1_lettersBehind_51 : decode cX1_lettersBehind 51 = .ok (.invokestatic 73, 3) := by decide +kernel
theorem dX1_lettersBehind_54 : decode cX1_lettersBehind 54 = .ok (.ior, 1) := by decide +kernel
theorem dX1_lettersBehind_55 : decode cX1_lettersBehind 55 = .ok (.istore_n 2, 1) := by decide +kernel
theorem dX1_lettersBehind_56 : decode cX1_lettersBehind 56 = .ok (.iinc 3 1, 3) := by decide +kernel
theorem dX1_lettersBehind_59 : decode cX1_lettersBehind 59 = .ok (.goto (-50), 3) := by decide +kernel
theorem dX1_lettersBehind_62 : decode cX1_lettersBehind 62 = .ok (.iload_n 2, 1) := by decide +kernel
theorem dX1_lettersBehind_63 : decode cX1_lettersBehind 63 = .ok (.ireturn, 1) := by decide +kernel
set_option maxRecDepth 10000 in
theorem wX1_lettersBehind_0 {g : zG} {I : Nat → Nat → Int32} {P : Nat → Nat → Option Nat} {r : Option Value} {h' : zH} {a0 : Nat} (H : zk g a0 1 ∧ ∃ (w1 : Int32), Cl mX1_heard [.ref a0] (g, I, P) (some (.int w1)) (g, I, P) ∧ Zt none mX1_lettersBehind 0 0 9 [(0, .ref a0), (1, .int w1), (2, .int 0), (3, .int 0)] [] (g, I, P) r h') : Zt none mX1_lettersBehind 0 0 0 [(0, .ref a0)] [] (g, I, P) r h' := by
  refine z_aload_n 0 dX1_lettersBehind_0 rfl rfl ?_
  obtain ⟨oc2, w1, c2, H3⟩ := H
  refine z_virt (As := []) (st := []) (r1 := (some (.int w1))) (h1 := (g, I, P)) dX1_lettersBehind_1 kX1_heard wm_X1_57 ⟨by decide, by decide⟩ rfl rfl (Nat.le_of_ble_eq_true rfl) (by decide) (by decide) oc2 c2 ?_
  refine z_istore_n (lv' := [(1, .int w1), (0, .ref a0)]) dX1_lettersBehind_4 (by decide) rfl (z_iconst (w := 0) dX1_lettersBehind_5 (by decide) (z_istore_n (lv' := [(2, .int 0), (1, .int w1), (0, .ref a0)]) dX1_lettersBehind_6 (by decide) rfl (z_iconst (w := 0) dX1_lettersBehind_7 (by decide) (z_istore_n (lv' := [(3, .int 0), (2, .int 0), (1, .int w1), (0, .ref a0)]) dX1_lettersBehind_8 (by decide) rfl ?_))))
  exact z_less [3, 2, 1, 0] rfl H3
theorem eX1_lettersBehind {g : zG} {I : Nat → Nat → Int32} {P : Nat → Nat → Option Nat} {r : Option Value} {h' : zH} {a0 : Nat} (H : Zt none mX1_lettersBehind 0 0 0 [(0, .ref a0)] [] (g, I, P) r h') : Cl mX1_lettersBehind [.ref a0] (g, I, P) r h' := Cl.of (by decide) (Nat.le_of_ble_eq_true rfl) H
set_option maxRecDepth 10000 in
theorem wX1_lettersBehind_9 {g : zG} {I : Nat → Nat → Int32} {P : Nat → Nat → Option Nat} {r : Option Value} {h' : zH} {a0 : Nat} {x1 : Int32} {x2 : Int32} {x3 : Int32} (H : ((10 ≤ x3) → r = some (.int x2) ∧ h' = (g, I, P)) ∧ ((¬ 10 ≤ x3) → ∃ (w3 : Int32), Cl mX11_has [.int x1, .int x3] (g, I, P) (some (.int w3)) (g, I, P) ∧ ((w3 = 0) → Zt none mX1_lettersBehind 0 0 9 [(0, .ref a0), (1, .int x1), (2, .int x2), (3, .int (x3 + 1))] [] (g, I, P) r h') ∧ ((¬ w3 = 0) → zk g a0 1 ∧ ∃ b8, P a0 0 = some b8 ∧ zk g b8 3 ∧ ∃ (w11 : Int32), Cl mX3_sizeOf [.ref b8, .int x3] (g, I, P) (some (.int w11)) (g, I, P) ∧ zk g a0 1 ∧ ((w11 ≤ I a0 1) → Zt none mX1_lettersBehind 0 0 9 [(0, .ref a0), (1, .int x1), (2, .int x2), (3, .int (x3 + 1))] [] (g, I, P) r h') ∧ ((¬ w11 ≤ I a0 1) → zk g a0 1 ∧ ∃ b16, P a0 0 = some b16 ∧ zk g a0 1 ∧ zk g b16 3 ∧ ∃ (w19 : Int32), Cl mX3_letterOf [.ref b16, .int x3, .int (I a0 1)] (g, I, P) (some (.int w19)) (g, I, P) ∧ ∃ (w22 : Int32), Cl mX11_bit [.int w19] (g, I, P) (some (.int w22)) (g, I, P) ∧ Zt none mX1_lettersBehind 0 0 9 [(0, .ref a0), (1, .int x1), (2, .int (x2 ||| w22)), (3, .int (x3 + 1))] [] (g, I, P) r h')))) : Zt none mX1_lettersBehind 0 0 9 [(0, .ref a0), (1, .int x1), (2, .int x2), (3, .int x3)] [] (g, I, P) r h' := by
  refine z_iload_n 3 dX1_lettersBehind_9 rfl (z_bipush (w := 10) dX1_lettersBehind_10 (by decide) ?_)
  refine z_icmp_ge (t := 62) dX1_lettersBehind_12 (by decide) (fun q => ?_) (fun q => ?_)
  · have H1 := H.1 q
    refine z_iload_n 2 dX1_lettersBehind_62 rfl ?_
    obtain ⟨rfl, rfl⟩ := H1
    exact z_iret dX1_lettersBehind_63 rfl (by decide) (by decide)
  · have H2 := H.2 q
    refine z_iload_n 1 dX1_lettersBehind_15 rfl (z_iload_n 3 dX1_lettersBehind_16 rfl ?_)
    obtain ⟨w3, c4, H5⟩ := H2
    refine z_stat (As := [.int x1, .int x3]) (st := []) (r1 := (some (.int w3))) (h1 := (g, I, P)) dX1_lettersBehind_17 kX11_has wm_X1_61 ⟨by decide, by decide⟩ rfl rfl (Nat.le_of_ble_eq_true rfl) (by decide) (by decide) c4 ?_
    refine z_if_eq (t := 56) dX1_lettersBehind_20 (by decide) (fun q => ?_) (fun q => ?_)
    · have H6 := H5.1 q
      refine z_iinc (y := x3 + 1) (lv' := [(3, .int (x3 + 1)), (0, .ref a0), (1, .int x1), (2, .int x2)]) 3 dX1_lettersBehind_56 rfl rfl (by decide) rfl (z_goto (t := 9) dX1_lettersBehind_59 (by decide) ?_)
      exact z_less [1, 2, 3, 0] rfl H6
    · have H7 := H5.2 q
      refine z_aload_n 0 dX1_lettersBehind_23 rfl rfl ?_
      obtain ⟨oe10, b8, e10, H9⟩ := H7
      refine z_getP dX1_lettersBehind_24 wf_X1_12 (by decide) (by decide) rfl oe10 (fun q => (by cases q.symm.trans e10)) (fun j q => ?_)
      cases q.symm.trans e10
      refine z_iload_n 3 dX1_lettersBehind_27 rfl ?_
      obtain ⟨oc12, w11, c12, H13⟩ := H9
      refine z_virt (As := [.int x3]) (st := []) (r1 := (some (.int w11))) (h1 := (g, I, P)) dX1_lettersBehind_28 kX3_sizeOf wm_X1_69 ⟨by decide, by decide⟩ rfl rfl (Nat.le_of_ble_eq_true rfl) (by decide) (by decide) oc12 c12 ?_
      refine z_aload_n 0 dX1_lettersBehind_31 rfl rfl (z_getI dX1_lettersBehind_32 wf_X1_41 (by decide) (by decide) rfl H13.1 ?_)
      refine z_icmp_le (t := 56) dX1_lettersBehind_35 (by decide) (fun q => ?_) (fun q => ?_)
      · have H14 := H13.2.1 q
        refine z_iinc (y := x3 + 1) (lv' := [(3, .int (x3 + 1)), (0, .ref a0), (1, .int x1), (2, .int x2)]) 3 dX1_lettersBehind_56 rfl rfl (by decide) rfl (z_goto (t := 9) dX1_lettersBehind_59 (by decide) ?_)
        exact z_less [1, 2, 3, 0] rfl H14
      · have H15 := H13.2.2 q
        refine z_iload_n 2 dX1_lettersBehind_38 rfl (z_aload_n 0 dX1_lettersBehind_39 rfl rfl ?_)
        obtain ⟨oe18, b16, e18, H17⟩ := H15
        refine z_getP dX1_lettersBehind_40 wf_X1_12 (by decide) (by decide) rfl oe18 (fun q => (by cases q.symm.trans e18)) (fun j q => ?_)
        cases q.symm.trans e18
        refine z_iload_n 3 dX1_lettersBehind_43 rfl (z_aload_n 0 dX1_lettersBehind_44 rfl rfl (z_getI dX1_lettersBehind_45 wf_X1_41 (by decide) (by decide) rfl H17.1 ?_))
        obtain ⟨oc20, w19, c20, H21⟩ := H17.2
        refine z_virt (As := [.int x3, .int (I a0 1)]) (st := [.int x2]) (r1 := (some (.int w19))) (h1 := (g, I, P)) dX1_lettersBehind_48 kX3_letterOf wm_X1_72 ⟨by decide, by decide⟩ rfl rfl (Nat.le_of_ble_eq_true rfl) (by decide) (by decide) oc20 c20 ?_
        obtain ⟨w22, c23, H24⟩ := H21
        refine z_stat (As := [.int w19]) (st := [.int x2]) (r1 := (some (.int w22))) (h1 := (g, I, P)) dX1_lettersBehind_51 kX11_bit wm_X1_73 ⟨by decide, by decide⟩ rfl rfl (Nat.le_of_ble_eq_true rfl) (by decide) (by decide) c23 ?_
        refine z_ior dX1_lettersBehind_54 (z_istore_n (lv' := [(2, .int (x2 ||| w22)), (0, .ref a0), (1, .int x1), (3, .int x3)]) dX1_lettersBehind_55 (by decide) rfl (z_iinc (y := x3 + 1) (lv' := [(3, .int (x3 + 1)), (2, .int (x2 ||| w22)), (0, .ref a0), (1, .int x1)]) 3 dX1_lettersBehind_56 rfl rfl (by decide) rfl (z_goto (t := 9) dX1_lettersBehind_59 (by decide) ?_)))
        exact z_less [2, 3, 1, 0] rfl H24
theorem dX1_keenest_0 : decode cX1_keenest 0 = .ok (.aload_n 0, 1) := by decide +kernel
theorem dX1_keenest_1 : decode cX1_keenest 1 = .ok (.invokevirtual 76, 3) := by decide +kernel
theorem dX1_keenest_4 : decode cX1_keenest 4 = .ok (.istore_n 1, 1) := by decide +kernel
theorem dX1_keenest_5 : decode cX1_keenest 5 = .ok (.iconst (-1), 1) := by decide +kernel
theorem dX1_keenest_6 : decode cX1_keenest 6 = .ok (.istore_n 2, 1) := by decide +kernel
theorem dX1_keenest_7 : decode cX1_keenest 7 = .ok (.iconst 0, 1) := by decide +kernel
theorem dX1_keenest_8 : decode cX1_keenest 8 = .ok (.istore_n 3, 1) := by decide +kernel
theorem dX1_keenest_9 : decode cX1_keenest 9 = .ok (.iconst 0, 1) := by decide +kernel
theorem dX1_keenest_10 : decode cX1_keenest 10 = .ok (.istore 4, 2) := by decide +kernel
theorem dX1_keenest_12 : decode cX1_keenest 12 = .ok (.iload 4, 2) := by decide +kernel
theorem dX1_keenest_14 : decode cX1_keenest 14 = .ok (.bipush 6, 2) := by decide +kernel
theorem dX1_keenest_16 : decode cX1_keenest 16 = .ok (.if_icmp .ge 53, 3) := by decide +kernel
theorem dX1_keenest_19 : decode cX1_keenest 19 = .ok (.iload_n 1, 1) := by decide +kernel
theorem dX1_keenest_20 : decode cX1_keenest 20 = .ok (.iload 4, 2) := by decide +kernel
theorem dX1_keenest_22 : decode cX1_keenest 22 = .ok (.invokestatic 61, 3) := by decide +kernel
theorem dX1_keenest_25 : decode cX1_keenest 25 = .ok (.ifCond .eq 12, 3) := by decide +kernel
theorem dX1_keenest_28 : decode cX1_keenest 28 = .ok (.aload_n 0, 1) := by decide +kernel
theorem dX1_keenest_29 : decode cX1_keenest 29 = .ok (.iload 4, 2) := by decide +kernel
theorem dX1_keenest_31 : decode cX1_keenest 31 = .ok (.invokevirtual 79, 3) := by decide +kernel
theorem dX1_keenest_34 : decode cX1_keenest 34 = .ok (.goto 4, 3) := by decide +kernel
theorem dX1_keenest_37 : decode cX1_keenest 37 = .ok (.iconst (-1), 1) := by decide +kernel
theorem dX1_keenest_38 : decode cX1_keenest 38 = .ok (.istore 5, 2) := by decide +kernel
theorem dX1_keenest_40 : decode cX1_keenest 40 = .ok (.iload 5, 2) := by decide +kernel
theorem dX1_keenest_42 : decode cX1_keenest 42 = .ok (.iconst (-1), 1) := by decide +kernel
theorem dX1_keenest_43 : decode cX1_keenest 43 = .ok (.if_icmp .eq 20, 3) := by decide +kernel
theorem dX1_keenest_46 : decode cX1_keenest 46 = .ok (.iload_n 2, 1) := by decide +kernel
theorem dX1_keenest_47 : decode cX1_keenest 47 = .ok (.iconst (-1), 1) := by decide +kernel
theorem dX1_keenest_48 : decode cX1_keenest 48 = .ok (.if_icmp .eq 9, 3) := by decide +kernel
theorem dX1_keenest_51 : decode cX1_keenest 51 = .ok (.iload 5, 2) := by decide +kernel
theorem dX1_keenest_53 : decode cX1_keenest 53 = .ok (.iload_n 3, 1) := by decide +kernel
theorem dX1_keenest_54 : decode cX1_keenest 54 = .ok (.if_icmp .le 9, 3) := by decide +kernel
theorem dX1_keenest_57 : decode cX1_keenest 57 = .ok (.iload 4, 2) := by decide +kernel
theorem dX1_keenest_59 : decode cX1_keenest 59 = .ok (.istore_n 2, 1) := by decide +kernel
theorem dX1_keenest_60 : decode cX1_keenest 60 = .ok (.iload 5, 2) := by decide +kernel
theorem dX1_keenest_62 : decode cX1_keenest 62 = .ok (.istore_n 3, 1) := by decide +kernel
theorem dX1_keenest_63 : decode cX1_keenest 63 = .ok (.iinc 4 1, 3) := by decide +kernel
theorem dX1_keenest_66 : decode cX1_keenest 66 = .ok (.goto (-54), 3) := by decide +kernel
theorem dX1_keenest_69 : decode cX1_keenest 69 = .ok (.iload_n 2, 1) := by decide +kernel
theorem dX1_keenest_70 : decode cX1_keenest 70 = .ok (.ireturn, 1) := by decide +kernel
set_option maxRecDepth 10000 in
theorem wX1_keenest_0 {g : zG} {I : Nat → Nat → Int32} {P : Nat → Nat → Option Nat} {r : Option Value} {h' : zH} {a0 : Nat} (H : zk g a0 1 ∧ ∃ (w1 : Int32), Cl mX1_lettersBehind [.ref a0] (g, I, P) (some (.int w1)) (g, I, P) ∧ Zt none mX1_keenest 0 0 12 [(0, .ref a0), (1, .int w1), (2, .int (-1)), (3, .int 0), (4, .int 0)] [] (g, I, P) r h') : Zt none mX1_keenest 0 0 0 [(0, .ref a0)] [] (g, I, P) r h' := by
  refine z_aload_n 0 dX1_keenest_0 rfl rfl ?_
  obtain ⟨oc2, w1, c2, H3⟩ := H
  refine z_virt (As := []) (st := []) (r1 := (some (.int w1))) (h1 := (g, I, P)) dX1_keenest_1 kX1_lettersBehind wm_X1_76 ⟨by decide, by decide⟩ rfl rfl (Nat.le_of_ble_eq_true rfl) (by decide) (by decide) oc2 c2 ?_
  refine z_istore_n (lv' := [(1, .int w1), (0, .ref a0)]) dX1_keenest_4 (by decide) rfl (z_iconst (w := (-1)) dX1_keenest_5 (by decide) (z_istore_n (lv' := [(2, .int (-1)), (1, .int w1), (0, .ref a0)]) dX1_keenest_6 (by decide) rfl (z_iconst (w := 0) dX1_keenest_7 (by decide) (z_istore_n (lv' := [(3, .int 0), (2, .int (-1)), (1, .int w1), (0, .ref a0)]) dX1_keenest_8 (by decide) rfl (z_iconst (w := 0) dX1_keenest_9 (by decide) (z_istore (lv' := [(4, .int 0), (3, .int 0), (2, .int (-1)), (1, .int w1), (0, .ref a0)]) dX1_keenest_10 (by decide) rfl ?_))))))
  exact z_less [4, 3, 2, 1, 0] rfl H3
theorem eX1_keenest {g : zG} {I : Nat → Nat → Int32} {P : Nat → Nat → Option Nat} {r : Option Value} {h' : zH} {a0 : Nat} (H : Zt none mX1_keenest 0 0 0 [(0, .ref a0)] [] (g, I, P) r h') : Cl mX1_keenest [.ref a0] (g, I, P) r h' := Cl.of (by decide) (Nat.le_of_ble_eq_true rfl) H
set_option maxRecDepth 10000 in
theorem wX1_keenest_12 {g : zG} {I : Nat → Nat → Int32} {P : Nat → Nat → Option Nat} {r : Option Value} {h' : zH} {a0 : Nat} {x1 : Int32} {x2 : Int32} {x3 : Int32} {x4 : Int32} (H : ((6 ≤ x4) → r = some (.int x2) ∧ h' = (g, I, P)) ∧ ((¬ 6 ≤ x4) → ∃ (w3 : Int32), Cl mX11_has [.int x1, .int x4] (g, I, P) (some (.int w3)) (g, I, P) ∧ ((w3 = 0) → Zt none mX1_keenest 0 0 38 [(0, .ref a0), (1, .int x1), (2, .int x2), (3, .int x3), (4, .int x4)] [.int (-1)] (g, I, P) r h') ∧ ((¬ w3 = 0) → zk g a0 1 ∧ ∃ (w8 : Int32), Cl mX1_oftenGoingOn [.ref a0, .int x4] (g, I, P) (some (.int w8)) (g, I, P) ∧ Zt none mX1_keenest 0 0 38 [(0, .ref a0), (1, .int x1), (2, .int x2), (3, .int x3), (4, .int x4)] [.int w8] (g, I, P) r h'))) : Zt none mX1_keenest 0 0 12 [(0, .ref a0), (1, .int x1), (2, .int x2), (3, .int x3), (4, .int x4)] [] (g, I, P) r h' := by
  refine z_iload 4 dX1_keenest_12 rfl (z_bipush (w := 6) dX1_keenest_14 (by decide) ?_)
  refine z_icmp_ge (t := 69) dX1_keenest_16 (by decide) (fun q => ?_) (fun q => ?_)
  · have H1 := H.1 q
    refine z_iload_n 2 dX1_keenest_69 rfl ?_
    obtain ⟨rfl, rfl⟩ := H1
    exact z_iret dX1_keenest_70 rfl (by decide) (by decide)
  · have H2 := H.2 q
    refine z_iload_n 1 dX1_keenest_19 rfl (z_iload 4 dX1_keenest_20 rfl ?_)
    obtain ⟨w3, c4, H5⟩ := H2
    refine z_stat (As := [.int x1, .int x4]) (st := []) (r1 := (some (.int w3))) (h1 := (g, I, P)) dX1_keenest_22 kX11_has wm_X1_61 ⟨by decide, by decide⟩ rfl rfl (Nat.le_of_ble_eq_true rfl) (by decide) (by decide) c4 ?_
    refine z_if_eq (t := 37) dX1_keenest_25 (by decide) (fun q => ?_) (fun q => ?_)
    · have H6 := H5.1 q
      refine z_iconst (w := (-1)) dX1_keenest_37 (by decide) ?_
      exact z_less [0, 1, 2, 3, 4] rfl H6
    · have H7 := H5.2 q
      refine z_aload_n 0 dX1_keenest_28 rfl rfl (z_iload 4 dX1_keenest_29 rfl ?_)
      obtain ⟨oc9, w8, c9, H10⟩ := H7
      refine z_virt (As := [.int x4]) (st := []) (r1 := (some (.int w8))) (h1 := (g, I, P)) dX1_keenest_31 kX1_oftenGoingOn wm_X1_79 ⟨by decide, by decide⟩ rfl rfl (Nat.le_of_ble_eq_true rfl) (by decide) (by decide) oc9 c9 ?_
      refine z_goto (t := 38) dX1_keenest_34 (by decide) ?_
      exact z_less [0, 1, 2, 3, 4] rfl H10
set_option maxRecDepth 10000 in
theorem wX1_keenest_38 {g : zG} {I : Nat → Nat → Int32} {P : Nat → Nat → Option Nat} {r : Option Value} {h' : zH} {a0 : Nat} {x1 : Int32} {x2 : Int32} {x3 : Int32} {x4 : Int32} {xs0 : Int32} (H : ((xs0 = (-1)) → Zt none mX1_keenest 0 0 12 [(0, .ref a0), (1, .int x1), (2, .int x2), (3, .int x3), (4, .int (x4 + 1))] [] (g, I, P) r h') ∧ ((¬ xs0 = (-1)) → ((x2 = (-1)) → Zt none mX1_keenest 0 0 12 [(0, .ref a0), (1, .int x1), (2, .int x4), (3, .int xs0), (4, .int (x4 + 1))] [] (g, I, P) r h') ∧ ((¬ x2 = (-1)) → ((xs0 ≤ x3) → Zt none mX1_keenest 0 0 12 [(0, .ref a0), (1, .int x1), (2, .int x2), (3, .int x3), (4, .int (x4 + 1))] [] (g, I, P) r h') ∧ ((¬ xs0 ≤ x3) → Zt none mX1_keenest 0 0 12 [(0, .ref a0), (1, .int x1), (2, .int x4), (3, .int xs0), (4, .int (x4 + 1))] [] (g, I, P) r h')))) : Zt none mX1_keenest 0 0 38 [(0, .ref a0), (1, .int x1), (2, .int x2), (3, .int x3), (4, .int x4)] [.int xs0] (g, I, P) r h' := by
  refine z_istore (lv' := [(5, .int xs0), (0, .ref a0), (1, .int x1), (2, .int x2), (3, .int x3), (4, .int x4)]) dX1_keenest_38 (by decide) rfl (z_iload 0 dX1_keenest_40 rfl (z_iconst (w := (-1)) dX1_keenest_42 (by decide) ?_))
  refine z_icmp_eq (t := 63) dX1_keenest_43 (by decide) (fun q => ?_) (fun q => ?_)
  · have H1 := H.1 q
    refine z_iinc (y := x4 + 1) (lv' := [(4, .int (x4 + 1)), (5, .int xs0), (0, .ref a0), (1, .int x1), (2, .int x2), (3, .int x3)]) 5 dX1_keenest_63 rfl rfl (by decide) rfl (z_goto (t := 12) dX1_keenest_66 (by decide) ?_)
    exact z_less [2, 3, 4, 5, 0] rfl H1
  · have H2 := H.2 q
    refine z_iload_n 3 dX1_keenest_46 rfl (z_iconst (w := (-1)) dX1_keenest_47 (by decide) ?_)
    refine z_icmp_eq (t := 57) dX1_keenest_48 (by decide) (fun q => ?_) (fun q => ?_)
    · have H3 := H2.1 q
      refine z_iload 5 dX1_keenest_57 rfl (z_istore_n (lv' := [(2, .int x4), (5, .int xs0), (0, .ref a0), (1, .int x1), (3, .int x3), (4, .int x4)]) dX1_keenest_59 (by decide) rfl (z_iload 1 dX1_keenest_60 rfl (z_istore_n (lv' := [(3, .int xs0), (2, .int x4), (5, .int xs0), (0, .ref a0), (1, .int x1), (4, .int x4)]) dX1_keenest_62 (by decide) rfl (z_iinc (y := x4 + 1) (lv' := [(4, .int (x4 + 1)), (3, .int xs0), (2, .int x4), (5, .int xs0), (0, .ref a0), (1, .int x1)]) 5 dX1_keenest_63 rfl rfl (by decide) rfl (z_goto (t := 12) dX1_keenest_66 (by decide) ?_)))))
      exact z_less [4, 5, 2, 1, 0] rfl H3
    · have H4 := H2.2 q
      refine z_iload 0 dX1_keenest_51 rfl (z_iload_n 4 dX1_keenest_53 rfl ?_)
      refine z_icmp_le (t := 63) dX1_keenest_54 (by decide) (fun q => ?_) (fun q => ?_)
      · have H5 := H4.1 q
        refine z_iinc (y := x4 + 1) (lv' := [(4, .int (x4 + 1)), (5, .int xs0), (0, .ref a0), (1, .int x1), (2, .int x2), (3, .int x3)]) 5 dX1_keenest_63 rfl rfl (by decide) rfl (z_goto (t := 12) dX1_keenest_66 (by decide) ?_)
        exact z_less [2, 3, 4, 5, 0] rfl H5
      · have H6 := H4.2 q
        refine z_iload 5 dX1_keenest_57 rfl (z_istore_n (lv' := [(2, .int x4), (5, .int xs0), (0, .ref a0), (1, .int x1), (3, .int x3), (4, .int x4)]) dX1_keenest_59 (by decide) rfl (z_iload 1 dX1_keenest_60 rfl (z_istore_n (lv' := [(3, .int xs0), (2, .int x4), (5, .int xs0), (0, .ref a0), (1, .int x1), (4, .int x4)]) dX1_keenest_62 (by decide) rfl (z_iinc (y := x4 + 1) (lv' := [(4, .int (x4 + 1)), (3, .int xs0), (2, .int x4), (5, .int xs0), (0, .ref a0), (1, .int x1)]) 5 dX1_keenest_63 rfl rfl (by decide) rfl (z_goto (t := 12) dX1_keenest_66 (by decide) ?_)))))
        exact z_less [4, 5, 2, 1, 0] rfl H6
theorem dX1_oftenGoingOn_0 : decode cX1_oftenGoingOn 0 = .ok (.aload_n 0, 1) := by decide +kernel
theorem dX1_oftenGoingOn_1 : decode cX1_oftenGoingOn 1 = .ok (.invokevirtual 57, 3) := by decide +kernel
theorem dX1_oftenGoingOn_4 : decode cX1_oftenGoingOn 4 = .ok (.istore_n 2, 1) := by decide +kernel
theorem dX1_oftenGoingOn_5 : decode cX1_oftenGoingOn 5 = .ok (.iconst 0, 1) := by decide +kernel
theorem dX1_oftenGoingOn_6 : decode cX1_oftenGoingOn 6 = .ok (.istore_n 3, 1) := by decide +kernel
theorem dX1_oftenGoingOn_7 : decode cX1_oftenGoingOn 7 = .ok (.iconst 0, 1) := by decide +kernel
theorem dX1_oftenGoingOn_8 : decode cX1_oftenGoingOn 8 = .ok (.istore 4, 2) := by decide +kernel
theorem dX1_oftenGoingOn_10 : decode cX1_oftenGoingOn 10 = .ok (.iload 4, 2) := by decide +kernel
theorem dX1_oftenGoingOn_12 : decode cX1_oftenGoingOn 12 = .ok (.bipush 10, 2) := by decide +kernel
theorem dX1_oftenGoingOn_14 : decode cX1_oftenGoingOn 14 = .ok (.if_icmp .ge 63, 3) := by decide +kernel
theorem dX1_oftenGoingOn_17 : decode cX1_oftenGoingOn 17 = .ok (.iload_n 2, 1) := by decide +kernel
theorem dX1_oftenGoingOn_18 : decode cX1_oftenGoingOn 18 = .ok (.iload 4, 2) := by decide +kernel
theorem dX1_oftenGoingOn_20 : decode cX1_oftenGoingOn 20 = .ok (.invokestatic 61, 3) := by decide +kernel
theorem dX1_oftenGoingOn_23 : decode cX1_oftenGoingOn 23 = .ok (.ifCond .eq 48, 3) := by decide +kernel
theorem dX1_oftenGoingOn_26 : decode cX1_oftenGoingOn 26 = .ok (.aload_n 0, 1) := by decide +kernel
theorem dX1_oftenGoingOn_27 : decode cX1_oftenGoingOn 27 = .ok (.getfield 12, 3) := by decide +kernel
theorem dX1_oftenGoingOn_30 : decode cX1_oftenGoingOn 30 = .ok (.iload 4, 2) := by decide +kernel
theorem dX1_oftenGoingOn_32 : decode cX1_oftenGoingOn 32 = .ok (.invokevirtual 69, 3) := by decide +kernel
theorem dX1_oftenGoingOn_35 : decode cX1_oftenGoingOn 35 = .ok (.aload_n 0, 1) := by decide +kernel
theorem dX1_oftenGoingOn_36 : decode cX1_oftenGoingOn 36 = .ok (.getfield 41, 3) := by decide +kernel
theorem dX1_oftenGoingOn_39 : decode cX1_oftenGoingOn 39 = .ok (.if_icmp .le 32, 3) := by decide +kernel
theorem dX1_oftenGoingOn_42 : decode cX1_oftenGoingOn 42 = .ok (.aload_n 0, 1) := by decide +kernel
theorem dX1_oftenGoingOn_43 : decode cX1_oftenGoingOn 43 = .ok (.getfield 12, 3) := by decide +kernel
theorem dX1_oftenGoingOn_46 : decode cX1_oftenGoingOn 46 = .ok (.iload 4, 2) := by decide +kernel
theorem dX1_oftenGoingOn_48 : decode cX1_oftenGoingOn 48 = .ok (.aload_n 0, 1) := by decide +kernel
theorem dX1_oftenGoingOn_49 : decode cX1_oftenGoingOn 49 = .ok (.getfield 41, 3) := by decide +kernel
theorem dX1_oftenGoingOn_52 : decode cX1_oftenGoingOn 52 = .ok (.invokevirtual 72, 3) := by decide +kernel
theorem dX1_oftenGoingOn_55 : decode cX1_oftenGoingOn 55 = .ok (.iload_n 1, 1) := by decide +kernel
theorem dX1_oftenGoingOn_56 : decode cX1_oftenGoingOn 56 = .ok (.if_icmp .ne 15, 3) := by decide +kernel
theorem dX1_oftenGoingOn_59 : decode cX1_oftenGoingOn 59 = .ok (.iload_n 3, 1) := by decide +kernel
theorem dX1_oftenGoingOn_60 : decode cX1_oftenGoingOn 60 = .ok (.aload_n 0, 1) := by decide +kernel
theorem dX1_oftenGoingOn_61 : decode cX1_oftenGoingOn 61 = .ok (.getfield 12, 3) := by decide +kernel
theorem dX1_oftenGoingOn_64 : decode cX1_oftenGoingOn 64 = .ok (.iload 4, 2) := by decide +kernel
theorem dX1_oftenGoingOn_66 : decode cX1_oftenGoingOn 66 = .ok (.invokevirtual 65, 3) := by decide +kernel
theorem dX1_oftenGoingOn_69 : decode cX1_oftenGoingOn 69 = .ok (.iadd, 1) := by decide +kernel
theorem dX1_oftenGoingOn_70 : decode cX1_oftenGoingOn 70 = .ok (.istore_n 3, 1) := by decide +kernel
theorem dX1_oftenGoingOn_71 : decode cX1_oftenGoingOn 71 = .ok (.iinc 4 1, 3) := by decide +kernel
theorem dX1_oftenGoingOn_74 : decode cX1_oftenGoingOn 74 = .ok (.goto (-64), 3) := by decide +kernel
theorem dX1_oftenGoingOn_77 : decode cX1_oftenGoingOn 77 = .ok (.iload_n 3, 1) := by decide +kernel
theorem dX1_oftenGoingOn_78 : decode cX1_oftenGoingOn 78 = .ok (.ireturn, 1) := by decide +kernel
set_option maxRecDepth 10000 in
theorem wX1_oftenGoingOn_0 {g : zG} {I : Nat → Nat → Int32} {P : Nat → Nat → Option Nat} {r : Option Value} {h' : zH} {a0 : Nat} {x1 : Int32} (H : zk g a0 1 ∧ ∃ (w1 : Int32), Cl mX1_heard [.ref a0] (g, I, P) (some (.int w1)) (g, I, P) ∧ Zt none mX1_oftenGoingOn 0 0 10 [(0, .ref a0), (1, .int x1), (2, .int w1), (3, .int 0), (4, .int 0)] [] (g, I, P) r h') : Zt none mX1_oftenGoingOn 0 0 0 [(0, .ref a0), (1, .int x1)] [] (g, I, P) r h' := by
  refine z_aload_n 0 dX1_oftenGoingOn_0 rfl rfl ?_
  obtain ⟨oc2, w1, c2, H3⟩ := H
  refine z_virt (As := []) (st := []) (r1 := (some (.int w1))) (h1 := (g, I, P)) dX1_oftenGoingOn_1 kX1_heard wm_X1_57 ⟨by decide, by decide⟩ rfl rfl (Nat.le_of_ble_eq_true rfl) (by decide) (by decide) oc2 c2 ?_
  refine z_istore_n (lv' := [(2, .int w1), (0, .ref a0), (1, .int x1)]) dX1_oftenGoingOn_4 (by decide) rfl (z_iconst (w := 0) dX1_oftenGoingOn_5 (by decide) (z_istore_n (lv' := [(3, .int 0), (2, .int w1), (0, .ref a0), (1, .int x1)]) dX1_oftenGoingOn_6 (by decide) rfl (z_iconst (w := 0) dX1_oftenGoingOn_7 (by decide) (z_istore (lv' := [(4, .int 0), (3, .int 0), (2, .int w1), (0, .ref a0), (1, .int x1)]) dX1_oftenGoingOn_8 (by decide) rfl ?_))))
  exact z_less [3, 4, 2, 1, 0] rfl H3
theorem eX1_oftenGoingOn {g : zG} {I : Nat → Nat → Int32} {P : Nat → Nat → Option Nat} {r : Option Value} {h' : zH} {a0 : Nat} {x1 : Int32} (H : Zt none mX1_oftenGoingOn 0 0 0 [(0, .ref a0), (1, .int x1)] [] (g, I, P) r h') : Cl mX1_oftenGoingOn [.ref a0, .int x1] (g, I, P) r h' := Cl.of (by decide) (Nat.le_of_ble_eq_true rfl) H
set_option maxRecDepth 10000 in
theorem wX1_oftenGoingOn_10 {g : zG} {I : Nat → Nat → Int32} {P : Nat → Nat → Option Nat} {r : Option Value} {h' : zH} {a0 : Nat} {x1 : Int32} {x2 : Int32} {x3 : Int32} {x4 : Int32} (H : ((10 ≤ x4) → r = some (.int x3) ∧ h' = (g, I, P)) ∧ ((¬ 10 ≤ x4) → ∃ (w3 : Int32), Cl mX11_has [.int x2, .int x4] (g, I, P) (some (.int w3)) (g, I, P) ∧ ((w3 = 0) → Zt none mX1_oftenGoingOn 0 0 10 [(0, .ref a0), (1, .int x1), (2, .int x2), (3, .int x3), (4, .int (x4 + 1))] [] (g, I, P) r h') ∧ ((¬ w3 = 0) → zk g a0 1 ∧ ∃ b8, P a0 0 = some b8 ∧ zk g b8 3 ∧ ∃ (w11 : Int32), Cl mX3_sizeOf [.ref b8, .int x4] (g, I, P) (some (.int w11)) (g, I, P) ∧ zk g a0 1 ∧ ((w11 ≤ I a0 1) → Zt none mX1_oftenGoingOn 0 0 10 [(0, .ref a0), (1, .int x1), (2, .int x2), (3, .int x3), (4, .int (x4 + 1))] [] (g, I, P) r h') ∧ ((¬ w11 ≤ I a0 1) → zk g a0 1 ∧ ∃ b16, P a0 0 = some b16 ∧ zk g a0 1 ∧ zk g b16 3 ∧ ∃ (w19 : Int32), Cl mX3_letterOf [.ref b16, .int x4, .int (I a0 1)] (g, I, P) (some (.int w19)) (g, I, P) ∧ ((¬ w19 = x1) → Zt none mX1_oftenGoingOn 0 0 10 [(0, .ref a0), (1, .int x1), (2, .int x2), (3, .int x3), (4, .int (x4 + 1))] [] (g, I, P) r h') ∧ ((w19 = x1) → zk g a0 1 ∧ ∃ b24, P a0 0 = some b24 ∧ zk g b24 3 ∧ ∃ (w27 : Int32), Cl mX3_oftenOf [.ref b24, .int x4] (g, I, P) (some (.int w27)) (g, I, P) ∧ Zt none mX1_oftenGoingOn 0 0 10 [(0, .ref a0), (1, .int x1), (2, .int x2), (3, .int (x3 + w27)), (4, .int (x4 + 1))] [] (g, I, P) r h'))))) : Zt none mX1_oftenGoingOn 0 0 10 [(0, .ref a0), (1, .int x1), (2, .int x2), (3, .int x3), (4, .int x4)] [] (g, I, P) r h' := by
  refine z_iload 4 dX1_oftenGoingOn_10 rfl (z_bipush (w := 10) dX1_oftenGoingOn_12 (by decide) ?_)
  refine z_icmp_ge (t := 77) dX1_oftenGoingOn_14 (by decide) (fun q => ?_) (fun q => ?_)
  · have H1 := H.1 q
    refine z_iload_n 3 dX1_oftenGoingOn_77 rfl ?_
    obtain ⟨rfl, rfl⟩ := H1
    exact z_iret dX1_oftenGoingOn_78 rfl (by decide) (by decide)
  · have H2 := H.2 q
    refine z_iload_n 2 dX1_oftenGoingOn_17 rfl (z_iload 4 dX1_oftenGoingOn_18 rfl ?_)
    obtain ⟨w3, c4, H5⟩ := H2
    refine z_stat (As := [.int x2, .int x4]) (st := []) (r1 := (some (.int w3))) (h1 := (g, I, P)) dX1_oftenGoingOn_20 kX11_has wm_X1_61 ⟨by decide, by decide⟩ rfl rfl (Nat.le_of_ble_eq_true rfl) (by decide) (by decide) c4 ?_
    refine z_if_eq (t := 71) dX1_oftenGoingOn_23 (by decide) (fun q => ?_) (fun q => ?_)
    · have H6 := H5.1 q
      refine z_iinc (y := x4 + 1) (lv' := [(4, .int (x4 + 1)), (0, .ref a0), (1, .int x1), (2, .int x2), (3, .int x3)]) 4 dX1_oftenGoingOn_71 rfl rfl (by decide) rfl (z_goto (t := 10) dX1_oftenGoingOn_74 (by decide) ?_)
      exact z_less [1, 2, 3, 4, 0] rfl H6
    · have H7 := H5.2 q
      refine z_aload_n 0 dX1_oftenGoingOn_26 rfl rfl ?_
      obtain ⟨oe10, b8, e10, H9⟩ := H7
      refine z_getP dX1_oftenGoingOn_27 wf_X1_12 (by decide) (by decide) rfl oe10 (fun q => (by cases q.symm.trans e10)) (fun j q => ?_)
      cases q.symm.trans e10
      refine z_iload 4 dX1_oftenGoingOn_30 rfl ?_
      obtain ⟨oc12, w11, c12, H13⟩ := H9
      refine z_virt (As := [.int x4]) (st := []) (r1 := (some (.int w11))) (h1 := (g, I, P)) dX1_oftenGoingOn_32 kX3_sizeOf wm_X1_69 ⟨by decide, by decide⟩ rfl rfl (Nat.le_of_ble_eq_true rfl) (by decide) (by decide) oc12 c12 ?_
      refine z_aload_n 0 dX1_oftenGoingOn_35 rfl rfl (z_getI dX1_oftenGoingOn_36 wf_X1_41 (by decide) (by decide) rfl H13.1 ?_)
      refine z_icmp_le (t := 71) dX1_oftenGoingOn_39 (by decide) (fun q => ?_) (fun q => ?_)
      · have H14 := H13.2.1 q
        refine z_iinc (y := x4 + 1) (lv' := [(4, .int (x4 + 1)), (0, .ref a0), (1, .int x1), (2, .int x2), (3, .int x3)]) 4 dX1_oftenGoingOn_71 rfl rfl (by decide) rfl (z_goto (t := 10) dX1_oftenGoingOn_74 (by decide) ?_)
        exact z_less [1, 2, 3, 4, 0] rfl H14
      · have H15 := H13.2.2 q
        refine z_aload_n 0 dX1_oftenGoingOn_42 rfl rfl ?_
        obtain ⟨oe18, b16, e18, H17⟩ := H15
        refine z_getP dX1_oftenGoingOn_43 wf_X1_12 (by decide) (by decide) rfl oe18 (fun q => (by cases q.symm.trans e18)) (fun j q => ?_)
        cases q.symm.trans e18
        refine z_iload 4 dX1_oftenGoingOn_46 rfl (z_aload_n 0 dX1_oftenGoingOn_48 rfl rfl (z_getI dX1_oftenGoingOn_49 wf_X1_41 (by decide) (by decide) rfl H17.1 ?_))
        obtain ⟨oc20, w19, c20, H21⟩ := H17.2
        refine z_virt (As := [.int x4, .int (I a0 1)]) (st := []) (r1 := (some (.int w19))) (h1 := (g, I, P)) dX1_oftenGoingOn_52 kX3_letterOf wm_X1_72 ⟨by decide, by decide⟩ rfl rfl (Nat.le_of_ble_eq_true rfl) (by decide) (by decide) oc20 c20 ?_
        refine z_iload_n 1 dX1_oftenGoingOn_55 rfl ?_
        refine z_icmp_ne (t := 71) dX1_oftenGoingOn_56 (by decide) (fun q => ?_) (fun q => ?_)
        · have H22 := H21.1 q
          refine z_iinc (y := x4 + 1) (lv' := [(4, .int (x4 + 1)), (0, .ref a0), (1, .int x1), (2, .int x2), (3, .int x3)]) 4 dX1_oftenGoingOn_71 rfl rfl (by decide) rfl (z_goto (t := 10) dX1_oftenGoingOn_74 (by decide) ?_)
          exact z_less [1, 2, 3, 4, 0] rfl H22
        · have H23 := H21.2 q
          refine z_iload_n 3 dX1_oftenGoingOn_59 rfl (z_aload_n 0 dX1_oftenGoingOn_60 rfl rfl ?_)
          obtain ⟨oe26, b24, e26, H25⟩ := H23
          refine z_getP dX1_oftenGoingOn_61 wf_X1_12 (by decide) (by decide) rfl oe26 (fun q => (by cases q.symm.trans e26)) (fun j q => ?_)
          cases q.symm.trans e26
          refine z_iload 4 dX1_oftenGoingOn_64 rfl ?_
          obtain ⟨oc28, w27, c28, H29⟩ := H25
          refine z_virt (As := [.int x4]) (st := [.int x3]) (r1 := (some (.int w27))) (h1 := (g, I, P)) dX1_oftenGoingOn_66 kX3_oftenOf wm_X1_65 ⟨by decide, by decide⟩ rfl rfl (Nat.le_of_ble_eq_true rfl) (by decide) (by decide) oc28 c28 ?_
          refine z_iadd dX1_oftenGoingOn_69 (z_istore_n (lv' := [(3, .int (x3 + w27)), (0, .ref a0), (1, .int x1), (2, .int x2), (4, .int x4)]) dX1_oftenGoingOn_70 (by decide) rfl (z_iinc (y := x4 + 1) (lv' := [(4, .int (x4 + 1)), (3, .int (x3 + w27)), (0, .ref a0), (1, .int x1), (2, .int x2)]) 4 dX1_oftenGoingOn_71 rfl rfl (by decide) rfl (z_goto (t := 10) dX1_oftenGoingOn_74 (by decide) ?_)))
          exact z_less [2, 3, 4, 1, 0] rfl H29
theorem dX1_readings_0 : decode cX1_readings 0 = .ok (.aload_n 0, 1) := by decide +kernel
theorem dX1_readings_1 : decode cX1_readings 1 = .ok (.invokevirtual 82, 3) := by decide +kernel
theorem dX1_readings_4 : decode cX1_readings 4 = .ok (.iconst 0, 1) := by decide +kernel
theorem dX1_readings_5 : decode cX1_readings 5 = .ok (.istore_n 1, 1) := by decide +kernel
theorem dX1_readings_6 : decode cX1_readings 6 = .ok (.iconst 0, 1) := by decide +kernel
theorem dX1_readings_7 : decode cX1_readings 7 = .ok (.istore_n 2, 1) := by decide +kernel
theorem dX1_readings_8 : decode cX1_readings 8 = .ok (.iload_n 2, 1) := by decide +kernel
theorem dX1_readings_9 : decode cX1_readings 9 = .ok (.bipush 10, 2) := by decide +kernel
theorem dX1_readings_11 : decode cX1_readings 11 = .ok (.if_icmp .ge 20, 3) := by decide +kernel
theorem dX1_readings_14 : decode cX1_readings 14 = .ok (.iload_n 1, 1) := by decide +kernel
theorem dX1_readings_15 : decode cX1_readings 15 = .ok (.aload_n 0, 1) := by decide +kernel
theorem dX1_readings_16 : decode cX1_readings 16 = .ok (.getfield 22, 3) := by decide +kernel
theorem dX1_readings_19 : decode cX1_readings 19 = .ok (.iload_n 2, 1) := by decide +kernel
theorem dX1_readings_20 : decode cX1_readings 20 = .ok (.invokestatic 37, 3) := by decide +kernel
theorem dX1_readings_23 : decode cX1_readings 23 = .ok (.iadd, 1) := by decide +kernel
theorem dX1_readings_24 : decode cX1_readings 24 = .ok (.istore_n 1, 1) := by decide +kernel
theorem dX1_readings_25 : decode cX1_readings 25 = .ok (.iinc 2 1, 3) := by decide +kernel
theorem dX1_readings_28 : decode cX1_readings 28 = .ok (.goto (-20), 3) := by decide +kernel
theorem dX1_readings_31 : decode cX1_readings 31 = .ok (.iload_n 1, 1) := by decide +kernel
theorem dX1_readings_32 : decode cX1_readings 32 = .ok (.ireturn, 1) := by decide +kernel
set_option maxRecDepth 10000 in
theorem wX1_readings_0 {g : zG} {I : Nat → Nat → Int32} {P : Nat → Nat → Option Nat} {r : Option Value} {h' : zH} {a0 : Nat} (H : zk g a0 1 ∧ ∃ (I1 : Nat → Nat → Int32), Cl mX1_countReadings [.ref a0] (g, I, P) none (g, I1, P) ∧ Zt none mX1_readings 0 0 8 [(0, .ref a0), (1, .int 0), (2, .int 0)] [] (g, I1, P) r h') : Zt none mX1_readings 0 0 0 [(0, .ref a0)] [] (g, I, P) r h' := by
  refine z_aload_n 0 dX1_readings_0 rfl rfl ?_
  obtain ⟨oc2, I1, c2, H3⟩ := H
  refine z_virt (As := []) (st := []) (r1 := none) (h1 := (g, I1, P)) dX1_readings_1 kX1_countReadings wm_X1_82 ⟨by decide, by decide⟩ rfl rfl (Nat.le_of_ble_eq_true rfl) (by decide) (by decide) oc2 c2 ?_
  refine z_iconst (w := 0) dX1_readings_4 (by decide) (z_istore_n (lv' := [(1, .int 0), (0, .ref a0)]) dX1_readings_5 (by decide) rfl (z_iconst (w := 0) dX1_readings_6 (by decide) (z_istore_n (lv' := [(2, .int 0), (1, .int 0), (0, .ref a0)]) dX1_readings_7 (by decide) rfl ?_)))
  exact z_less [2, 1, 0] rfl H3
theorem eX1_readings {g : zG} {I : Nat → Nat → Int32} {P : Nat → Nat → Option Nat} {r : Option Value} {h' : zH} {a0 : Nat} (H : Zt none mX1_readings 0 0 0 [(0, .ref a0)] [] (g, I, P) r h') : Cl mX1_readings [.ref a0] (g, I, P) r h' := Cl.of (by decide) (Nat.le_of_ble_eq_true rfl) H
set_option maxRecDepth 10000 in
theorem wX1_readings_8 {g : zG} {I : Nat → Nat → Int32} {P : Nat → Nat → Option Nat} {r : Option Value} {h' : zH} {a0 : Nat} {x1 : Int32} {x2 : Int32} (H : ((10 ≤ x2) → r = some (.int x1) ∧ h' = (g, I, P)) ∧ ((¬ 10 ≤ x2) → zk g a0 1 ∧ ∃ b3, P a0 3 = some b3 ∧ ∃ (w6 : Int32), Cl mX11_got [.ref b3, .int x2] (g, I, P) (some (.int w6)) (g, I, P) ∧ Zt none mX1_readings 0 0 8 [(0, .ref a0), (1, .int (x1 + w6)), (2, .int (x2 + 1))] [] (g, I, P) r h')) : Zt none mX1_readings 0 0 8 [(0, .ref a0), (1, .int x1), (2, .int x2)] [] (g, I, P) r h' := by
  refine z_iload_n 2 dX1_readings_8 rfl (z_bipush (w := 10) dX1_readings_9 (by decide) ?_)
  refine z_icmp_ge (t := 31) dX1_readings_11 (by decide) (fun q => ?_) (fun q => ?_)
  · have H1 := H.1 q
    refine z_iload_n 1 dX1_readings_31 rfl ?_
    obtain ⟨rfl, rfl⟩ := H1
    exact z_iret dX1_readings_32 rfl (by decide) (by decide)
  · have H2 := H.2 q
    refine z_iload_n 1 dX1_readings_14 rfl (z_aload_n 0 dX1_readings_15 rfl rfl ?_)
    obtain ⟨oe5, b3, e5, H4⟩ := H2
    refine z_getP dX1_readings_16 wf_X1_22 (by decide) (by decide) rfl oe5 (fun q => (by cases q.symm.trans e5)) (fun j q => ?_)
    cases q.symm.trans e5
    refine z_iload_n 2 dX1_readings_19 rfl ?_
    obtain ⟨w6, c7, H8⟩ := H4
    refine z_stat (As := [.ref b3, .int x2]) (st := [.int x1]) (r1 := (some (.int w6))) (h1 := (g, I, P)) dX1_readings_20 kX11_got wm_X1_37 ⟨by decide, by decide⟩ rfl rfl (Nat.le_of_ble_eq_true rfl) (by decide) (by decide) c7 ?_
    refine z_iadd dX1_readings_23 (z_istore_n (lv' := [(1, .int (x1 + w6)), (0, .ref a0), (2, .int x2)]) dX1_readings_24 (by decide) rfl (z_iinc (y := x2 + 1) (lv' := [(2, .int (x2 + 1)), (1, .int (x1 + w6)), (0, .ref a0)]) 2 dX1_readings_25 rfl rfl (by decide) rfl (z_goto (t := 8) dX1_readings_28 (by decide) ?_)))
    exact z_less [2, 1, 0] rfl H8
theorem dX1_countReadings_0 : decode cX1_countReadings 0 = .ok (.aload_n 0, 1) := by decide +kernel
theorem dX1_countReadings_1 : decode cX1_countReadings 1 = .ok (.getfield 22, 3) := by decide +kernel
theorem dX1_countReadings_4 : decode cX1_countReadings 4 = .ok (.iconst 0, 1) := by decide +kernel
theorem dX1_countReadings_5 : decode cX1_countReadings 5 = .ok (.invokestatic 85, 3) := by decide +kernel
theorem dX1_countReadings_8 : decode cX1_countReadings 8 = .ok (.aload_n 0, 1) := by decide +kernel
theorem dX1_countReadings_9 : decode cX1_countReadings 9 = .ok (.getfield 41, 3) := by decide +kernel
theorem dX1_countReadings_12 : decode cX1_countReadings 12 = .ok (.iconst 1, 1) := by decide +kernel
theorem dX1_countReadings_13 : decode cX1_countReadings 13 = .ok (.isub, 1) := by decide +kernel
theorem dX1_countReadings_14 : decode cX1_countReadings 14 = .ok (.istore_n 1, 1) := by decide +kernel
theorem dX1_countReadings_15 : decode cX1_countReadings 15 = .ok (.iload_n 1, 1) := by decide +kernel
theorem dX1_countReadings_16 : decode cX1_countReadings 16 = .ok (.ifCond .lt 102, 3) := by decide +kernel
theorem dX1_countReadings_19 : decode cX1_countReadings 19 = .ok (.iconst 0, 1) := by decide +kernel
theorem dX1_countReadings_20 : decode cX1_countReadings 20 = .ok (.istore_n 2, 1) := by decide +kernel
theorem dX1_countReadings_21 : decode cX1_countReadings 21 = .ok (.iload_n 2, 1) := by decide +kernel
theorem dX1_countReadings_22 : decode cX1_countReadings 22 = .ok (.aload_n 0, 1) := by decide +kernel
theorem dX1_countReadings_23 : decode cX1_countReadings 23 = .ok (.getfield 12, 3) := by decide +kernel
theorem dX1_countReadings_26 : decode cX1_countReadings 26 = .ok (.getfield 91, 3) := by decide +kernel
theorem dX1_countReadings_29 : decode cX1_countReadings 29 = .ok (.if_icmp .ge 83, 3) := by decide +kernel
theorem dX1_countReadings_32 : decode cX1_countReadings 32 = .ok (.iload_n 1, 1) := by decide +kernel
theorem dX1_countReadings_33 : decode cX1_countReadings 33 = .ok (.aload_n 0, 1) := by decide +kernel
theorem dX1_countReadings_34 : decode cX1_countReadings 34 = .ok (.getfield 12, 3) := by decide +kernel
theorem dX1_countReadings_37 : decode cX1_countReadings 37 = .ok (.iload_n 2, 1) := by decide +kernel
theorem dX1_countReadings_38 : decode cX1_countReadings 38 = .ok (.invokevirtual 69, 3) := by decide +kernel
theorem dX1_countReadings_41 : decode cX1_countReadings 41 = .ok (.iadd, 1) := by decide +kernel
theorem dX1_countReadings_42 : decode cX1_countReadings 42 = .ok (.istore_n 3, 1) := by decide +kernel
theorem dX1_countReadings_43 : decode cX1_countReadings 43 = .ok (.iload_n 3, 1) := by decide +kernel
theorem dX1_countReadings_44 : decode cX1_countReadings 44 = .ok (.aload_n 0, 1) := by decide +kernel
theorem dX1_countReadings_45 : decode cX1_countReadings 45 = .ok (.getfield 41, 3) := by decide +kernel
theorem dX1_countReadings_48 : decode cX1_countReadings 48 = .ok (.if_icmp .gt 58, 3) := by decide +kernel
theorem dX1_countReadings_51 : decode cX1_countReadings 51 = .ok (.aload_n 0, 1) := by decide +kernel
theorem dX1_countReadings_52 : decode cX1_countReadings 52 = .ok (.getfield 12, 3) := by decide +kernel
theorem dX1_countReadings_55 : decode cX1_countReadings 55 = .ok (.iload_n 2, 1) := by decide +kernel
theorem dX1_countReadings_56 : decode cX1_countReadings 56 = .ok (.aload_n 0, 1) := by decide +kernel
theorem dX1_countReadings_57 : decode cX1_countReadings 57 = .ok (.getfield 18, 3) := by decide +kernel
theorem dX1_countReadings_60 : decode cX1_countReadings 60 = .ok (.iload_n 1, 1) := by decide +kernel
theorem dX1_countReadings_61 : decode cX1_countReadings 61 = .ok (.aload_n 0, 1) := by decide +kernel
theorem dX1_countReadings_62 : decode cX1_countReadings 62 = .ok (.getfield 12, 3) := by decide +kernel
theorem dX1_countReadings_65 : decode cX1_countReadings 65 = .ok (.iload_n 2, 1) := by decide +kernel
theorem dX1_countReadings_66 : decode cX1_countReadings 66 = .ok (.invokevirtual 69, 3) := by decide +kernel
theorem dX1_countReadings_69 : decode cX1_countReadings 69 = .ok (.invokevirtual 94, 3) := by decide +kernel
theorem dX1_countReadings_72 : decode cX1_countReadings 72 = .ok (.ifCond .ne 34, 3) := by decide +kernel
theorem dX1_countReadings_75 : decode cX1_countReadings 75 = .ok (.aload_n 0, 1) := by decide +kernel
theorem dX1_countReadings_76 : decode cX1_countReadings 76 = .ok (.getfield 22, 3) := by decide +kernel
theorem dX1_countReadings_79 : decode cX1_countReadings 79 = .ok (.iload_n 1, 1) := by decide +kernel
theorem dX1_countReadings_80 : decode cX1_countReadings 80 = .ok (.bipush 10, 2) := by decide +kernel
theorem dX1_countReadings_82 : decode cX1_countReadings 82 = .ok (.imul, 1) := by decide +kernel
theorem dX1_countReadings_83 : decode cX1_countReadings 83 = .ok (.iload_n 2, 1) := by decide +kernel
theorem dX1_countReadings_84 : decode cX1_countReadings 84 = .ok (.iadd, 1) := by decide +kernel
theorem dX1_countReadings_85 : decode cX1_countReadings 85 = .ok (.iload_n 3, 1) := by decide +kernel
theorem dX1_countReadings_86 : decode cX1_countReadings 86 = .ok (.aload_n 0, 1) := by decide +kernel
theorem dX1_countReadings_87 : decode cX1_countReadings 87 = .ok (.getfield 41, 3) := by decide +kernel
theorem dX1_countReadings_90 : decode cX1_countReadings 90 = .ok (.if_icmp .ne 7, 3) := by decide +kernel
theorem dX1_countReadings_93 : decode cX1_countReadings 93 = .ok (.iconst 1, 1) := by decide +kernel
theorem dX1_countReadings_94 : decode cX1_countReadings 94 = .ok (.goto 9, 3) := by decide +kernel
theorem dX1_countReadings_97 : decode cX1_countReadings 97 = .ok (.aload_n 0, 1) := by decide +kernel
theorem dX1_countReadings_98 : decode cX1_countReadings 98 = .ok (.iload_n 3, 1) := by decide +kernel
theorem dX1_countReadings_99 : decode cX1_countReadings 99 = .ok (.iload_n 2, 1) := by decide +kernel
theorem dX1_countReadings_100 : decode cX1_countReadings 100 = .ok (.invokevirtual 98, 3) := by decide +kernel
theorem dX1_countReadings_103 : decode cX1_countReadings 103 = .ok (.invokestatic 49, 3) := by decide +kernel
theorem dX1_countReadings_106 : decode cX1_countReadings 106 = .ok (.iinc 2 1, 3) := by decide +kernel
theorem dX1_countReadings_109 : decode cX1_countReadings 109 = .ok (.goto (-88), 3) := by decide +kernel
theorem dX1_countReadings_112 : decode cX1_countReadings 112 = .ok (.iinc 1 (-1), 3) := by decide +kernel
theorem dX1_countReadings_115 : decode cX1_countReadings 115 = .ok (.goto (-100), 3) := by decide +kernel
theorem dX1_countReadings_118 : decode cX1_countReadings 118 = .ok (.return_, 1) := by decide +kernel
set_option maxRecDepth 10000 in
theorem wX1_countReadings_0 {g : zG} {I : Nat → Nat → Int32} {P : Nat → Nat → Option Nat} {r : Option Value} {h' : zH} {a0 : Nat} (H : zk g a0 1 ∧ ∃ b1, P a0 3 = some b1 ∧ ∃ (I4 : Nat → Nat → Int32), Cl mJ7_fill_53178 [.ref b1, .int 0] (g, I, P) none (g, I4, P) ∧ zk g a0 1 ∧ Zt none mX1_countReadings 0 0 15 [(0, .ref a0), (1, .int ((I4 a0 1) - 1))] [] (g, I4, P) r h') : Zt none mX1_countReadings 0 0 0 [(0, .ref a0)] [] (g, I, P) r h' := by
  refine z_aload_n 0 dX1_countReadings_0 rfl rfl ?_
  obtain ⟨oe3, b1, e3, H2⟩ := H
  refine z_getP dX1_countReadings_1 wf_X1_22 (by decide) (by decide) rfl oe3 (fun q => (by cases q.symm.trans e3)) (fun j q => ?_)
  cases q.symm.trans e3
  refine z_iconst (w := 0) dX1_countReadings_4 (by decide) ?_
  obtain ⟨I4, c5, H6⟩ := H2
  refine z_stat (As := [.ref b1, .int 0]) (st := []) (r1 := none) (h1 := (g, I4, P)) dX1_countReadings_5 kJ7_fill_53178 wm_X1_85 ⟨by decide, by decide⟩ rfl rfl (Nat.le_of_ble_eq_true rfl) (by decide) (by decide) c5 ?_
  refine z_aload_n 0 dX1_countReadings_8 rfl rfl (z_getI dX1_countReadings_9 wf_X1_41 (by decide) (by decide) rfl H6.1 (z_iconst (w := 1) dX1_countReadings_12 (by decide) (z_isub dX1_countReadings_13 (z_istore_n (lv' := [(1, .int ((I4 a0 1) - 1)), (0, .ref a0)]) dX1_countReadings_14 (by decide) rfl ?_))))
  exact z_less [1, 0] rfl H6.2
theorem eX1_countReadings {g : zG} {I : Nat → Nat → Int32} {P : Nat → Nat → Option Nat} {r : Option Value} {h' : zH} {a0 : Nat} (H : Zt none mX1_countReadings 0 0 0 [(0, .ref a0)] [] (g, I, P) r h') : Cl mX1_countReadings [.ref a0] (g, I, P) r h' := Cl.of (by decide) (Nat.le_of_ble_eq_true rfl) H
set_option maxRecDepth 10000 in
theorem wX1_countReadings_15 {g : zG} {I : Nat → Nat → Int32} {P : Nat → Nat → Option Nat} {r : Option Value} {h' : zH} {a0 : Nat} {x1 : Int32} (H : ((x1 < 0) → r = none ∧ h' = (g, I, P)) ∧ ((¬ x1 < 0) → Zt none mX1_countReadings 0 0 21 [(0, .ref a0), (1, .int x1), (2, .int 0)] [] (g, I, P) r h')) : Zt none mX1_countReadings 0 0 15 [(0, .ref a0), (1, .int x1)] [] (g, I, P) r h' := by
  refine z_iload_n 1 dX1_countReadings_15 rfl ?_
  refine z_if_lt (t := 118) dX1_countReadings_16 (by decide) (fun q => ?_) (fun q => ?_)
  · have H1 := H.1 q
    obtain ⟨rfl, rfl⟩ := H1
    exact z_vret dX1_countReadings_118 rfl (by decide) (by decide)
  · have H2 := H.2 q
    refine z_iconst (w := 0) dX1_countReadings_19 (by decide) (z_istore_n (lv' := [(2, .int 0), (0, .ref a0), (1, .int x1)]) dX1_countReadings_20 (by decide) rfl ?_)
    exact z_less [1, 2, 0] rfl H2
set_option maxRecDepth 10000 in
theorem wX1_countReadings_21 {g : zG} {I : Nat → Nat → Int32} {P : Nat → Nat → Option Nat} {r : Option Value} {h' : zH} {a0 : Nat} {x1 : Int32} {x2 : Int32} (H : zk g a0 1 ∧ ∃ b1, P a0 0 = some b1 ∧ zk g b1 3 ∧ ((I b1 1 ≤ x2) → Zt none mX1_countReadings 0 0 15 [(0, .ref a0), (1, .int (x1 + (-1)))] [] (g, I, P) r h') ∧ ((¬ I b1 1 ≤ x2) → zk g a0 1 ∧ ∃ b6, P a0 0 = some b6 ∧ zk g b6 3 ∧ ∃ (w9 : Int32), Cl mX3_sizeOf [.ref b6, .int x2] (g, I, P) (some (.int w9)) (g, I, P) ∧ zk g a0 1 ∧ ((I a0 1 < x1 + w9) → Zt none mX1_countReadings 0 0 21 [(0, .ref a0), (1, .int x1), (2, .int (x2 + 1))] [] (g, I, P) r h') ∧ ((¬ I a0 1 < x1 + w9) → zk g a0 1 ∧ ∃ b14, P a0 0 = some b14 ∧ zk g a0 1 ∧ ∃ b17, P a0 2 = some b17 ∧ zk g a0 1 ∧ ∃ b20, P a0 0 = some b20 ∧ zk g b20 3 ∧ ∃ (w23 : Int32), Cl mX3_sizeOf [.ref b20, .int x2] (g, I, P) (some (.int w23)) (g, I, P) ∧ zk g b14 3 ∧ ∃ (w26 : Int32), Cl mX3_changesAt [.ref b14, .int x2, .ref b17, .int x1, .int w23] (g, I, P) (some (.int w26)) (g, I, P) ∧ ((¬ w26 = 0) → Zt none mX1_countReadings 0 0 21 [(0, .ref a0), (1, .int x1), (2, .int (x2 + 1))] [] (g, I, P) r h') ∧ ((w26 = 0) → zk g a0 1 ∧ ∃ b31, P a0 3 = some b31 ∧ zk g a0 1 ∧ ((¬ (x1 + w9) = I a0 1) → zk g a0 1 ∧ ∃ (w35 : Int32), Cl mX1_readingsBehind [.ref a0, .int (x1 + w9), .int x2] (g, I, P) (some (.int w35)) (g, I, P) ∧ ∃ (I38 : Nat → Nat → Int32), Cl mX11_put [.ref b31, .int ((x1 * 10) + x2), .int w35] (g, I, P) none (g, I38, P) ∧ Zt none mX1_countReadings 0 0 21 [(0, .ref a0), (1, .int x1), (2, .int (x2 + 1))] [] (g, I38, P) r h') ∧ ((x1 + w9 = I a0 1) → ∃ (I42 : Nat → Nat → Int32), Cl mX11_put [.ref b31, .int ((x1 * 10) + x2), .int 1] (g, I, P) none (g, I42, P) ∧ Zt none mX1_countReadings 0 0 21 [(0, .ref a0), (1, .int x1), (2, .int (x2 + 1))] [] (g, I42, P) r h'))))) : Zt none mX1_countReadings 0 0 21 [(0, .ref a0), (1, .int x1), (2, .int x2)] [] (g, I, P) r h' := by
  refine z_iload_n 2 dX1_countReadings_21 rfl (z_aload_n 0 dX1_countReadings_22 rfl rfl ?_)
  obtain ⟨oe3, b1, e3, H2⟩ := H
  refine z_getP dX1_countReadings_23 wf_X1_12 (by decide) (by decide) rfl oe3 (fun q => (by cases q.symm.trans e3)) (fun j q => ?_)
  cases q.symm.trans e3
  refine z_getI dX1_countReadings_26 wf_X1_91 (by decide) (by decide) rfl H2.1 ?_
  refine z_icmp_ge (t := 112) dX1_countReadings_29 (by decide) (fun q => ?_) (fun q => ?_)
  · have H4 := H2.2.1 q
    refine z_iinc (y := x1 + (-1)) (lv' := [(1, .int (x1 + (-1))), (0, .ref a0), (2, .int x2)]) 1 dX1_countReadings_112 rfl rfl (by decide) rfl (z_goto (t := 15) dX1_countReadings_115 (by decide) ?_)
    exact z_less [1, 0] rfl H4
  · have H5 := H2.2.2 q
    refine z_iload_n 1 dX1_countReadings_32 rfl (z_aload_n 0 dX1_countReadings_33 rfl rfl ?_)
    obtain ⟨oe8, b6, e8, H7⟩ := H5
    refine z_getP dX1_countReadings_34 wf_X1_12 (by decide) (by decide) rfl oe8 (fun q => (by cases q.symm.trans e8)) (fun j q => ?_)
    cases q.symm.trans e8
    refine z_iload_n 2 dX1_countReadings_37 rfl ?_
    obtain ⟨oc10, w9, c10, H11⟩ := H7
    refine z_virt (As := [.int x2]) (st := [.int x1]) (r1 := (some (.int w9))) (h1 := (g, I, P)) dX1_countReadings_38 kX3_sizeOf wm_X1_69 ⟨by decide, by decide⟩ rfl rfl (Nat.le_of_ble_eq_true rfl) (by decide) (by decide) oc10 c10 ?_
    refine z_iadd dX1_countReadings_41 (z_istore_n (lv' := [(3, .int (x1 + w9)), (0, .ref a0), (1, .int x1), (2, .int x2)]) dX1_countReadings_42 (by decide) rfl (z_iload_n 0 dX1_countReadings_43 rfl (z_aload_n 1 dX1_countReadings_44 rfl rfl (z_getI dX1_countReadings_45 wf_X1_41 (by decide) (by decide) rfl H11.1 ?_))))
    refine z_icmp_gt (t := 106) dX1_countReadings_48 (by decide) (fun q => ?_) (fun q => ?_)
    · have H12 := H11.2.1 q
      refine z_iinc (y := x2 + 1) (lv' := [(2, .int (x2 + 1)), (3, .int (x1 + w9)), (0, .ref a0), (1, .int x1)]) 3 dX1_countReadings_106 rfl rfl (by decide) rfl (z_goto (t := 21) dX1_countReadings_109 (by decide) ?_)
      exact z_less [2, 3, 0] rfl H12
    · have H13 := H11.2.2 q
      refine z_aload_n 1 dX1_countReadings_51 rfl rfl ?_
      obtain ⟨oe16, b14, e16, H15⟩ := H13
      refine z_getP dX1_countReadings_52 wf_X1_12 (by decide) (by decide) rfl oe16 (fun q => (by cases q.symm.trans e16)) (fun j q => ?_)
      cases q.symm.trans e16
      refine z_iload_n 3 dX1_countReadings_55 rfl (z_aload_n 1 dX1_countReadings_56 rfl rfl ?_)
      obtain ⟨oe19, b17, e19, H18⟩ := H15
      refine z_getP dX1_countReadings_57 wf_X1_18 (by decide) (by decide) rfl oe19 (fun q => (by cases q.symm.trans e19)) (fun j q => ?_)
      cases q.symm.trans e19
      refine z_iload_n 2 dX1_countReadings_60 rfl (z_aload_n 1 dX1_countReadings_61 rfl rfl ?_)
      obtain ⟨oe22, b20, e22, H21⟩ := H18
      refine z_getP dX1_countReadings_62 wf_X1_12 (by decide) (by decide) rfl oe22 (fun q => (by cases q.symm.trans e22)) (fun j q => ?_)
      cases q.symm.trans e22
      refine z_iload_n 3 dX1_countReadings_65 rfl ?_
      obtain ⟨oc24, w23, c24, H25⟩ := H21
      refine z_virt (As := [.int x2]) (st := [.int x1, .ref b17, .int x2, .ref b14]) (r1 := (some (.int w23))) (h1 := (g, I, P)) dX1_countReadings_66 kX3_sizeOf wm_X1_69 ⟨by decide, by decide⟩ rfl rfl (Nat.le_of_ble_eq_true rfl) (by decide) (by decide) oc24 c24 ?_
      obtain ⟨oc27, w26, c27, H28⟩ := H25
      refine z_virt (As := [.int x2, .ref b17, .int x1, .int w23]) (st := []) (r1 := (some (.int w26))) (h1 := (g, I, P)) dX1_countReadings_69 kX3_changesAt wm_X1_94 ⟨by decide, by decide⟩ rfl rfl (Nat.le_of_ble_eq_true rfl) (by decide) (by decide) oc27 c27 ?_
      refine z_if_ne (t := 106) dX1_countReadings_72 (by decide) (fun q => ?_) (fun q => ?_)
      · have H29 := H28.1 q
        refine z_iinc (y := x2 + 1) (lv' := [(2, .int (x2 + 1)), (3, .int (x1 + w9)), (0, .ref a0), (1, .int x1)]) 3 dX1_countReadings_106 rfl rfl (by decide) rfl (z_goto (t := 21) dX1_countReadings_109 (by decide) ?_)
        exact z_less [2, 3, 0] rfl H29
      · have H30 := H28.2 q
        refine z_aload_n 1 dX1_countReadings_75 rfl rfl ?_
        obtain ⟨oe33, b31, e33, H32⟩ := H30
        refine z_getP dX1_countReadings_76 wf_X1_22 (by decide) (by decide) rfl oe33 (fun q => (by cases q.symm.trans e33)) (fun j q => ?_)
        cases q.symm.trans e33
        refine z_iload_n 2 dX1_countReadings_79 rfl (z_bipush (w := 10) dX1_countReadings_80 (by decide) (z_imul dX1_countReadings_82 (z_iload_n 3 dX1_countReadings_83 rfl (z_iadd dX1_countReadings_84 (z_iload_n 0 dX1_countReadings_85 rfl (z_aload_n 1 dX1_countReadings_86 rfl rfl (z_getI dX1_countReadings_87 wf_X1_41 (by decide) (by decide) rfl H32.1 ?_)))))))
        refine z_icmp_ne (t := 97) dX1_countReadings_90 (by decide) (fun q => ?_) (fun q => ?_)
        · have H34 := H32.2.1 q
          refine z_aload_n 1 dX1_countReadings_97 rfl rfl (z_iload_n 0 dX1_countReadings_98 rfl (z_iload_n 3 dX1_countReadings_99 rfl ?_))
          obtain ⟨oc36, w35, c36, H37⟩ := H34
          refine z_virt (As := [.int (x1 + w9), .int x2]) (st := [.int ((x1 * 10) + x2), .ref b31]) (r1 := (some (.int w35))) (h1 := (g, I, P)) dX1_countReadings_100 kX1_readingsBehind wm_X1_98 ⟨by decide, by decide⟩ rfl rfl (Nat.le_of_ble_eq_true rfl) (by decide) (by decide) oc36 c36 ?_
          obtain ⟨I38, c39, H40⟩ := H37
          refine z_stat (As := [.ref b31, .int ((x1 * 10) + x2), .int w35]) (st := []) (r1 := none) (h1 := (g, I38, P)) dX1_countReadings_103 kX11_put wm_X1_49 ⟨by decide, by decide⟩ rfl rfl (Nat.le_of_ble_eq_true rfl) (by decide) (by decide) c39 ?_
          refine z_iinc (y := x2 + 1) (lv' := [(2, .int (x2 + 1)), (3, .int (x1 + w9)), (0, .ref a0), (1, .int x1)]) 3 dX1_countReadings_106 rfl rfl (by decide) rfl (z_goto (t := 21) dX1_countReadings_109 (by decide) ?_)
          exact z_less [2, 3, 0] rfl H40
        · have H41 := H32.2.2 q
          refine z_iconst (w := 1) dX1_countReadings_93 (by decide) (z_goto (t := 103) dX1_countReadings_94 (by decide) ?_)
          obtain ⟨I42, c43, H44⟩ := H41
          refine z_stat (As := [.ref b31, .int ((x1 * 10) + x2), .int 1]) (st := []) (r1 := none) (h1 := (g, I42, P)) dX1_countReadings_103 kX11_put wm_X1_49 ⟨by decide, by decide⟩ rfl rfl (Nat.le_of_ble_eq_true rfl) (by decide) (by decide) c43 ?_
          refine z_iinc (y := x2 + 1) (lv' := [(2, .int (x2 + 1)), (3, .int (x1 + w9)), (0, .ref a0), (1, .int x1)]) 3 dX1_countReadings_106 rfl rfl (by decide) rfl (z_goto (t := 21) dX1_countReadings_109 (by decide) ?_)
          exact z_less [2, 3, 0] rfl H44
theorem dX1_readingsBehind_0 : decode cX1_readingsBehind 0 = .ok (.aload_n 0, 1) := by decide +kernel
theorem dX1_readingsBehind_1 : decode cX1_readingsBehind 1 = .ok (.getfield 12, 3) := by decide +kernel
theorem dX1_readingsBehind_4 : decode cX1_readingsBehind 4 = .ok (.iload_n 2, 1) := by decide +kernel
theorem dX1_readingsBehind_5 : decode cX1_readingsBehind 5 = .ok (.invokevirtual 101, 3) := by decide +kernel
theorem dX1_readingsBehind_8 : decode cX1_readingsBehind 8 = .ok (.istore_n 3, 1) := by decide +kernel
theorem dX1_readingsBehind_9 : decode cX1_readingsBehind 9 = .ok (.iconst 0, 1) := by decide +kernel
theorem dX1_readingsBehind_10 : decode cX1_readingsBehind 10 = .ok (.istore 4, 2) := by decide +kernel
theorem dX1_readingsBehind_12 : decode cX1_readingsBehind 12 = .ok (.iconst 0, 1) := by decide +kernel
theorem dX1_readingsBehind_13 : decode cX1_readingsBehind 13 = .ok (.istore 5, 2) := by decide +kernel
theorem dX1_readingsBehind_15 : decode cX1_readingsBehind 15 = .ok (.iload 5, 2) := by decide +kernel
theorem dX1_readingsBehind_17 : decode cX1_readingsBehind 17 = .ok (.bipush 10, 2) := by decide +kernel
theorem dX1_readingsBehind_19 : decode cX1_readingsBehind 19 = .ok (.if_icmp .ge 37, 3) := by decide +kernel
theorem dX1_readingsBehind_22 : decode cX1_readingsBehind 22 = .ok (.iload_n 3, 1) := by decide +kernel
theorem dX1_readingsBehind_23 : decode cX1_readingsBehind 23 = .ok (.iload 5, 2) := by decide +kernel
theorem dX1_readingsBehind_25 : decode cX1_readingsBehind 25 = .ok (.invokestatic 61, 3) := by decide +kernel
theorem dX1_readingsBehind_28 : decode cX1_readingsBehind 28 = .ok (.ifCond .eq 22, 3) := by decide +kernel
theorem dX1_readingsBehind_31 : decode cX1_readingsBehind 31 = .ok (.iload 4, 2) := by decide +kernel
theorem dX1_readingsBehind_33 : decode cX1_readingsBehind 33 = .ok (.aload_n 0, 1) := by decide +kernel
theorem dX1_readingsBehind_34 : decode cX1_readingsBehind 34 = .ok (.getfield 22, 3) := by decide +kernel
theorem dX1_readingsBehind_37 : decode cX1_readingsBehind 37 = .ok (.iload_n 1, 1) := by decide +kernel
theorem dX1_readingsBehind_38 : decode cX1_readingsBehind 38 = .ok (.bipush 10, 2) := by decide +kernel
theorem dX1_readingsBehind_40 : decode cX1_readingsBehind 40 = .ok (.imul, 1) := by decide +kernel
theorem dX1_readingsBehind_41 : decode cX1_readingsBehind 41 = .ok (.iload 5, 2) := by decide +kernel
theorem dX1_readingsBehind_43 : decode cX1_readingsBehind 43 = .ok (.iadd, 1) := by decide +kernel
theorem dX1_readingsBehind_44 : decode cX1_readingsBehind 44 = .ok (.invokestatic 37, 3) := by decide +kernel
theorem dX1_readingsBehind_47 : decode cX1_readingsBehind 47 = .ok (.iadd, 1) := by decide +kernel
theorem dX1_readingsBehind_48 : decode cX1_readingsBehind 48 = .ok (.istore 4, 2) := by decide +kernel
theorem dX1_readingsBehind_50 : decode cX1_readingsBehind 50 = .ok (.iinc 5 1, 3) := by decide +kernel
theorem dX1_readingsBehind_53 : decode cX1_readingsBehind 53 = .ok (.goto (-38), 3) := by decide +kernel
theorem dX1_readingsBehind_56 : decode cX1_readingsBehind 56 = .ok (.iload 4, 2) := by decide +kernel
theorem dX1_readingsBehind_58 : decode cX1_readingsBehind 58 = .ok (.ireturn, 1) := by decide +kernel
set_option maxRecDepth 10000 in
theorem wX1_readingsBehind_0 {g : zG} {I : Nat → Nat → Int32} {P : Nat → Nat → Option Nat} {r : Option Value} {h' : zH} {a0 : Nat} {x1 : Int32} {x2 : Int32} (H : zk g a0 1 ∧ ∃ b1, P a0 0 = some b1 ∧ zk g b1 3 ∧ ∃ (w4 : Int32), Cl mX3_behind [.ref b1, .int x2] (g, I, P) (some (.int w4)) (g, I, P) ∧ Zt none mX1_readingsBehind 0 0 15 [(0, .ref a0), (1, .int x1), (3, .int w4), (4, .int 0), (5, .int 0)] [] (g, I, P) r h') : Zt none mX1_readingsBehind 0 0 0 [(0, .ref a0), (1, .int x1), (2, .int x2)] [] (g, I, P) r h' := by
  refine z_aload_n 0 dX1_readingsBehind_0 rfl rfl ?_
  obtain ⟨oe3, b1, e3, H2⟩ := H
  refine z_getP dX1_readingsBehind_1 wf_X1_12 (by decide) (by decide) rfl oe3 (fun q => (by cases q.symm.trans e3)) (fun j q => ?_)
  cases q.symm.trans e3
  refine z_iload_n 2 dX1_readingsBehind_4 rfl ?_
  obtain ⟨oc5, w4, c5, H6⟩ := H2
  refine z_virt (As := [.int x2]) (st := []) (r1 := (some (.int w4))) (h1 := (g, I, P)) dX1_readingsBehind_5 kX3_behind wm_X1_101 ⟨by decide, by decide⟩ rfl rfl (Nat.le_of_ble_eq_true rfl) (by decide) (by decide) oc5 c5 ?_
  refine z_istore_n (lv' := [(3, .int w4), (0, .ref a0), (1, .int x1), (2, .int x2)]) dX1_readingsBehind_8 (by decide) rfl (z_iconst (w := 0) dX1_readingsBehind_9 (by decide) (z_istore (lv' := [(4, .int 0), (3, .int w4), (0, .ref a0), (1, .int x1), (2, .int x2)]) dX1_readingsBehind_10 (by decide) rfl (z_iconst (w := 0) dX1_readingsBehind_12 (by decide) (z_istore (lv' := [(5, .int 0), (4, .int 0), (3, .int w4), (0, .ref a0), (1, .int x1), (2, .int x2)]) dX1_readingsBehind_13 (by decide) rfl ?_))))
  exact z_less [3, 4, 2, 1, 0] rfl H6
theorem eX1_readingsBehind {g : zG} {I : Nat → Nat → Int32} {P : Nat → Nat → Option Nat} {r : Option Value} {h' : zH} {a0 : Nat} {x1 : Int32} {x2 : Int32} (H : Zt none mX1_readingsBehind 0 0 0 [(0, .ref a0), (1, .int x1), (2, .int x2)] [] (g, I, P) r h') : Cl mX1_readingsBehind [.ref a0, .int x1, .int x2] (g, I, P) r h' := Cl.of (by decide) (Nat.le_of_ble_eq_true rfl) H
set_option maxRecDepth 10000 in
theorem wX1_readingsBehind_15 {g : zG} {I : Nat → Nat → Int32} {P : Nat → Nat → Option Nat} {r : Option Value} {h' : zH} {a0 : Nat} {x1 : Int32} {x3 : Int32} {x4 : Int32} {x5 : Int32} (H : ((10 ≤ x5) → r = some (.int x4) ∧ h' = (g, I, P)) ∧ ((¬ 10 ≤ x5) → ∃ (w3 : Int32), Cl mX11_has [.int x3, .int x5] (g, I, P) (some (.int w3)) (g, I, P) ∧ ((w3 = 0) → Zt none mX1_readingsBehind 0 0 15 [(0, .ref a0), (1, .int x1), (3, .int x3), (4, .int x4), (5, .int (x5 + 1))] [] (g, I, P) r h') ∧ ((¬ w3 = 0) → zk g a0 1 ∧ ∃ b8, P a0 3 = some b8 ∧ ∃ (w11 : Int32), Cl mX11_got [.ref b8, .int ((x1 * 10) + x5)] (g, I, P) (some (.int w11)) (g, I, P) ∧ Zt none mX1_readingsBehind 0 0 15 [(0, .ref a0), (1, .int x1), (3, .int x3), (4, .int (x4 + w11)), (5, .int (x5 + 1))] [] (g, I, P) r h'))) : Zt none mX1_readingsBehind 0 0 15 [(0, .ref a0), (1, .int x1), (3, .int x3), (4, .int x4), (5, .int x5)] [] (g, I, P) r h' := by
  refine z_iload 4 dX1_readingsBehind_15 rfl (z_bipush (w := 10) dX1_readingsBehind_17 (by decide) ?_)
  refine z_icmp_ge (t := 56) dX1_readingsBehind_19 (by decide) (fun q => ?_) (fun q => ?_)
  · have H1 := H.1 q
    refine z_iload 3 dX1_readingsBehind_56 rfl ?_
    obtain ⟨rfl, rfl⟩ := H1
    exact z_iret dX1_readingsBehind_58 rfl (by decide) (by decide)
  · have H2 := H.2 q
    refine z_iload_n 2 dX1_readingsBehind_22 rfl (z_iload 4 dX1_readingsBehind_23 rfl ?_)
    obtain ⟨w3, c4, H5⟩ := H2
    refine z_stat (As := [.int x3, .int x5]) (st := []) (r1 := (some (.int w3))) (h1 := (g, I, P)) dX1_readingsBehind_25 kX11_has wm_X1_61 ⟨by decide, by decide⟩ rfl rfl (Nat.le_of_ble_eq_true rfl) (by decide) (by decide) c4 ?_
    refine z_if_eq (t := 50) dX1_readingsBehind_28 (by decide) (fun q => ?_) (fun q => ?_)
    · have H6 := H5.1 q
      refine z_iinc (y := x5 + 1) (lv' := [(5, .int (x5 + 1)), (0, .ref a0), (1, .int x1), (3, .int x3), (4, .int x4)]) 4 dX1_readingsBehind_50 rfl rfl (by decide) rfl (z_goto (t := 15) dX1_readingsBehind_53 (by decide) ?_)
      exact z_less [1, 2, 3, 4, 0] rfl H6
    · have H7 := H5.2 q
      refine z_iload 3 dX1_readingsBehind_31 rfl (z_aload_n 0 dX1_readingsBehind_33 rfl rfl ?_)
      obtain ⟨oe10, b8, e10, H9⟩ := H7
      refine z_getP dX1_readingsBehind_34 wf_X1_22 (by decide) (by decide) rfl oe10 (fun q => (by cases q.symm.trans e10)) (fun j q => ?_)
      cases q.symm.trans e10
      refine z_iload_n 1 dX1_readingsBehind_37 rfl (z_bipush (w := 10) dX1_readingsBehind_38 (by decide) (z_imul dX1_readingsBehind_40 (z_iload 4 dX1_readingsBehind_41 rfl (z_iadd dX1_readingsBehind_43 ?_))))
      obtain ⟨w11, c12, H13⟩ := H9
      refine z_stat (As := [.ref b8, .int ((x1 * 10) + x5)]) (st := [.int x4]) (r1 := (some (.int w11))) (h1 := (g, I, P)) dX1_readingsBehind_44 kX11_got wm_X1_37 ⟨by decide, by decide⟩ rfl rfl (Nat.le_of_ble_eq_true rfl) (by decide) (by decide) c12 ?_
      refine z_iadd dX1_readingsBehind_47 (z_istore (lv' := [(4, .int (x4 + w11)), (0, .ref a0), (1, .int x1), (3, .int x3), (5, .int x5)]) dX1_readingsBehind_48 (by decide) rfl (z_iinc (y := x5 + 1) (lv' := [(5, .int (x5 + 1)), (4, .int (x4 + w11)), (0, .ref a0), (1, .int x1), (3, .int x3)]) 4 dX1_readingsBehind_50 rfl rfl (by decide) rfl (z_goto (t := 15) dX1_readingsBehind_53 (by decide) ?_)))
      exact z_less [2, 3, 4, 1, 0] rfl H13
theorem dX1_wordOfFirstReading_0 : decode cX1_wordOfFirstReading 0 = .ok (.aload_n 0, 1) := by decide +kernel
theorem dX1_wordOfFirstReading_1 : decode cX1_wordOfFirstReading 1 = .ok (.invokevirtual 82, 3) := by decide +kernel
theorem dX1_wordOfFirstReading_4 : decode cX1_wordOfFirstReading 4 = .ok (.iconst 0, 1) := by decide +kernel
theorem dX1_wordOfFirstReading_5 : decode cX1_wordOfFirstReading 5 = .ok (.istore_n 2, 1) := by decide +kernel
theorem dX1_wordOfFirstReading_6 : decode cX1_wordOfFirstReading 6 = .ok (.iconst (-1), 1) := by decide +kernel
theorem dX1_wordOfFirstReading_7 : decode cX1_wordOfFirstReading 7 = .ok (.istore_n 3, 1) := by decide +kernel
theorem dX1_wordOfFirstReading_8 : decode cX1_wordOfFirstReading 8 = .ok (.iconst 0, 1) := by decide +kernel
theorem dX1_wordOfFirstReading_9 : decode cX1_wordOfFirstReading 9 = .ok (.istore 4, 2) := by decide +kernel
theorem dX1_wordOfFirstReading_11 : decode cX1_wordOfFirstReading 11 = .ok (.iload 4, 2) := by decide +kernel
theorem dX1_wordOfFirstReading_13 : decode cX1_wordOfFirstReading 13 = .ok (.iload_n 1, 1) := by decide +kernel
theorem dX1_wordOfFirstReading_14 : decode cX1_wordOfFirstReading 14 = .ok (.if_icmp .gt 41, 3) := by decide +kernel
theorem dX1_wordOfFirstReading_17 : decode cX1_wordOfFirstReading 17 = .ok (.iload 4, 2) := by decide +kernel
theorem dX1_wordOfFirstReading_19 : decode cX1_wordOfFirstReading 19 = .ok (.bipush 12, 2) := by decide +kernel
theorem dX1_wordOfFirstReading_21 : decode cX1_wordOfFirstReading 21 = .ok (.if_icmp .ge 34, 3) := by decide +kernel
theorem dX1_wordOfFirstReading_24 : decode cX1_wordOfFirstReading 24 = .ok (.aload_n 0, 1) := by decide +kernel
theorem dX1_wordOfFirstReading_25 : decode cX1_wordOfFirstReading 25 = .ok (.iload_n 2, 1) := by decide +kernel
theorem dX1_wordOfFirstReading_26 : decode cX1_wordOfFirstReading 26 = .ok (.iload_n 3, 1) := by decide +kernel
theorem dX1_wordOfFirstReading_27 : decode cX1_wordOfFirstReading 27 = .ok (.invokevirtual 104, 3) := by decide +kernel
theorem dX1_wordOfFirstReading_30 : decode cX1_wordOfFirstReading 30 = .ok (.istore_n 3, 1) := by decide +kernel
theorem dX1_wordOfFirstReading_31 : decode cX1_wordOfFirstReading 31 = .ok (.iload_n 3, 1) := by decide +kernel
theorem dX1_wordOfFirstReading_32 : decode cX1_wordOfFirstReading 32 = .ok (.iconst (-1), 1) := by decide +kernel
theorem dX1_wordOfFirstReading_33 : decode cX1_wordOfFirstReading 33 = .ok (.if_icmp .ne 5, 3) := by decide +kernel
theorem dX1_wordOfFirstReading_36 : decode cX1_wordOfFirstReading 36 = .ok (.iconst (-1), 1) := by decide +kernel
theorem dX1_wordOfFirstReading_37 : decode cX1_wordOfFirstReading 37 = .ok (.ireturn, 1) := by decide +kernel
theorem dX1_wordOfFirstReading_38 : decode cX1_wordOfFirstReading 38 = .ok (.iload_n 2, 1) := by decide +kernel
theorem dX1_wordOfFirstReading_39 : decode cX1_wordOfFirstReading 39 = .ok (.aload_n 0, 1) := by decide +kernel
theorem dX1_wordOfFirstReading_40 : decode cX1_wordOfFirstReading 40 = .ok (.getfield 12, 3) := by decide +kernel
theorem dX1_wordOfFirstReading_43 : decode cX1_wordOfFirstReading 43 = .ok (.iload_n 3, 1) := by decide +kernel
theorem dX1_wordOfFirstReading_44 : decode cX1_wordOfFirstReading 44 = .ok (.invokevirtual 69, 3) := by decide +kernel
theorem dX1_wordOfFirstReading_47 : decode cX1_wordOfFirstReading 47 = .ok (.iadd, 1) := by decide +kernel
theorem dX1_wordOfFirstReading_48 : decode cX1_wordOfFirstReading 48 = .ok (.istore_n 2, 1) := by decide +kernel
theorem dX1_wordOfFirstReading_49 : decode cX1_wordOfFirstReading 49 = .ok (.iinc 4 1, 3) := by decide +kernel
theorem dX1_wordOfFirstReading_52 : decode cX1_wordOfFirstReading 52 = .ok (.goto (-41), 3) := by decide +kernel
theorem dX1_wordOfFirstReading_55 : decode cX1_wordOfFirstReading 55 = .ok (.iload_n 1, 1) := by decide +kernel
theorem dX1_wordOfFirstReading_56 : decode cX1_wordOfFirstReading 56 = .ok (.bipush 12, 2) := by decide +kernel
theorem dX1_wordOfFirstReading_58 : decode cX1_wordOfFirstReading 58 = .ok (.if_icmp .ge 7, 3) := by decide +kernel
theorem dX1_wordOfFirstReading_61 : decode cX1_wordOfFirstReading 61 = .ok (.iload_n 3, 1) := by decide +kernel
theorem dX1_wordOfFirstReading_62 : decode cX1_wordOfFirstReading 62 = .ok (.goto 4, 3) := by decide +kernel
theorem dX1_wordOfFirstReading_65 : decode cX1_wordOfFirstReading 65 = .ok (.iconst (-1), 1) := by decide +kernel
theorem dX1_wordOfFirstReading_66 : decode cX1_wordOfFirstReading 66 = .ok (.ireturn, 1) := by decide +kernel
set_option maxRecDepth 10000 in
theorem wX1_wordOfFirstReading_0 {g : zG} {I : Nat → Nat → Int32} {P : Nat → Nat → Option Nat} {r : Option Value} {h' : zH} {a0 : Nat} {x1 : Int32} (H : zk g a0 1 ∧ ∃ (I1 : Nat → Nat → Int32), Cl mX1_countReadings [.ref a0] (g, I, P) none (g, I1, P) ∧ Zt none mX1_wordOfFirstReading 0 0 11 [(0, .ref a0), (1, .int x1), (2, .int 0), (3, .int (-1)), (4, .int 0)] [] (g, I1, P) r h') : Zt none mX1_wordOfFirstReading 0 0 0 [(0, .ref a0), (1, .int x1)] [] (g, I, P) r h' := by
  refine z_aload_n 0 dX1_wordOfFirstReading_0 rfl rfl ?_
  obtain ⟨oc2, I1, c2, H3⟩ := H
  refine z_virt (As := []) (st := []) (r1 := none) (h1 := (g, I1, P)) dX1_wordOfFirstReading_1 kX1_countReadings wm_X1_82 ⟨by decide, by decide⟩ rfl rfl (Nat.le_of_ble_eq_true rfl) (by decide) (by decide) oc2 c2 ?_
  refine z_iconst (w := 0) dX1_wordOfFirstReading_4 (by decide) (z_istore_n (lv' := [(2, .int 0), (0, .ref a0), (1, .int x1)]) dX1_wordOfFirstReading_5 (by decide) rfl (z_iconst (w := (-1)) dX1_wordOfFirstReading_6 (by decide) (z_istore_n (lv' := [(3, .int (-1)), (2, .int 0), (0, .ref a0), (1, .int x1)]) dX1_wordOfFirstReading_7 (by decide) rfl (z_iconst (w := 0) dX1_wordOfFirstReading_8 (by decide) (z_istore (lv' := [(4, .int 0), (3, .int (-1)), (2, .int 0), (0, .ref a0), (1, .int x1)]) dX1_wordOfFirstReading_9 (by decide) rfl ?_)))))
  exact z_less [3, 4, 2, 1, 0] rfl H3
theorem eX1_wordOfFirstReading {g : zG} {I : Nat → Nat → Int32} {P : Nat → Nat → Option Nat} {r : Option Value} {h' : zH} {a0 : Nat} {x1 : Int32} (H : Zt none mX1_wordOfFirstReading 0 0 0 [(0, .ref a0), (1, .int x1)] [] (g, I, P) r h') : Cl mX1_wordOfFirstReading [.ref a0, .int x1] (g, I, P) r h' := Cl.of (by decide) (Nat.le_of_ble_eq_true rfl) H
set_option maxRecDepth 10000 in
theorem wX1_wordOfFirstReading_11 {g : zG} {I : Nat → Nat → Int32} {P : Nat → Nat → Option Nat} {r : Option Value} {h' : zH} {a0 : Nat} {x1 : Int32} {x2 : Int32} {x3 : Int32} {x4 : Int32} (H : ((x1 < x4) → ((12 ≤ x1) → r = some (.int (-1)) ∧ h' = (g, I, P)) ∧ ((¬ 12 ≤ x1) → r = some (.int x3) ∧ h' = (g, I, P))) ∧ ((¬ x1 < x4) → ((12 ≤ x4) → ((12 ≤ x1) → r = some (.int (-1)) ∧ h' = (g, I, P)) ∧ ((¬ 12 ≤ x1) → r = some (.int x3) ∧ h' = (g, I, P))) ∧ ((¬ 12 ≤ x4) → zk g a0 1 ∧ ∃ (w9 : Int32), Cl mX1_leastReadAt [.ref a0, .int x2, .int x3] (g, I, P) (some (.int w9)) (g, I, P) ∧ ((¬ w9 = (-1)) → zk g a0 1 ∧ ∃ b13, P a0 0 = some b13 ∧ zk g b13 3 ∧ ∃ (w16 : Int32), Cl mX3_sizeOf [.ref b13, .int w9] (g, I, P) (some (.int w16)) (g, I, P) ∧ Zt none mX1_wordOfFirstReading 0 0 11 [(0, .ref a0), (1, .int x1), (2, .int (x2 + w16)), (3, .int w9), (4, .int (x4 + 1))] [] (g, I, P) r h') ∧ ((w9 = (-1)) → r = some (.int (-1)) ∧ h' = (g, I, P))))) : Zt none mX1_wordOfFirstReading 0 0 11 [(0, .ref a0), (1, .int x1), (2, .int x2), (3, .int x3), (4, .int x4)] [] (g, I, P) r h' := by
  refine z_iload 4 dX1_wordOfFirstReading_11 rfl (z_iload_n 1 dX1_wordOfFirstReading_13 rfl ?_)
  refine z_icmp_gt (t := 55) dX1_wordOfFirstReading_14 (by decide) (fun q => ?_) (fun q => ?_)
  · have H1 := H.1 q
    refine z_iload_n 1 dX1_wordOfFirstReading_55 rfl (z_bipush (w := 12) dX1_wordOfFirstReading_56 (by decide) ?_)
    refine z_icmp_ge (t := 65) dX1_wordOfFirstReading_58 (by decide) (fun q => ?_) (fun q => ?_)
    · have H2 := H1.1 q
      refine z_iconst (w := (-1)) dX1_wordOfFirstReading_65 (by decide) ?_
      obtain ⟨rfl, rfl⟩ := H2
      exact z_iret dX1_wordOfFirstReading_66 rfl (by decide) (by decide)
    · have H3 := H1.2 q
      refine z_iload_n 3 dX1_wordOfFirstReading_61 rfl (z_goto (t := 66) dX1_wordOfFirstReading_62 (by decide) ?_)
      obtain ⟨rfl, rfl⟩ := H3
      exact z_iret dX1_wordOfFirstReading_66 rfl (by decide) (by decide)
  · have H4 := H.2 q
    refine z_iload 4 dX1_wordOfFirstReading_17 rfl (z_bipush (w := 12) dX1_wordOfFirstReading_19 (by decide) ?_)
    refine z_icmp_ge (t := 55) dX1_wordOfFirstReading_21 (by decide) (fun q => ?_) (fun q => ?_)
    · have H5 := H4.1 q
      refine z_iload_n 1 dX1_wordOfFirstReading_55 rfl (z_bipush (w := 12) dX1_wordOfFirstReading_56 (by decide) ?_)
      refine z_icmp_ge (t := 65) dX1_wordOfFirstReading_58 (by decide) (fun q => ?_) (fun q => ?_)
      · have H6 := H5.1 q
        refine z_iconst (w := (-1)) dX1_wordOfFirstReading_65 (by decide) ?_
        obtain ⟨rfl, rfl⟩ := H6
        exact z_iret dX1_wordOfFirstReading_66 rfl (by decide) (by decide)
      · have H7 := H5.2 q
        refine z_iload_n 3 dX1_wordOfFirstReading_61 rfl (z_goto (t := 66) dX1_wordOfFirstReading_62 (by decide) ?_)
        obtain ⟨rfl, rfl⟩ := H7
        exact z_iret dX1_wordOfFirstReading_66 rfl (by decide) (by decide)
    · have H8 := H4.2 q
      refine z_aload_n 0 dX1_wordOfFirstReading_24 rfl rfl (z_iload_n 2 dX1_wordOfFirstReading_25 rfl (z_iload_n 3 dX1_wordOfFirstReading_26 rfl ?_))
      obtain ⟨oc10, w9, c10, H11⟩ := H8
      refine z_virt (As := [.int x2, .int x3]) (st := []) (r1 := (some (.int w9))) (h1 := (g, I, P)) dX1_wordOfFirstReading_27 kX1_leastReadAt wm_X1_104 ⟨by decide, by decide⟩ rfl rfl (Nat.le_of_ble_eq_true rfl) (by decide) (by decide) oc10 c10 ?_
      refine z_istore_n (lv' := [(3, .int w9), (0, .ref a0), (1, .int x1), (2, .int x2), (4, .int x4)]) dX1_wordOfFirstReading_30 (by decide) rfl (z_iload_n 0 dX1_wordOfFirstReading_31 rfl (z_iconst (w := (-1)) dX1_wordOfFirstReading_32 (by decide) ?_))
      refine z_icmp_ne (t := 38) dX1_wordOfFirstReading_33 (by decide) (fun q => ?_) (fun q => ?_)
      · have H12 := H11.1 q
        refine z_iload_n 3 dX1_wordOfFirstReading_38 rfl (z_aload_n 1 dX1_wordOfFirstReading_39 rfl rfl ?_)
        obtain ⟨oe15, b13, e15, H14⟩ := H12
        refine z_getP dX1_wordOfFirstReading_40 wf_X1_12 (by decide) (by decide) rfl oe15 (fun q => (by cases q.symm.trans e15)) (fun j q => ?_)
        cases q.symm.trans e15
        refine z_iload_n 0 dX1_wordOfFirstReading_43 rfl ?_
        obtain ⟨oc17, w16, c17, H18⟩ := H14
        refine z_virt (As := [.int w9]) (st := [.int x2]) (r1 := (some (.int w16))) (h1 := (g, I, P)) dX1_wordOfFirstReading_44 kX3_sizeOf wm_X1_69 ⟨by decide, by decide⟩ rfl rfl (Nat.le_of_ble_eq_true rfl) (by decide) (by decide) oc17 c17 ?_
        refine z_iadd dX1_wordOfFirstReading_47 (z_istore_n (lv' := [(2, .int (x2 + w16)), (3, .int w9), (0, .ref a0), (1, .int x1), (4, .int x4)]) dX1_wordOfFirstReading_48 (by decide) rfl (z_iinc (y := x4 + 1) (lv' := [(4, .int (x4 + 1)), (2, .int (x2 + w16)), (3, .int w9), (0, .ref a0), (1, .int x1)]) 4 dX1_wordOfFirstReading_49 rfl rfl (by decide) rfl (z_goto (t := 11) dX1_wordOfFirstReading_52 (by decide) ?_)))
        exact z_less [3, 4, 1, 2, 0] rfl H18
      · have H19 := H11.2 q
        refine z_iconst (w := (-1)) dX1_wordOfFirstReading_36 (by decide) ?_
        obtain ⟨rfl, rfl⟩ := H19
        exact z_iret dX1_wordOfFirstReading_37 rfl (by decide) (by decide)
theorem dX1_leastReadAt_0 : decode cX1_leastReadAt 0 = .ok (.aload_n 0, 1) := by decide +kernel
theorem dX1_leastReadAt_1 : decode cX1_leastReadAt 1 = .ok (.getfield 12, 3) := by decide +kernel
theorem dX1_leastReadAt_4 : decode cX1_leastReadAt 4 = .ok (.iload_n 2, 1) := by decide +kernel
theorem dX1_leastReadAt_5 : decode cX1_leastReadAt 5 = .ok (.invokevirtual 101, 3) := by decide +kernel
theorem dX1_leastReadAt_8 : decode cX1_leastReadAt 8 = .ok (.istore_n 3, 1) := by decide +kernel
theorem dX1_leastReadAt_9 : decode cX1_leastReadAt 9 = .ok (.iconst 0, 1) := by decide +kernel
theorem dX1_leastReadAt_10 : decode cX1_leastReadAt 10 = .ok (.istore 4, 2) := by decide +kernel
theorem dX1_leastReadAt_12 : decode cX1_leastReadAt 12 = .ok (.iload 4, 2) := by decide +kernel
theorem dX1_leastReadAt_14 : decode cX1_leastReadAt 14 = .ok (.bipush 10, 2) := by decide +kernel
theorem dX1_leastReadAt_16 : decode cX1_leastReadAt 16 = .ok (.if_icmp .ge 46, 3) := by decide +kernel
theorem dX1_leastReadAt_19 : decode cX1_leastReadAt 19 = .ok (.iload_n 1, 1) := by decide +kernel
theorem dX1_leastReadAt_20 : decode cX1_leastReadAt 20 = .ok (.aload_n 0, 1) := by decide +kernel
theorem dX1_leastReadAt_21 : decode cX1_leastReadAt 21 = .ok (.getfield 41, 3) := by decide +kernel
theorem dX1_leastReadAt_24 : decode cX1_leastReadAt 24 = .ok (.if_icmp .ge 38, 3) := by decide +kernel
theorem dX1_leastReadAt_27 : decode cX1_leastReadAt 27 = .ok (.iload_n 3, 1) := by decide +kernel
theorem dX1_leastReadAt_28 : decode cX1_leastReadAt 28 = .ok (.iload 4, 2) := by decide +kernel
theorem dX1_leastReadAt_30 : decode cX1_leastReadAt 30 = .ok (.invokestatic 61, 3) := by decide +kernel
theorem dX1_leastReadAt_33 : decode cX1_leastReadAt 33 = .ok (.ifCond .eq 23, 3) := by decide +kernel
theorem dX1_leastReadAt_36 : decode cX1_leastReadAt 36 = .ok (.aload_n 0, 1) := by decide +kernel
theorem dX1_leastReadAt_37 : decode cX1_leastReadAt 37 = .ok (.getfield 22, 3) := by decide +kernel
theorem dX1_leastReadAt_40 : decode cX1_leastReadAt 40 = .ok (.iload_n 1, 1) := by decide +kernel
theorem dX1_leastReadAt_41 : decode cX1_leastReadAt 41 = .ok (.bipush 10, 2) := by decide +kernel
theorem dX1_leastReadAt_43 : decode cX1_leastReadAt 43 = .ok (.imul, 1) := by decide +kernel
theorem dX1_leastReadAt_44 : decode cX1_leastReadAt 44 = .ok (.iload 4, 2) := by decide +kernel
theorem dX1_leastReadAt_46 : decode cX1_leastReadAt 46 = .ok (.iadd, 1) := by decide +kernel
theorem dX1_leastReadAt_47 : decode cX1_leastReadAt 47 = .ok (.invokestatic 37, 3) := by decide +kernel
theorem dX1_leastReadAt_50 : decode cX1_leastReadAt 50 = .ok (.ifCond .le 6, 3) := by decide +kernel
theorem dX1_leastReadAt_53 : decode cX1_leastReadAt 53 = .ok (.iload 4, 2) := by decide +kernel
theorem dX1_leastReadAt_55 : decode cX1_leastReadAt 55 = .ok (.ireturn, 1) := by decide +kernel
theorem dX1_leastReadAt_56 : decode cX1_leastReadAt 56 = .ok (.iinc 4 1, 3) := by decide +kernel
theorem dX1_leastReadAt_59 : decode cX1_leastReadAt 59 = .ok (.goto (-47), 3) := by decide +kernel
theorem dX1_leastReadAt_62 : decode cX1_leastReadAt 62 = .ok (.iconst (-1), 1) := by decide +kernel
theorem dX1_leastReadAt_63 : decode cX1_leastReadAt 63 = .ok (.ireturn, 1) := by decide +kernel
set_option maxRecDepth 10000 in
theorem wX1_leastReadAt_0 {g : zG} {I : Nat → Nat → Int32} {P : Nat → Nat → Option Nat} {r : Option Value} {h' : zH} {a0 : Nat} {x1 : Int32} {x2 : Int32} (H : zk g a0 1 ∧ ∃ b1, P a0 0 = some b1 ∧ zk g b1 3 ∧ ∃ (w4 : Int32), Cl mX3_behind [.ref b1, .int x2] (g, I, P) (some (.int w4)) (g, I, P) ∧ Zt none mX1_leastReadAt 0 0 12 [(0, .ref a0), (1, .int x1), (3, .int w4), (4, .int 0)] [] (g, I, P) r h') : Zt none mX1_leastReadAt 0 0 0 [(0, .ref a0), (1, .int x1), (2, .int x2)] [] (g, I, P) r h' := by
  refine z_aload_n 0 dX1_leastReadAt_0 rfl rfl ?_
  obtain ⟨oe3, b1, e3, H2⟩ := H
  refine z_getP dX1_leastReadAt_1 wf_X1_12 (by decide) (by decide) rfl oe3 (fun q => (by cases q.symm.trans e3)) (fun j q => ?_)
  cases q.symm.trans e3
  refine z_iload_n 2 dX1_leastReadAt_4 rfl ?_
  obtain ⟨oc5, w4, c5, H6⟩ := H2
  refine z_virt (As := [.int x2]) (st := []) (r1 := (some (.int w4))) (h1 := (g, I, P)) dX1_leastReadAt_5 kX3_behind wm_X1_101 ⟨by decide, by decide⟩ rfl rfl (Nat.le_of_ble_eq_true rfl) (by decide) (by decide) oc5 c5 ?_
  refine z_istore_n (lv' := [(3, .int w4), (0, .ref a0), (1, .int x1), (2, .int x2)]) dX1_leastReadAt_8 (by decide) rfl (z_iconst (w := 0) dX1_leastReadAt_9 (by decide) (z_istore (lv' := [(4, .int 0), (3, .int w4), (0, .ref a0), (1, .int x1), (2, .int x2)]) dX1_leastReadAt_10 (by decide) rfl ?_))
  exact z_less [2, 3, 1, 0] rfl H6
theorem eX1_leastReadAt {g : zG} {I : Nat → Nat → Int32} {P : Nat → Nat → Option Nat} {r : Option Value} {h' : zH} {a0 : Nat} {x1 : Int32} {x2 : Int32} (H : Zt none mX1_leastReadAt 0 0 0 [(0, .ref a0), (1, .int x1), (2, .int x2)] [] (g, I, P) r h') : Cl mX1_leastReadAt [.ref a0, .int x1, .int x2] (g, I, P) r h' := Cl.of (by decide) (Nat.le_of_ble_eq_true rfl) H
set_option maxRecDepth 10000 in
theorem wX1_leastReadAt_12 {g : zG} {I : Nat → Nat → Int32} {P : Nat → Nat → Option Nat} {r : Option Value} {h' : zH} {a0 : Nat} {x1 : Int32} {x3 : Int32} {x4 : Int32} (H : ((10 ≤ x4) → r = some (.int (-1)) ∧ h' = (g, I, P)) ∧ ((¬ 10 ≤ x4) → zk g a0 1 ∧ ((I a0 1 ≤ x1) → r = some (.int (-1)) ∧ h' = (g, I, P)) ∧ ((¬ I a0 1 ≤ x1) → ∃ (w5 : Int32), Cl mX11_has [.int x3, .int x4] (g, I, P) (some (.int w5)) (g, I, P) ∧ ((w5 = 0) → Zt none mX1_leastReadAt 0 0 12 [(0, .ref a0), (1, .int x1), (3, .int x3), (4, .int (x4 + 1))] [] (g, I, P) r h') ∧ ((¬ w5 = 0) → zk g a0 1 ∧ ∃ b10, P a0 3 = some b10 ∧ ∃ (w13 : Int32), Cl mX11_got [.ref b10, .int ((x1 * 10) + x4)] (g, I, P) (some (.int w13)) (g, I, P) ∧ ((w13 ≤ 0) → Zt none mX1_leastReadAt 0 0 12 [(0, .ref a0), (1, .int x1), (3, .int x3), (4, .int (x4 + 1))] [] (g, I, P) r h') ∧ ((¬ w13 ≤ 0) → r = some (.int x4) ∧ h' = (g, I, P)))))) : Zt none mX1_leastReadAt 0 0 12 [(0, .ref a0), (1, .int x1), (3, .int x3), (4, .int x4)] [] (g, I, P) r h' := by
  refine z_iload 3 dX1_leastReadAt_12 rfl (z_bipush (w := 10) dX1_leastReadAt_14 (by decide) ?_)
  refine z_icmp_ge (t := 62) dX1_leastReadAt_16 (by decide) (fun q => ?_) (fun q => ?_)
  · have H1 := H.1 q
    refine z_iconst (w := (-1)) dX1_leastReadAt_62 (by decide) ?_
    obtain ⟨rfl, rfl⟩ := H1
    exact z_iret dX1_leastReadAt_63 rfl (by decide) (by decide)
  · have H2 := H.2 q
    refine z_iload_n 1 dX1_leastReadAt_19 rfl (z_aload_n 0 dX1_leastReadAt_20 rfl rfl (z_getI dX1_leastReadAt_21 wf_X1_41 (by decide) (by decide) rfl H2.1 ?_))
    refine z_icmp_ge (t := 62) dX1_leastReadAt_24 (by decide) (fun q => ?_) (fun q => ?_)
    · have H3 := H2.2.1 q
      refine z_iconst (w := (-1)) dX1_leastReadAt_62 (by decide) ?_
      obtain ⟨rfl, rfl⟩ := H3
      exact z_iret dX1_leastReadAt_63 rfl (by decide) (by decide)
    · have H4 := H2.2.2 q
      refine z_iload_n 2 dX1_leastReadAt_27 rfl (z_iload 3 dX1_leastReadAt_28 rfl ?_)
      obtain ⟨w5, c6, H7⟩ := H4
      refine z_stat (As := [.int x3, .int x4]) (st := []) (r1 := (some (.int w5))) (h1 := (g, I, P)) dX1_leastReadAt_30 kX11_has wm_X1_61 ⟨by decide, by decide⟩ rfl rfl (Nat.le_of_ble_eq_true rfl) (by decide) (by decide) c6 ?_
      refine z_if_eq (t := 56) dX1_leastReadAt_33 (by decide) (fun q => ?_) (fun q => ?_)
      · have H8 := H7.1 q
        refine z_iinc (y := x4 + 1) (lv' := [(4, .int (x4 + 1)), (0, .ref a0), (1, .int x1), (3, .int x3)]) 3 dX1_leastReadAt_56 rfl rfl (by decide) rfl (z_goto (t := 12) dX1_leastReadAt_59 (by decide) ?_)
        exact z_less [1, 2, 3, 0] rfl H8
      · have H9 := H7.2 q
        refine z_aload_n 0 dX1_leastReadAt_36 rfl rfl ?_
        obtain ⟨oe12, b10, e12, H11⟩ := H9
        refine z_getP dX1_leastReadAt_37 wf_X1_22 (by decide) (by decide) rfl oe12 (fun q => (by cases q.symm.trans e12)) (fun j q => ?_)
        cases q.symm.trans e12
        refine z_iload_n 1 dX1_leastReadAt_40 rfl (z_bipush (w := 10) dX1_leastReadAt_41 (by decide) (z_imul dX1_leastReadAt_43 (z_iload 3 dX1_leastReadAt_44 rfl (z_iadd dX1_leastReadAt_46 ?_))))
        obtain ⟨w13, c14, H15⟩ := H11
        refine z_stat (As := [.ref b10, .int ((x1 * 10) + x4)]) (st := []) (r1 := (some (.int w13))) (h1 := (g, I, P)) dX1_leastReadAt_47 kX11_got wm_X1_37 ⟨by decide, by decide⟩ rfl rfl (Nat.le_of_ble_eq_true rfl) (by decide) (by decide) c14 ?_
        refine z_if_le (t := 56) dX1_leastReadAt_50 (by decide) (fun q => ?_) (fun q => ?_)
        · have H16 := H15.1 q
          refine z_iinc (y := x4 + 1) (lv' := [(4, .int (x4 + 1)), (0, .ref a0), (1, .int x1), (3, .int x3)]) 3 dX1_leastReadAt_56 rfl rfl (by decide) rfl (z_goto (t := 12) dX1_leastReadAt_59 (by decide) ?_)
          exact z_less [1, 2, 3, 0] rfl H16
        · have H17 := H15.2 q
          refine z_iload 3 dX1_leastReadAt_53 rfl ?_
          obtain ⟨rfl, rfl⟩ := H17
          exact z_iret dX1_leastReadAt_55 rfl (by decide) (by decide)
theorem dX1_mended_0 : decode cX1_mended 0 = .ok (.aload_n 0, 1) := by decide +kernel
theorem dX1_mended_1 : decode cX1_mended 1 = .ok (.getfield 22, 3) := by decide +kernel
theorem dX1_mended_4 : decode cX1_mended 4 = .ok (.sipush 1000, 3) := by decide +kernel
theorem dX1_mended_7 : decode cX1_mended 7 = .ok (.invokestatic 85, 3) := by decide +kernel
theorem dX1_mended_10 : decode cX1_mended 10 = .ok (.aload_n 0, 1) := by decide +kernel
theorem dX1_mended_11 : decode cX1_mended 11 = .ok (.getfield 41, 3) := by decide +kernel
theorem dX1_mended_14 : decode cX1_mended 14 = .ok (.iconst 1, 1) := by decide +kernel
theorem dX1_mended_15 : decode cX1_mended 15 = .ok (.isub, 1) := by decide +kernel
theorem dX1_mended_16 : decode cX1_mended 16 = .ok (.istore_n 1, 1) := by decide +kernel
theorem dX1_mended_17 : decode cX1_mended 17 = .ok (.iload_n 1, 1) := by decide +kernel
theorem dX1_mended_18 : decode cX1_mended 18 = .ok (.ifCond .lt 111, 3) := by decide +kernel
theorem dX1_mended_21 : decode cX1_mended 21 = .ok (.iconst 0, 1) := by decide +kernel
theorem dX1_mended_22 : decode cX1_mended 22 = .ok (.istore_n 2, 1) := by decide +kernel
theorem dX1_mended_23 : decode cX1_mended 23 = .ok (.iload_n 2, 1) := by decide +kernel
theorem dX1_mended_24 : decode cX1_mended 24 = .ok (.aload_n 0, 1) := by decide +kernel
theorem dX1_mended_25 : decode cX1_mended 25 = .ok (.getfield 12, 3) := by decide +kernel
theorem dX1_mended_28 : decode cX1_mended 28 = .ok (.getfield 91, 3) := by decide +kernel
theorem dX1_mended_31 : decode cX1_mended 31 = .ok (.if_icmp .ge 92, 3) := by decide +kernel
theorem dX1_mended_34 : decode cX1_mended 34 = .ok (.iload_n 1, 1) := by decide +kernel
theorem dX1_mended_35 : decode cX1_mended 35 = .ok (.aload_n 0, 1) := by decide +kernel
theorem dX1_mended_36 : decode cX1_mended 36 = .ok (.getfield 12, 3) := by decide +kernel
theorem dX1_mended_39 : decode cX1_mended 39 = .ok (.iload_n 2, 1) := by decide +kernel
theorem dX1_mended_40 : decode cX1_mended 40 = .ok (.invokevirtual 69, 3) := by decide +kernel
theorem dX1_mended_43 : decode cX1_mended 43 = .ok (.iadd, 1) := by decide +kernel
theorem dX1_mended_44 : decode cX1_mended 44 = .ok (.istore_n 3, 1) := by decide +kernel
theorem dX1_mended_45 : decode cX1_mended 45 = .ok (.iload_n 3, 1) := by decide +kernel
theorem dX1_mended_46 : decode cX1_mended 46 = .ok (.aload_n 0, 1) := by decide +kernel
theorem dX1_mended_47 : decode cX1_mended 47 = .ok (.getfield 41, 3) := by decide +kernel
theorem dX1_mended_50 : decode cX1_mended 50 = .ok (.if_icmp .gt 67, 3) := by decide +kernel
theorem dX1_mended_53 : decode cX1_mended 53 = .ok (.iload_n 3, 1) := by decide +kernel
theorem dX1_mended_54 : decode cX1_mended 54 = .ok (.aload_n 0, 1) := by decide +kernel
theorem dX1_mended_55 : decode cX1_mended 55 = .ok (.getfield 41, 3) := by decide +kernel
theorem dX1_mended_58 : decode cX1_mended 58 = .ok (.if_icmp .ne 7, 3) := by decide +kernel
theorem dX1_mended_61 : decode cX1_mended 61 = .ok (.iconst 0, 1) := by decide +kernel
theorem dX1_mended_62 : decode cX1_mended 62 = .ok (.goto 16, 3) := by decide +kernel
theorem dX1_mended_65 : decode cX1_mended 65 = .ok (.aload_n 0, 1) := by decide +kernel
theorem dX1_mended_66 : decode cX1_mended 66 = .ok (.iload_n 3, 1) := by decide +kernel
theorem dX1_mended_67 : decode cX1_mended 67 = .ok (.aload_n 0, 1) := by decide +kernel
theorem dX1_mended_68 : decode cX1_mended 68 = .ok (.getfield 12, 3) := by decide +kernel
theorem dX1_mended_71 : decode cX1_mended 71 = .ok (.iload_n 2, 1) := by decide +kernel
theorem dX1_mended_72 : decode cX1_mended 72 = .ok (.invokevirtual 101, 3) := by decide +kernel
theorem dX1_mended_75 : decode cX1_mended 75 = .ok (.invokevirtual 107, 3) := by decide +kernel
theorem dX1_mended_78 : decode cX1_mended 78 = .ok (.istore 4, 2) := by decide +kernel
theorem dX1_mended_80 : decode cX1_mended 80 = .ok (.aload_n 0, 1) := by decide +kernel
theorem dX1_mended_81 : decode cX1_mended 81 = .ok (.getfield 22, 3) := by decide +kernel
theorem dX1_mended_84 : decode cX1_mended 84 = .ok (.iload_n 1, 1) := by decide +kernel
theorem dX1_mended_85 : decode cX1_mended 85 = .ok (.bipush 10, 2) := by decide +kernel
theorem dX1_mended_87 : decode cX1_mended 87 = .ok (.imul, 1) := by decide +kernel
theorem dX1_mended_88 : decode cX1_mended 88 = .ok (.iload_n 2, 1) := by decide +kernel
theorem dX1_mended_89 : decode cX1_mended 89 = .ok (.iadd, 1) := by decide +kernel
theorem dX1_mended_90 : decode cX1_mended 90 = .ok (.iload 4, 2) := by decide +kernel
theorem dX1_mended_92 : decode cX1_mended 92 = .ok (.aload_n 0, 1) := by decide +kernel
theorem dX1_mended_93 : decode cX1_mended 93 = .ok (.getfield 12, 3) := by decide +kernel
theorem dX1_mended_96 : decode cX1_mended 96 = .ok (.iload_n 2, 1) := by decide +kernel
theorem dX1_mended_97 : decode cX1_mended 97 = .ok (.aload_n 0, 1) := by decide +kernel
theorem dX1_mended_98 : decode cX1_mended 98 = .ok (.getfield 18, 3) := by decide +kernel
theorem dX1_mended_101 : decode cX1_mended 101 = .ok (.iload_n 1, 1) := by decide +kernel
theorem dX1_mended_102 : decode cX1_mended 102 = .ok (.aload_n 0, 1) := by decide +kernel
theorem dX1_mended_103 : decode cX1_mended 103 = .ok (.getfield 12, 3) := by decide +kernel
theorem dX1_mended_106 : decode cX1_mended 106 = .ok (.iload_n 2, 1) := by decide +kernel
theorem dX1_mended_107 : decode cX1_mended 107 = .ok (.invokevirtual 69, 3) := by decide +kernel
theorem dX1_mended_110 : decode cX1_mended 110 = .ok (.invokevirtual 94, 3) := by decide +kernel
theorem dX1_mended_113 : decode cX1_mended 113 = .ok (.iadd, 1) := by decide +kernel
theorem dX1_mended_114 : decode cX1_mended 114 = .ok (.invokestatic 49, 3) := by decide +kernel
theorem dX1_mended_117 : decode cX1_mended 117 = .ok (.iinc 2 1, 3) := by decide +kernel
theorem dX1_mended_120 : decode cX1_mended 120 = .ok (.goto (-97), 3) := by decide +kernel
theorem dX1_mended_123 : decode cX1_mended 123 = .ok (.iinc 1 (-1), 3) := by decide +kernel
theorem dX1_mended_126 : decode cX1_mended 126 = .ok (.goto (-109), 3) := by decide +kernel
theorem dX1_mended_129 : decode cX1_mended 129 = .ok (.aload_n 0, 1) := by decide +kernel
theorem dX1_mended_130 : decode cX1_mended 130 = .ok (.iconst 0, 1) := by decide +kernel
theorem dX1_mended_131 : decode cX1_mended 131 = .ok (.aload_n 0, 1) := by decide +kernel
theorem dX1_mended_132 : decode cX1_mended 132 = .ok (.getfield 12, 3) := by decide +kernel
theorem dX1_mended_135 : decode cX1_mended 135 = .ok (.invokevirtual 110, 3) := by decide +kernel
theorem dX1_mended_138 : decode cX1_mended 138 = .ok (.invokevirtual 107, 3) := by decide +kernel
theorem dX1_mended_141 : decode cX1_mended 141 = .ok (.istore_n 1, 1) := by decide +kernel
theorem dX1_mended_142 : decode cX1_mended 142 = .ok (.iload_n 1, 1) := by decide +kernel
theorem dX1_mended_143 : decode cX1_mended 143 = .ok (.sipush 1000, 3) := by decide +kernel
theorem dX1_mended_146 : decode cX1_mended 146 = .ok (.if_icmp .lt 7, 3) := by decide +kernel
theorem dX1_mended_149 : decode cX1_mended 149 = .ok (.iconst (-1), 1) := by decide +kernel
theorem dX1_mended_150 : decode cX1_mended 150 = .ok (.goto 4, 3) := by decide +kernel
theorem dX1_mended_153 : decode cX1_mended 153 = .ok (.iload_n 1, 1) := by decide +kernel
theorem dX1_mended_154 : decode cX1_mended 154 = .ok (.ireturn, 1) := by decide +kernel
set_option maxRecDepth 10000 in
theorem wX1_mended_0 {g : zG} {I : Nat → Nat → Int32} {P : Nat → Nat → Option Nat} {r : Option Value} {h' : zH} {a0 : Nat} (H : zk g a0 1 ∧ ∃ b1, P a0 3 = some b1 ∧ ∃ (I4 : Nat → Nat → Int32), Cl mJ7_fill_53178 [.ref b1, .int 1000] (g, I, P) none (g, I4, P) ∧ zk g a0 1 ∧ Zt none mX1_mended 0 0 17 [(0, .ref a0), (1, .int ((I4 a0 1) - 1))] [] (g, I4, P) r h') : Zt none mX1_mended 0 0 0 [(0, .ref a0)] [] (g, I, P) r h' := by
  refine z_aload_n 0 dX1_mended_0 rfl rfl ?_
  obtain ⟨oe3, b1, e3, H2⟩ := H
  refine z_getP dX1_mended_1 wf_X1_22 (by decide) (by decide) rfl oe3 (fun q => (by cases q.symm.trans e3)) (fun j q => ?_)
  cases q.symm.trans e3
  refine z_sipush (w := 1000) dX1_mended_4 (by decide) ?_
  obtain ⟨I4, c5, H6⟩ := H2
  refine z_stat (As := [.ref b1, .int 1000]) (st := []) (r1 := none) (h1 := (g, I4, P)) dX1_mended_7 kJ7_fill_53178 wm_X1_85 ⟨by decide, by decide⟩ rfl rfl (Nat.le_of_ble_eq_true rfl) (by decide) (by decide) c5 ?_
  refine z_aload_n 0 dX1_mended_10 rfl rfl (z_getI dX1_mended_11 wf_X1_41 (by decide) (by decide) rfl H6.1 (z_iconst (w := 1) dX1_mended_14 (by decide) (z_isub dX1_mended_15 (z_istore_n (lv' := [(1, .int ((I4 a0 1) - 1)), (0, .ref a0)]) dX1_mended_16 (by decide) rfl ?_))))
  exact z_less [1, 0] rfl H6.2
theorem eX1_mended {g : zG} {I : Nat → Nat → Int32} {P : Nat → Nat → Option Nat} {r : Option Value} {h' : zH} {a0 : Nat} (H : Zt none mX1_mended 0 0 0 [(0, .ref a0)] [] (g, I, P) r h') : Cl mX1_mended [.ref a0] (g, I, P) r h' := Cl.of (by decide) (Nat.le_of_ble_eq_true rfl) H
set_option maxRecDepth 10000 in
theorem wX1_mended_17 {g : zG} {I : Nat → Nat → Int32} {P : Nat → Nat → Option Nat} {r : Option Value} {h' : zH} {a0 : Nat} {x1 : Int32} (H : ((x1 < 0) → zk g a0 1 ∧ ∃ b2, P a0 0 = some b2 ∧ zk g b2 3 ∧ ∃ (w5 : Int32), Cl mX3_all [.ref b2] (g, I, P) (some (.int w5)) (g, I, P) ∧ zk g a0 1 ∧ ∃ (w8 : Int32), Cl mX1_fewestBehind [.ref a0, .int 0, .int w5] (g, I, P) (some (.int w8)) (g, I, P) ∧ ((w8 < 1000) → r = some (.int w8) ∧ h' = (g, I, P)) ∧ ((¬ w8 < 1000) → r = some (.int (-1)) ∧ h' = (g, I, P))) ∧ ((¬ x1 < 0) → Zt none mX1_mended 0 0 23 [(0, .ref a0), (1, .int x1), (2, .int 0)] [] (g, I, P) r h')) : Zt none mX1_mended 0 0 17 [(0, .ref a0), (1, .int x1)] [] (g, I, P) r h' := by
  refine z_iload_n 1 dX1_mended_17 rfl ?_
  refine z_if_lt (t := 129) dX1_mended_18 (by decide) (fun q => ?_) (fun q => ?_)
  · have H1 := H.1 q
    refine z_aload_n 0 dX1_mended_129 rfl rfl (z_iconst (w := 0) dX1_mended_130 (by decide) (z_aload_n 0 dX1_mended_131 rfl rfl ?_))
    obtain ⟨oe4, b2, e4, H3⟩ := H1
    refine z_getP dX1_mended_132 wf_X1_12 (by decide) (by decide) rfl oe4 (fun q => (by cases q.symm.trans e4)) (fun j q => ?_)
    cases q.symm.trans e4
    obtain ⟨oc6, w5, c6, H7⟩ := H3
    refine z_virt (As := []) (st := [.int 0, .ref a0]) (r1 := (some (.int w5))) (h1 := (g, I, P)) dX1_mended_135 kX3_all wm_X1_110 ⟨by decide, by decide⟩ rfl rfl (Nat.le_of_ble_eq_true rfl) (by decide) (by decide) oc6 c6 ?_
    obtain ⟨oc9, w8, c9, H10⟩ := H7
    refine z_virt (As := [.int 0, .int w5]) (st := []) (r1 := (some (.int w8))) (h1 := (g, I, P)) dX1_mended_138 kX1_fewestBehind wm_X1_107 ⟨by decide, by decide⟩ rfl rfl (Nat.le_of_ble_eq_true rfl) (by decide) (by decide) oc9 c9 ?_
    refine z_istore_n (lv' := [(1, .int w8), (0, .ref a0)]) dX1_mended_141 (by decide) rfl (z_iload_n 0 dX1_mended_142 rfl (z_sipush (w := 1000) dX1_mended_143 (by decide) ?_))
    refine z_icmp_lt (t := 153) dX1_mended_146 (by decide) (fun q => ?_) (fun q => ?_)
    · have H11 := H10.1 q
      refine z_iload_n 0 dX1_mended_153 rfl ?_
      obtain ⟨rfl, rfl⟩ := H11
      exact z_iret dX1_mended_154 rfl (by decide) (by decide)
    · have H12 := H10.2 q
      refine z_iconst (w := (-1)) dX1_mended_149 (by decide) (z_goto (t := 154) dX1_mended_150 (by decide) ?_)
      obtain ⟨rfl, rfl⟩ := H12
      exact z_iret dX1_mended_154 rfl (by decide) (by decide)
  · have H13 := H.2 q
    refine z_iconst (w := 0) dX1_mended_21 (by decide) (z_istore_n (lv' := [(2, .int 0), (0, .ref a0), (1, .int x1)]) dX1_mended_22 (by decide) rfl ?_)
    exact z_less [1, 2, 0] rfl H13
set_option maxRecDepth 10000 in
theorem wX1_mended_23 {g : zG} {I : Nat → Nat → Int32} {P : Nat → Nat → Option Nat} {r : Option Value} {h' : zH} {a0 : Nat} {x1 : Int32} {x2 : Int32} (H : zk g a0 1 ∧ ∃ b1, P a0 0 = some b1 ∧ zk g b1 3 ∧ ((I b1 1 ≤ x2) → Zt none mX1_mended 0 0 17 [(0, .ref a0), (1, .int (x1 + (-1)))] [] (g, I, P) r h') ∧ ((¬ I b1 1 ≤ x2) → zk g a0 1 ∧ ∃ b6, P a0 0 = some b6 ∧ zk g b6 3 ∧ ∃ (w9 : Int32), Cl mX3_sizeOf [.ref b6, .int x2] (g, I, P) (some (.int w9)) (g, I, P) ∧ zk g a0 1 ∧ ((I a0 1 < x1 + w9) → Zt none mX1_mended 0 0 23 [(0, .ref a0), (1, .int x1), (2, .int (x2 + 1))] [] (g, I, P) r h') ∧ ((¬ I a0 1 < x1 + w9) → zk g a0 1 ∧ ((¬ (x1 + w9) = I a0 1) → zk g a0 1 ∧ ∃ b15, P a0 0 = some b15 ∧ zk g b15 3 ∧ ∃ (w18 : Int32), Cl mX3_behind [.ref b15, .int x2] (g, I, P) (some (.int w18)) (g, I, P) ∧ zk g a0 1 ∧ ∃ (w21 : Int32), Cl mX1_fewestBehind [.ref a0, .int (x1 + w9), .int w18] (g, I, P) (some (.int w21)) (g, I, P) ∧ Zt none mX1_mended 0 0 78 [(0, .ref a0), (1, .int x1), (2, .int x2)] [.int w21] (g, I, P) r h') ∧ ((x1 + w9 = I a0 1) → Zt none mX1_mended 0 0 78 [(0, .ref a0), (1, .int x1), (2, .int x2)] [.int 0] (g, I, P) r h')))) : Zt none mX1_mended 0 0 23 [(0, .ref a0), (1, .int x1), (2, .int x2)] [] (g, I, P) r h' := by
  refine z_iload_n 2 dX1_mended_23 rfl (z_aload_n 0 dX1_mended_24 rfl rfl ?_)
  obtain ⟨oe3, b1, e3, H2⟩ := H
  refine z_getP dX1_mended_25 wf_X1_12 (by decide) (by decide) rfl oe3 (fun q => (by cases q.symm.trans e3)) (fun j q => ?_)
  cases q.symm.trans e3
  refine z_getI dX1_mended_28 wf_X1_91 (by decide) (by decide) rfl H2.1 ?_
  refine z_icmp_ge (t := 123) dX1_mended_31 (by decide) (fun q => ?_) (fun q => ?_)
  · have H4 := H2.2.1 q
    refine z_iinc (y := x1 + (-1)) (lv' := [(1, .int (x1 + (-1))), (0, .ref a0), (2, .int x2)]) 1 dX1_mended_123 rfl rfl (by decide) rfl (z_goto (t := 17) dX1_mended_126 (by decide) ?_)
    exact z_less [1, 0] rfl H4
  · have H5 := H2.2.2 q
    refine z_iload_n 1 dX1_mended_34 rfl (z_aload_n 0 dX1_mended_35 rfl rfl ?_)
    obtain ⟨oe8, b6, e8, H7⟩ := H5
    refine z_getP dX1_mended_36 wf_X1_12 (by decide) (by decide) rfl oe8 (fun q => (by cases q.symm.trans e8)) (fun j q => ?_)
    cases q.symm.trans e8
    refine z_iload_n 2 dX1_mended_39 rfl ?_
    obtain ⟨oc10, w9, c10, H11⟩ := H7
    refine z_virt (As := [.int x2]) (st := [.int x1]) (r1 := (some (.int w9))) (h1 := (g, I, P)) dX1_mended_40 kX3_sizeOf wm_X1_69 ⟨by decide, by decide⟩ rfl rfl (Nat.le_of_ble_eq_true rfl) (by decide) (by decide) oc10 c10 ?_
    refine z_iadd dX1_mended_43 (z_istore_n (lv' := [(3, .int (x1 + w9)), (0, .ref a0), (1, .int x1), (2, .int x2)]) dX1_mended_44 (by decide) rfl (z_iload_n 0 dX1_mended_45 rfl (z_aload_n 1 dX1_mended_46 rfl rfl (z_getI dX1_mended_47 wf_X1_41 (by decide) (by decide) rfl H11.1 ?_))))
    refine z_icmp_gt (t := 117) dX1_mended_50 (by decide) (fun q => ?_) (fun q => ?_)
    · have H12 := H11.2.1 q
      refine z_iinc (y := x2 + 1) (lv' := [(2, .int (x2 + 1)), (3, .int (x1 + w9)), (0, .ref a0), (1, .int x1)]) 3 dX1_mended_117 rfl rfl (by decide) rfl (z_goto (t := 23) dX1_mended_120 (by decide) ?_)
      exact z_less [2, 3, 0] rfl H12
    · have H13 := H11.2.2 q
      refine z_iload_n 0 dX1_mended_53 rfl (z_aload_n 1 dX1_mended_54 rfl rfl (z_getI dX1_mended_55 wf_X1_41 (by decide) (by decide) rfl H13.1 ?_))
      refine z_icmp_ne (t := 65) dX1_mended_58 (by decide) (fun q => ?_) (fun q => ?_)
      · have H14 := H13.2.1 q
        refine z_aload_n 1 dX1_mended_65 rfl rfl (z_iload_n 0 dX1_mended_66 rfl (z_aload_n 1 dX1_mended_67 rfl rfl ?_))
        obtain ⟨oe17, b15, e17, H16⟩ := H14
        refine z_getP dX1_mended_68 wf_X1_12 (by decide) (by decide) rfl oe17 (fun q => (by cases q.symm.trans e17)) (fun j q => ?_)
        cases q.symm.trans e17
        refine z_iload_n 3 dX1_mended_71 rfl ?_
        obtain ⟨oc19, w18, c19, H20⟩ := H16
        refine z_virt (As := [.int x2]) (st := [.int (x1 + w9), .ref a0]) (r1 := (some (.int w18))) (h1 := (g, I, P)) dX1_mended_72 kX3_behind wm_X1_101 ⟨by decide, by decide⟩ rfl rfl (Nat.le_of_ble_eq_true rfl) (by decide) (by decide) oc19 c19 ?_
        obtain ⟨oc22, w21, c22, H23⟩ := H20
        refine z_virt (As := [.int (x1 + w9), .int w18]) (st := []) (r1 := (some (.int w21))) (h1 := (g, I, P)) dX1_mended_75 kX1_fewestBehind wm_X1_107 ⟨by decide, by decide⟩ rfl rfl (Nat.le_of_ble_eq_true rfl) (by decide) (by decide) oc22 c22 ?_
        exact z_less [1, 2, 3] rfl H23
      · have H24 := H13.2.2 q
        refine z_iconst (w := 0) dX1_mended_61 (by decide) (z_goto (t := 78) dX1_mended_62 (by decide) ?_)
        exact z_less [1, 2, 3] rfl H24
set_option maxRecDepth 10000 in
theorem wX1_mended_78 {g : zG} {I : Nat → Nat → Int32} {P : Nat → Nat → Option Nat} {r : Option Value} {h' : zH} {a0 : Nat} {x1 : Int32} {x2 : Int32} {xs0 : Int32} (H : zk g a0 1 ∧ ∃ b1, P a0 3 = some b1 ∧ zk g a0 1 ∧ ∃ b4, P a0 0 = some b4 ∧ zk g a0 1 ∧ ∃ b7, P a0 2 = some b7 ∧ zk g a0 1 ∧ ∃ b10, P a0 0 = some b10 ∧ zk g b10 3 ∧ ∃ (w13 : Int32), Cl mX3_sizeOf [.ref b10, .int x2] (g, I, P) (some (.int w13)) (g, I, P) ∧ zk g b4 3 ∧ ∃ (w16 : Int32), Cl mX3_changesAt [.ref b4, .int x2, .ref b7, .int x1, .int w13] (g, I, P) (some (.int w16)) (g, I, P) ∧ ∃ (I19 : Nat → Nat → Int32), Cl mX11_put [.ref b1, .int ((x1 * 10) + x2), .int (xs0 + w16)] (g, I, P) none (g, I19, P) ∧ Zt none mX1_mended 0 0 23 [(0, .ref a0), (1, .int x1), (2, .int (x2 + 1))] [] (g, I19, P) r h') : Zt none mX1_mended 0 0 78 [(0, .ref a0), (1, .int x1), (2, .int x2)] [.int xs0] (g, I, P) r h' := by
  refine z_istore (lv' := [(4, .int xs0), (0, .ref a0), (1, .int x1), (2, .int x2)]) dX1_mended_78 (by decide) rfl (z_aload_n 1 dX1_mended_80 rfl rfl ?_)
  obtain ⟨oe3, b1, e3, H2⟩ := H
  refine z_getP dX1_mended_81 wf_X1_22 (by decide) (by decide) rfl oe3 (fun q => (by cases q.symm.trans e3)) (fun j q => ?_)
  cases q.symm.trans e3
  refine z_iload_n 2 dX1_mended_84 rfl (z_bipush (w := 10) dX1_mended_85 (by decide) (z_imul dX1_mended_87 (z_iload_n 3 dX1_mended_88 rfl (z_iadd dX1_mended_89 (z_iload 0 dX1_mended_90 rfl (z_aload_n 1 dX1_mended_92 rfl rfl ?_))))))
  obtain ⟨oe6, b4, e6, H5⟩ := H2
  refine z_getP dX1_mended_93 wf_X1_12 (by decide) (by decide) rfl oe6 (fun q => (by cases q.symm.trans e6)) (fun j q => ?_)
  cases q.symm.trans e6
  refine z_iload_n 3 dX1_mended_96 rfl (z_aload_n 1 dX1_mended_97 rfl rfl ?_)
  obtain ⟨oe9, b7, e9, H8⟩ := H5
  refine z_getP dX1_mended_98 wf_X1_18 (by decide) (by decide) rfl oe9 (fun q => (by cases q.symm.trans e9)) (fun j q => ?_)
  cases q.symm.trans e9
  refine z_iload_n 2 dX1_mended_101 rfl (z_aload_n 1 dX1_mended_102 rfl rfl ?_)
  obtain ⟨oe12, b10, e12, H11⟩ := H8
  refine z_getP dX1_mended_103 wf_X1_12 (by decide) (by decide) rfl oe12 (fun q => (by cases q.symm.trans e12)) (fun j q => ?_)
  cases q.symm.trans e12
  refine z_iload_n 3 dX1_mended_106 rfl ?_
  obtain ⟨oc14, w13, c14, H15⟩ := H11
  refine z_virt (As := [.int x2]) (st := [.int x1, .ref b7, .int x2, .ref b4, .int xs0, .int ((x1 * 10) + x2), .ref b1]) (r1 := (some (.int w13))) (h1 := (g, I, P)) dX1_mended_107 kX3_sizeOf wm_X1_69 ⟨by decide, by decide⟩ rfl rfl (Nat.le_of_ble_eq_true rfl) (by decide) (by decide) oc14 c14 ?_
  obtain ⟨oc17, w16, c17, H18⟩ := H15
  refine z_virt (As := [.int x2, .ref b7, .int x1, .int w13]) (st := [.int xs0, .int ((x1 * 10) + x2), .ref b1]) (r1 := (some (.int w16))) (h1 := (g, I, P)) dX1_mended_110 kX3_changesAt wm_X1_94 ⟨by decide, by decide⟩ rfl rfl (Nat.le_of_ble_eq_true rfl) (by decide) (by decide) oc17 c17 ?_
  refine z_iadd dX1_mended_113 ?_
  obtain ⟨I19, c20, H21⟩ := H18
  refine z_stat (As := [.ref b1, .int ((x1 * 10) + x2), .int (xs0 + w16)]) (st := []) (r1 := none) (h1 := (g, I19, P)) dX1_mended_114 kX11_put wm_X1_49 ⟨by decide, by decide⟩ rfl rfl (Nat.le_of_ble_eq_true rfl) (by decide) (by decide) c20 ?_
  refine z_iinc (y := x2 + 1) (lv' := [(2, .int (x2 + 1)), (4, .int xs0), (0, .ref a0), (1, .int x1)]) 3 dX1_mended_117 rfl rfl (by decide) rfl (z_goto (t := 23) dX1_mended_120 (by decide) ?_)
  exact z_less [2, 3, 0] rfl H21
theorem dX1_fewestBehind_0 : decode cX1_fewestBehind 0 = .ok (.sipush 1000, 3) := by decide +kernel
theorem dX1_fewestBehind_3 : decode cX1_fewestBehind 3 = .ok (.istore_n 3, 1) := by decide +kernel
theorem dX1_fewestBehind_4 : decode cX1_fewestBehind 4 = .ok (.iconst 0, 1) := by decide +kernel
theorem dX1_fewestBehind_5 : decode cX1_fewestBehind 5 = .ok (.istore 4, 2) := by decide +kernel
theorem dX1_fewestBehind_7 : decode cX1_fewestBehind 7 = .ok (.iload 4, 2) := by decide +kernel
theorem dX1_fewestBehind_9 : decode cX1_fewestBehind 9 = .ok (.bipush 10, 2) := by decide +kernel
theorem dX1_fewestBehind_11 : decode cX1_fewestBehind 11 = .ok (.if_icmp .ge 37, 3) := by decide +kernel
theorem dX1_fewestBehind_14 : decode cX1_fewestBehind 14 = .ok (.iload_n 2, 1) := by decide +kernel
theorem dX1_fewestBehind_15 : decode cX1_fewestBehind 15 = .ok (.iload 4, 2) := by decide +kernel
theorem dX1_fewestBehind_17 : decode cX1_fewestBehind 17 = .ok (.invokestatic 61, 3) := by decide +kernel
theorem dX1_fewestBehind_20 : decode cX1_fewestBehind 20 = .ok (.ifCond .eq 22, 3) := by decide +kernel
theorem dX1_fewestBehind_23 : decode cX1_fewestBehind 23 = .ok (.iload_n 3, 1) := by decide +kernel
theorem dX1_fewestBehind_24 : decode cX1_fewestBehind 24 = .ok (.aload_n 0, 1) := by decide +kernel
theorem dX1_fewestBehind_25 : decode cX1_fewestBehind 25 = .ok (.getfield 22, 3) := by decide +kernel
theorem dX1_fewestBehind_28 : decode cX1_fewestBehind 28 = .ok (.iload_n 1, 1) := by decide +kernel
theorem dX1_fewestBehind_29 : decode cX1_fewestBehind 29 = .ok (.bipush 10, 2) := by decide +kernel
theorem dX1_fewestBehind_31 : decode cX1_fewestBehind 31 = .ok (.imul, 1) := by decide +kernel
theorem dX1_fewestBehind_32 : decode cX1_fewestBehind 32 = .ok (.iload 4, 2) := by decide +kernel
theorem dX1_fewestBehind_34 : decode cX1_fewestBehind 34 = .ok (.iadd, 1) := by decide +kernel
theorem dX1_fewestBehind_35 : decode cX1_fewestBehind 35 = .ok (.invokestatic 37, 3) := by decide +kernel
theorem dX1_fewestBehind_38 : decode cX1_fewestBehind 38 = .ok (.invokestatic 113, 3) := by decide +kernel
theorem dX1_fewestBehind_41 : decode cX1_fewestBehind 41 = .ok (.istore_n 3, 1) := by decide +kernel
theorem dX1_fewestBehind_42 : decode cX1_fewestBehind 42 = .ok (.iinc 4 1, 3) := by decide +kernel
theorem dX1_fewestBehind_45 : decode cX1_fewestBehind 45 = .ok (.goto (-38), 3) := by decide +kernel
theorem dX1_fewestBehind_48 : decode cX1_fewestBehind 48 = .ok (.iload_n 3, 1) := by decide +kernel
theorem dX1_fewestBehind_49 : decode cX1_fewestBehind 49 = .ok (.ireturn, 1) := by decide +kernel
set_option maxRecDepth 10000 in
theorem wX1_fewestBehind_0 {g : zG} {I : Nat → Nat → Int32} {P : Nat → Nat → Option Nat} {r : Option Value} {h' : zH} {a0 : Nat} {x1 : Int32} {x2 : Int32} (H : Zt none mX1_fewestBehind 0 0 7 [(0, .ref a0), (1, .int x1), (2, .int x2), (3, .int 1000), (4, .int 0)] [] (g, I, P) r h') : Zt none mX1_fewestBehind 0 0 0 [(0, .ref a0), (1, .int x1), (2, .int x2)] [] (g, I, P) r h' := by
  refine z_sipush (w := 1000) dX1_fewestBehind_0 (by decide) (z_istore_n (lv' := [(3, .int 1000), (0, .ref a0), (1, .int x1), (2, .int x2)]) dX1_fewestBehind_3 (by decide) rfl (z_iconst (w := 0) dX1_fewestBehind_4 (by decide) (z_istore (lv' := [(4, .int 0), (3, .int 1000), (0, .ref a0), (1, .int x1), (2, .int x2)]) dX1_fewestBehind_5 (by decide) rfl ?_)))
  exact z_less [2, 3, 4, 1, 0] rfl H
theorem eX1_fewestBehind {g : zG} {I : Nat → Nat → Int32} {P : Nat → Nat → Option Nat} {r : Option Value} {h' : zH} {a0 : Nat} {x1 : Int32} {x2 : Int32} (H : Zt none mX1_fewestBehind 0 0 0 [(0, .ref a0), (1, .int x1), (2, .int x2)] [] (g, I, P) r h') : Cl mX1_fewestBehind [.ref a0, .int x1, .int x2] (g, I, P) r h' := Cl.of (by decide) (Nat.le_of_ble_eq_true rfl) H
set_option maxRecDepth 10000 in
theorem wX1_fewestBehind_7 {g : zG} {I : Nat → Nat → Int32} {P : Nat → Nat → Option Nat} {r : Option Value} {h' : zH} {a0 : Nat} {x1 : Int32} {x2 : Int32} {x3 : Int32} {x4 : Int32} (H : ((10 ≤ x4) → r = some (.int x3) ∧ h' = (g, I, P)) ∧ ((¬ 10 ≤ x4) → ∃ (w3 : Int32), Cl mX11_has [.int x2, .int x4] (g, I, P) (some (.int w3)) (g, I, P) ∧ ((w3 = 0) → Zt none mX1_fewestBehind 0 0 7 [(0, .ref a0), (1, .int x1), (2, .int x2), (3, .int x3), (4, .int (x4 + 1))] [] (g, I, P) r h') ∧ ((¬ w3 = 0) → zk g a0 1 ∧ ∃ b8, P a0 3 = some b8 ∧ ∃ (w11 : Int32), Cl mX11_got [.ref b8, .int ((x1 * 10) + x4)] (g, I, P) (some (.int w11)) (g, I, P) ∧ Zt none mX1_fewestBehind 0 0 7 [(0, .ref a0), (1, .int x1), (2, .int x2), (3, .int (zmmin x3 w11)), (4, .int (x4 + 1))] [] (g, I, P) r h'))) : Zt none mX1_fewestBehind 0 0 7 [(0, .ref a0), (1, .int x1), (2, .int x2), (3, .int x3), (4, .int x4)] [] (g, I, P) r h' := by
  refine z_iload 4 dX1_fewestBehind_7 rfl (z_bipush (w := 10) dX1_fewestBehind_9 (by decide) ?_)
  refine z_icmp_ge (t := 48) dX1_fewestBehind_11 (by decide) (fun q => ?_) (fun q => ?_)
  · have H1 := H.1 q
    refine z_iload_n 3 dX1_fewestBehind_48 rfl ?_
    obtain ⟨rfl, rfl⟩ := H1
    exact z_iret dX1_fewestBehind_49 rfl (by decide) (by decide)
  · have H2 := H.2 q
    refine z_iload_n 2 dX1_fewestBehind_14 rfl (z_iload 4 dX1_fewestBehind_15 rfl ?_)
    obtain ⟨w3, c4, H5⟩ := H2
    refine z_stat (As := [.int x2, .int x4]) (st := []) (r1 := (some (.int w3))) (h1 := (g, I, P)) dX1_fewestBehind_17 kX11_has wm_X1_61 ⟨by decide, by decide⟩ rfl rfl (Nat.le_of_ble_eq_true rfl) (by decide) (by decide) c4 ?_
    refine z_if_eq (t := 42) dX1_fewestBehind_20 (by decide) (fun q => ?_) (fun q => ?_)
    · have H6 := H5.1 q
      refine z_iinc (y := x4 + 1) (lv' := [(4, .int (x4 + 1)), (0, .ref a0), (1, .int x1), (2, .int x2), (3, .int x3)]) 4 dX1_fewestBehind_42 rfl rfl (by decide) rfl (z_goto (t := 7) dX1_fewestBehind_45 (by decide) ?_)
      exact z_less [1, 2, 3, 4, 0] rfl H6
    · have H7 := H5.2 q
      refine z_iload_n 3 dX1_fewestBehind_23 rfl (z_aload_n 0 dX1_fewestBehind_24 rfl rfl ?_)
      obtain ⟨oe10, b8, e10, H9⟩ := H7
      refine z_getP dX1_fewestBehind_25 wf_X1_22 (by decide) (by decide) rfl oe10 (fun q => (by cases q.symm.trans e10)) (fun j q => ?_)
      cases q.symm.trans e10
      refine z_iload_n 1 dX1_fewestBehind_28 rfl (z_bipush (w := 10) dX1_fewestBehind_29 (by decide) (z_imul dX1_fewestBehind_31 (z_iload 4 dX1_fewestBehind_32 rfl (z_iadd dX1_fewestBehind_34 ?_))))
      obtain ⟨w11, c12, H13⟩ := H9
      refine z_stat (As := [.ref b8, .int ((x1 * 10) + x4)]) (st := [.int x3]) (r1 := (some (.int w11))) (h1 := (g, I, P)) dX1_fewestBehind_35 kX11_got wm_X1_37 ⟨by decide, by decide⟩ rfl rfl (Nat.le_of_ble_eq_true rfl) (by decide) (by decide) c12 ?_
      refine z_mmin dX1_fewestBehind_38 wm_X1_113 (by decide) (Nat.le_of_ble_eq_true rfl) (by decide) (by decide) w_mnS w_mI w_mnC (z_istore_n (lv' := [(3, .int (zmmin x3 w11)), (0, .ref a0), (1, .int x1), (2, .int x2), (4, .int x4)]) dX1_fewestBehind_41 (by decide) rfl (z_iinc (y := x4 + 1) (lv' := [(4, .int (x4 + 1)), (3, .int (zmmin x3 w11)), (0, .ref a0), (1, .int x1), (2, .int x2)]) 4 dX1_fewestBehind_42 rfl rfl (by decide) rfl (z_goto (t := 7) dX1_fewestBehind_45 (by decide) ?_)))
      exact z_less [2, 3, 4, 1, 0] rfl H13
theorem dX1_slipsUpTo_0 : decode cX1_slipsUpTo 0 = .ok (.iconst 0, 1) := by decide +kernel
theorem dX1_slipsUpTo_1 : decode cX1_slipsUpTo 1 = .ok (.istore_n 2, 1) := by decide +kernel
theorem dX1_slipsUpTo_2 : decode cX1_slipsUpTo 2 = .ok (.iconst 0, 1) := by decide +kernel
theorem dX1_slipsUpTo_3 : decode cX1_slipsUpTo 3 = .ok (.istore_n 3, 1) := by decide +kernel
theorem dX1_slipsUpTo_4 : decode cX1_slipsUpTo 4 = .ok (.iload_n 3, 1) := by decide +kernel
theorem dX1_slipsUpTo_5 : decode cX1_slipsUpTo 5 = .ok (.aload_n 0, 1) := by decide +kernel
theorem dX1_slipsUpTo_6 : decode cX1_slipsUpTo 6 = .ok (.getfield 12, 3) := by decide +kernel
theorem dX1_slipsUpTo_9 : decode cX1_slipsUpTo 9 = .ok (.getfield 91, 3) := by decide +kernel
theorem dX1_slipsUpTo_12 : decode cX1_slipsUpTo 12 = .ok (.if_icmp .ge 38, 3) := by decide +kernel
theorem dX1_slipsUpTo_15 : decode cX1_slipsUpTo 15 = .ok (.aload_n 0, 1) := by decide +kernel
theorem dX1_slipsUpTo_16 : decode cX1_slipsUpTo 16 = .ok (.aload_n 0, 1) := by decide +kernel
theorem dX1_slipsUpTo_17 : decode cX1_slipsUpTo 17 = .ok (.getfield 12, 3) := by decide +kernel
theorem dX1_slipsUpTo_20 : decode cX1_slipsUpTo 20 = .ok (.iload_n 3, 1) := by decide +kernel
theorem dX1_slipsUpTo_21 : decode cX1_slipsUpTo 21 = .ok (.aload_n 0, 1) := by decide +kernel
theorem dX1_slipsUpTo_22 : decode cX1_slipsUpTo 22 = .ok (.getfield 18, 3) := by decide +kernel
theorem dX1_slipsUpTo_25 : decode cX1_slipsUpTo 25 = .ok (.iconst 0, 1) := by decide +kernel
theorem dX1_slipsUpTo_26 : decode cX1_slipsUpTo 26 = .ok (.aload_n 0, 1) := by decide +kernel
theorem dX1_slipsUpTo_27 : decode cX1_slipsUpTo 27 = .ok (.getfield 41, 3) := by decide +kernel
theorem dX1_slipsUpTo_30 : decode cX1_slipsUpTo 30 = .ok (.invokevirtual 118, 3) := by decide +kernel
theorem dX1_slipsUpTo_33 : decode cX1_slipsUpTo 33 = .ok (.iload_n 1, 1) := by decide +kernel
theorem dX1_slipsUpTo_34 : decode cX1_slipsUpTo 34 = .ok (.if_icmp .gt 10, 3) := by decide +kernel
theorem dX1_slipsUpTo_37 : decode cX1_slipsUpTo 37 = .ok (.iload_n 2, 1) := by decide +kernel
theorem dX1_slipsUpTo_38 : decode cX1_slipsUpTo 38 = .ok (.iload_n 3, 1) := by decide +kernel
theorem dX1_slipsUpTo_39 : decode cX1_slipsUpTo 39 = .ok (.invokestatic 73, 3) := by decide +kernel
theorem dX1_slipsUpTo_42 : decode cX1_slipsUpTo 42 = .ok (.ior, 1) := by decide +kernel
theorem dX1_slipsUpTo_43 : decode cX1_slipsUpTo 43 = .ok (.istore_n 2, 1) := by decide +kernel
theorem dX1_slipsUpTo_44 : decode cX1_slipsUpTo 44 = .ok (.iinc 3 1, 3) := by decide +kernel
theorem dX1_slipsUpTo_47 : decode cX1_slipsUpTo 47 = .ok (.goto (-43), 3) := by decide +kernel
theorem dX1_slipsUpTo_50 : decode cX1_slipsUpTo 50 = .ok (.iload_n 2, 1) := by decide +kernel
theorem dX1_slipsUpTo_51 : decode cX1_slipsUpTo 51 = .ok (.ireturn, 1) := by decide +kernel
set_option maxRecDepth 10000 in
theorem wX1_slipsUpTo_0 {g : zG} {I : Nat → Nat → Int32} {P : Nat → Nat → Option Nat} {r : Option Value} {h' : zH} {a0 : Nat} {x1 : Int32} (H : Zt none mX1_slipsUpTo 0 0 4 [(0, .ref a0), (1, .int x1), (2, .int 0), (3, .int 0)] [] (g, I, P) r h') : Zt none mX1_slipsUpTo 0 0 0 [(0, .ref a0), (1, .int x1)] [] (g, I, P) r h' := by
  refine z_iconst (w := 0) dX1_slipsUpTo_0 (by decide) (z_istore_n (lv' := [(2, .int 0), (0, .ref a0), (1, .int x1)]) dX1_slipsUpTo_1 (by decide) rfl (z_iconst (w := 0) dX1_slipsUpTo_2 (by decide) (z_istore_n (lv' := [(3, .int 0), (2, .int 0), (0, .ref a0), (1, .int x1)]) dX1_slipsUpTo_3 (by decide) rfl ?_)))
  exact z_less [2, 3, 1, 0] rfl H
theorem eX1_slipsUpTo {g : zG} {I : Nat → Nat → Int32} {P : Nat → Nat → Option Nat} {r : Option Value} {h' : zH} {a0 : Nat} {x1 : Int32} (H : Zt none mX1_slipsUpTo 0 0 0 [(0, .ref a0), (1, .int x1)] [] (g, I, P) r h') : Cl mX1_slipsUpTo [.ref a0, .int x1] (g, I, P) r h' := Cl.of (by decide) (Nat.le_of_ble_eq_true rfl) H
set_option maxRecDepth 10000 in
theorem wX1_slipsUpTo_4 {g : zG} {I : Nat → Nat → Int32} {P : Nat → Nat → Option Nat} {r : Option Value} {h' : zH} {a0 : Nat} {x1 : Int32} {x2 : Int32} {x3 : Int32} (H : zk g a0 1 ∧ ∃ b1, P a0 0 = some b1 ∧ zk g b1 3 ∧ ((I b1 1 ≤ x3) → r = some (.int x2) ∧ h' = (g, I, P)) ∧ ((¬ I b1 1 ≤ x3) → zk g a0 1 ∧ ∃ b6, P a0 0 = some b6 ∧ zk g a0 1 ∧ ∃ b9, P a0 2 = some b9 ∧ zk g a0 1 ∧ zk g a0 1 ∧ ∃ (w12 : Int32) (I13 : Nat → Nat → Int32), Cl mX1_changesTo [.ref a0, .ref b6, .int x3, .ref b9, .int 0, .int (I a0 1)] (g, I, P) (some (.int w12)) (g, I13, P) ∧ ((x1 < w12) → Zt none mX1_slipsUpTo 0 0 4 [(0, .ref a0), (1, .int x1), (2, .int x2), (3, .int (x3 + 1))] [] (g, I13, P) r h') ∧ ((¬ x1 < w12) → ∃ (w18 : Int32), Cl mX11_bit [.int x3] (g, I13, P) (some (.int w18)) (g, I13, P) ∧ Zt none mX1_slipsUpTo 0 0 4 [(0, .ref a0), (1, .int x1), (2, .int (x2 ||| w18)), (3, .int (x3 + 1))] [] (g, I13, P) r h'))) : Zt none mX1_slipsUpTo 0 0 4 [(0, .ref a0), (1, .int x1), (2, .int x2), (3, .int x3)] [] (g, I, P) r h' := by
  refine z_iload_n 3 dX1_slipsUpTo_4 rfl (z_aload_n 0 dX1_slipsUpTo_5 rfl rfl ?_)
  obtain ⟨oe3, b1, e3, H2⟩ := H
  refine z_getP dX1_slipsUpTo_6 wf_X1_12 (by decide) (by decide) rfl oe3 (fun q => (by cases q.symm.trans e3)) (fun j q => ?_)
  cases q.symm.trans e3
  refine z_getI dX1_slipsUpTo_9 wf_X1_91 (by decide) (by decide) rfl H2.1 ?_
  refine z_icmp_ge (t := 50) dX1_slipsUpTo_12 (by decide) (fun q => ?_) (fun q => ?_)
  · have H4 := H2.2.1 q
    refine z_iload_n 2 dX1_slipsUpTo_50 rfl ?_
    obtain ⟨rfl, rfl⟩ := H4
    exact z_iret dX1_slipsUpTo_51 rfl (by decide) (by decide)
  · have H5 := H2.2.2 q
    refine z_aload_n 0 dX1_slipsUpTo_15 rfl rfl (z_aload_n 0 dX1_slipsUpTo_16 rfl rfl ?_)
    obtain ⟨oe8, b6, e8, H7⟩ := H5
    refine z_getP dX1_slipsUpTo_17 wf_X1_12 (by decide) (by decide) rfl oe8 (fun q => (by cases q.symm.trans e8)) (fun j q => ?_)
    cases q.symm.trans e8
    refine z_iload_n 3 dX1_slipsUpTo_20 rfl (z_aload_n 0 dX1_slipsUpTo_21 rfl rfl ?_)
    obtain ⟨oe11, b9, e11, H10⟩ := H7
    refine z_getP dX1_slipsUpTo_22 wf_X1_18 (by decide) (by decide) rfl oe11 (fun q => (by cases q.symm.trans e11)) (fun j q => ?_)
    cases q.symm.trans e11
    refine z_iconst (w := 0) dX1_slipsUpTo_25 (by decide) (z_aload_n 0 dX1_slipsUpTo_26 rfl rfl (z_getI dX1_slipsUpTo_27 wf_X1_41 (by decide) (by decide) rfl H10.1 ?_))
    obtain ⟨oc14, w12, I13, c14, H15⟩ := H10.2
    refine z_virt (As := [.ref b6, .int x3, .ref b9, .int 0, .int (I a0 1)]) (st := []) (r1 := (some (.int w12))) (h1 := (g, I13, P)) dX1_slipsUpTo_30 kX1_changesTo wm_X1_118 ⟨by decide, by decide⟩ rfl rfl (Nat.le_of_ble_eq_true rfl) (by decide) (by decide) oc14 c14 ?_
    refine z_iload_n 1 dX1_slipsUpTo_33 rfl ?_
    refine z_icmp_gt (t := 44) dX1_slipsUpTo_34 (by decide) (fun q => ?_) (fun q => ?_)
    · have H16 := H15.1 q
      refine z_iinc (y := x3 + 1) (lv' := [(3, .int (x3 + 1)), (0, .ref a0), (1, .int x1), (2, .int x2)]) 3 dX1_slipsUpTo_44 rfl rfl (by decide) rfl (z_goto (t := 4) dX1_slipsUpTo_47 (by decide) ?_)
      exact z_less [1, 2, 3, 0] rfl H16
    · have H17 := H15.2 q
      refine z_iload_n 2 dX1_slipsUpTo_37 rfl (z_iload_n 3 dX1_slipsUpTo_38 rfl ?_)
      obtain ⟨w18, c19, H20⟩ := H17
      refine z_stat (As := [.int x3]) (st := [.int x2]) (r1 := (some (.int w18))) (h1 := (g, I13, P)) dX1_slipsUpTo_39 kX11_bit wm_X1_73 ⟨by decide, by decide⟩ rfl rfl (Nat.le_of_ble_eq_true rfl) (by decide) (by decide) c19 ?_
      refine z_ior dX1_slipsUpTo_42 (z_istore_n (lv' := [(2, .int (x2 ||| w18)), (0, .ref a0), (1, .int x1), (3, .int x3)]) dX1_slipsUpTo_43 (by decide) rfl (z_iinc (y := x3 + 1) (lv' := [(3, .int (x3 + 1)), (2, .int (x2 ||| w18)), (0, .ref a0), (1, .int x1)]) 3 dX1_slipsUpTo_44 rfl rfl (by decide) rfl (z_goto (t := 4) dX1_slipsUpTo_47 (by decide) ?_)))
      exact z_less [2, 3, 1, 0] rfl H20
theorem dX1_changesBetween_0 : decode cX1_changesBetween 0 = .ok (.aload_n 0, 1) := by decide +kernel
theorem dX1_changesBetween_1 : decode cX1_changesBetween 1 = .ok (.aload_n 1, 1) := by decide +kernel
theorem dX1_changesBetween_2 : decode cX1_changesBetween 2 = .ok (.iload_n 2, 1) := by decide +kernel
theorem dX1_changesBetween_3 : decode cX1_changesBetween 3 = .ok (.aload_n 1, 1) := by decide +kernel
theorem dX1_changesBetween_4 : decode cX1_changesBetween 4 = .ok (.getfield 122, 3) := by decide +kernel
theorem dX1_changesBetween_7 : decode cX1_changesBetween 7 = .ok (.iload_n 3, 1) := by decide +kernel
theorem dX1_changesBetween_8 : decode cX1_changesBetween 8 = .ok (.bipush 6, 2) := by decide +kernel
theorem dX1_changesBetween_10 : decode cX1_changesBetween 10 = .ok (.imul, 1) := by decide +kernel
theorem dX1_changesBetween_11 : decode cX1_changesBetween 11 = .ok (.aload_n 1, 1) := by decide +kernel
theorem dX1_changesBetween_12 : decode cX1_changesBetween 12 = .ok (.iload_n 3, 1) := by decide +kernel
theorem dX1_changesBetween_13 : decode cX1_changesBetween 13 = .ok (.invokevirtual 69, 3) := by decide +kernel
theorem dX1_changesBetween_16 : decode cX1_changesBetween 16 = .ok (.invokevirtual 118, 3) := by decide +kernel
theorem dX1_changesBetween_19 : decode cX1_changesBetween 19 = .ok (.ireturn, 1) := by decide +kernel
set_option maxRecDepth 10000 in
theorem wX1_changesBetween_0 {g : zG} {I : Nat → Nat → Int32} {P : Nat → Nat → Option Nat} {r : Option Value} {h' : zH} {a0 : Nat} {a1 : Nat} {x2 : Int32} {x3 : Int32} (H : zk g a1 3 ∧ ∃ b1, P a1 7 = some b1 ∧ zk g a1 3 ∧ ∃ (w4 : Int32), Cl mX3_sizeOf [.ref a1, .int x3] (g, I, P) (some (.int w4)) (g, I, P) ∧ zk g a0 1 ∧ ∃ (w7 : Int32) (I8 : Nat → Nat → Int32), Cl mX1_changesTo [.ref a0, .ref a1, .int x2, .ref b1, .int (x3 * 6), .int w4] (g, I, P) (some (.int w7)) (g, I8, P) ∧ r = some (.int w7) ∧ h' = (g, I8, P)) : Zt none mX1_changesBetween 0 0 0 [(0, .ref a0), (1, .ref a1), (2, .int x2), (3, .int x3)] [] (g, I, P) r h' := by
  refine z_aload_n 0 dX1_changesBetween_0 rfl rfl (z_aload_n 1 dX1_changesBetween_1 rfl rfl (z_iload_n 2 dX1_changesBetween_2 rfl (z_aload_n 1 dX1_changesBetween_3 rfl rfl ?_)))
  obtain ⟨oe3, b1, e3, H2⟩ := H
  refine z_getP dX1_changesBetween_4 wf_X1_122 (by decide) (by decide) rfl oe3 (fun q => (by cases q.symm.trans e3)) (fun j q => ?_)
  cases q.symm.trans e3
  refine z_iload_n 3 dX1_changesBetween_7 rfl (z_bipush (w := 6) dX1_changesBetween_8 (by decide) (z_imul dX1_changesBetween_10 (z_aload_n 1 dX1_changesBetween_11 rfl rfl (z_iload_n 3 dX1_changesBetween_12 rfl ?_))))
  obtain ⟨oc5, w4, c5, H6⟩ := H2
  refine z_virt (As := [.int x3]) (st := [.int (x3 * 6), .ref b1, .int x2, .ref a1, .ref a0]) (r1 := (some (.int w4))) (h1 := (g, I, P)) dX1_changesBetween_13 kX3_sizeOf wm_X1_69 ⟨by decide, by decide⟩ rfl rfl (Nat.le_of_ble_eq_true rfl) (by decide) (by decide) oc5 c5 ?_
  obtain ⟨oc9, w7, I8, c9, H10⟩ := H6
  refine z_virt (As := [.ref a1, .int x2, .ref b1, .int (x3 * 6), .int w4]) (st := []) (r1 := (some (.int w7))) (h1 := (g, I8, P)) dX1_changesBetween_16 kX1_changesTo wm_X1_118 ⟨by decide, by decide⟩ rfl rfl (Nat.le_of_ble_eq_true rfl) (by decide) (by decide) oc9 c9 ?_
  obtain ⟨rfl, rfl⟩ := H10
  exact z_iret dX1_changesBetween_19 rfl (by decide) (by decide)
theorem eX1_changesBetween {g : zG} {I : Nat → Nat → Int32} {P : Nat → Nat → Option Nat} {r : Option Value} {h' : zH} {a0 : Nat} {a1 : Nat} {x2 : Int32} {x3 : Int32} (H : Zt none mX1_changesBetween 0 0 0 [(0, .ref a0), (1, .ref a1), (2, .int x2), (3, .int x3)] [] (g, I, P) r h') : Cl mX1_changesBetween [.ref a0, .ref a1, .int x2, .int x3] (g, I, P) r h' := Cl.of (by decide) (Nat.le_of_ble_eq_true rfl) H
theorem dX1_changesTo_0 : decode cX1_changesTo 0 = .ok (.iconst 0, 1) := by decide +kernel
theorem dX1_changesTo_1 : decode cX1_changesTo 1 = .ok (.istore 6, 2) := by decide +kernel
theorem dX1_changesTo_3 : decode cX1_changesTo 3 = .ok (.iload 6, 2) := by decide +kernel
theorem dX1_changesTo_5 : decode cX1_changesTo 5 = .ok (.iload 5, 2) := by decide +kernel
theorem dX1_changesTo_7 : decode cX1_changesTo 7 = .ok (.if_icmp .gt 20, 3) := by decide +kernel
theorem dX1_changesTo_10 : decode cX1_changesTo 10 = .ok (.aload_n 0, 1) := by decide +kernel
theorem dX1_changesTo_11 : decode cX1_changesTo 11 = .ok (.getfield 25, 3) := by decide +kernel
theorem dX1_changesTo_14 : decode cX1_changesTo 14 = .ok (.iload 6, 2) := by decide +kernel
theorem dX1_changesTo_16 : decode cX1_changesTo 16 = .ok (.iload 6, 2) := by decide +kernel
theorem dX1_changesTo_18 : decode cX1_changesTo 18 = .ok (.invokestatic 49, 3) := by decide +kernel
theorem dX1_changesTo_21 : decode cX1_changesTo 21 = .ok (.iinc 6 1, 3) := by decide +kernel
theorem dX1_changesTo_24 : decode cX1_changesTo 24 = .ok (.goto (-21), 3) := by decide +kernel
theorem dX1_changesTo_27 : decode cX1_changesTo 27 = .ok (.iconst 0, 1) := by decide +kernel
theorem dX1_changesTo_28 : decode cX1_changesTo 28 = .ok (.istore 6, 2) := by decide +kernel
theorem dX1_changesTo_30 : decode cX1_changesTo 30 = .ok (.iload 6, 2) := by decide +kernel
theorem dX1_changesTo_32 : decode cX1_changesTo 32 = .ok (.aload_n 1, 1) := by decide +kernel
theorem dX1_changesTo_33 : decode cX1_changesTo 33 = .ok (.iload_n 2, 1) := by decide +kernel
theorem dX1_changesTo_34 : decode cX1_changesTo 34 = .ok (.invokevirtual 69, 3) := by decide +kernel
theorem dX1_changesTo_37 : decode cX1_changesTo 37 = .ok (.if_icmp .ge 125, 3) := by decide +kernel
theorem dX1_changesTo_40 : decode cX1_changesTo 40 = .ok (.aload_n 0, 1) := by decide +kernel
theorem dX1_changesTo_41 : decode cX1_changesTo 41 = .ok (.getfield 25, 3) := by decide +kernel
theorem dX1_changesTo_44 : decode cX1_changesTo 44 = .ok (.iconst 0, 1) := by decide +kernel
theorem dX1_changesTo_45 : decode cX1_changesTo 45 = .ok (.invokestatic 37, 3) := by decide +kernel
theorem dX1_changesTo_48 : decode cX1_changesTo 48 = .ok (.istore 7, 2) := by decide +kernel
theorem dX1_changesTo_50 : decode cX1_changesTo 50 = .ok (.aload_n 0, 1) := by decide +kernel
theorem dX1_changesTo_51 : decode cX1_changesTo 51 = .ok (.getfield 25, 3) := by decide +kernel
theorem dX1_changesTo_54 : decode cX1_changesTo 54 = .ok (.iconst 0, 1) := by decide +kernel
theorem dX1_changesTo_55 : decode cX1_changesTo 55 = .ok (.iload 6, 2) := by decide +kernel
theorem dX1_changesTo_57 : decode cX1_changesTo 57 = .ok (.iconst 1, 1) := by decide +kernel
theorem dX1_changesTo_58 : decode cX1_changesTo 58 = .ok (.iadd, 1) := by decide +kernel
theorem dX1_changesTo_59 : decode cX1_changesTo 59 = .ok (.invokestatic 49, 3) := by decide +kernel
theorem dX1_changesTo_62 : decode cX1_changesTo 62 = .ok (.iconst 1, 1) := by decide +kernel
theorem dX1_changesTo_63 : decode cX1_changesTo 63 = .ok (.istore 8, 2) := by decide +kernel
theorem dX1_changesTo_65 : decode cX1_changesTo 65 = .ok (.iload 8, 2) := by decide +kernel
theorem dX1_changesTo_67 : decode cX1_changesTo 67 = .ok (.iload 5, 2) := by decide +kernel
theorem dX1_changesTo_69 : decode cX1_changesTo 69 = .ok (.if_icmp .gt 87, 3) := by decide +kernel
theorem dX1_changesTo_72 : decode cX1_changesTo 72 = .ok (.aload_n 0, 1) := by decide +kernel
theorem dX1_changesTo_73 : decode cX1_changesTo 73 = .ok (.getfield 25, 3) := by decide +kernel
theorem dX1_changesTo_76 : decode cX1_changesTo 76 = .ok (.iload 8, 2) := by decide +kernel
theorem dX1_changesTo_78 : decode cX1_changesTo 78 = .ok (.invokestatic 37, 3) := by decide +kernel
theorem dX1_changesTo_81 : decode cX1_changesTo 81 = .ok (.istore 9, 2) := by decide +kernel
theorem dX1_changesTo_83 : decode cX1_changesTo 83 = .ok (.iload 7, 2) := by decide +kernel
theorem dX1_changesTo_85 : decode cX1_changesTo 85 = .ok (.aload_n 1, 1) := by decide +kernel
theorem dX1_changesTo_86 : decode cX1_changesTo 86 = .ok (.iload_n 2, 1) := by decide +kernel
theorem dX1_changesTo_87 : decode cX1_changesTo 87 = .ok (.iload 6, 2) := by decide +kernel
theorem dX1_changesTo_89 : decode cX1_changesTo 89 = .ok (.invokevirtual 72, 3) := by decide +kernel
theorem dX1_changesTo_92 : decode cX1_changesTo 92 = .ok (.aload_n 3, 1) := by decide +kernel
theorem dX1_changesTo_93 : decode cX1_changesTo 93 = .ok (.iload 4, 2) := by decide +kernel
theorem dX1_changesTo_95 : decode cX1_changesTo 95 = .ok (.iload 8, 2) := by decide +kernel
theorem dX1_changesTo_97 : decode cX1_changesTo 97 = .ok (.iadd, 1) := by decide +kernel
theorem dX1_changesTo_98 : decode cX1_changesTo 98 = .ok (.iconst 1, 1) := by decide +kernel
theorem dX1_changesTo_99 : decode cX1_changesTo 99 = .ok (.isub, 1) := by decide +kernel
theorem dX1_changesTo_100 : decode cX1_changesTo 100 = .ok (.invokestatic 37, 3) := by decide +kernel
theorem dX1_changesTo_103 : decode cX1_changesTo 103 = .ok (.if_icmp .ne 7, 3) := by decide +kernel
theorem dX1_changesTo_106 : decode cX1_changesTo 106 = .ok (.iconst 0, 1) := by decide +kernel
theorem dX1_changesTo_107 : decode cX1_changesTo 107 = .ok (.goto 4, 3) := by decide +kernel
theorem dX1_changesTo_110 : decode cX1_changesTo 110 = .ok (.iconst 1, 1) := by decide +kernel
theorem dX1_changesTo_111 : decode cX1_changesTo 111 = .ok (.iadd, 1) := by decide +kernel
theorem dX1_changesTo_112 : decode cX1_changesTo 112 = .ok (.istore 10, 2) := by decide +kernel
theorem dX1_changesTo_114 : decode cX1_changesTo 114 = .ok (.aload_n 0, 1) := by decide +kernel
theorem dX1_changesTo_115 : decode cX1_changesTo 115 = .ok (.getfield 25, 3) := by decide +kernel
theorem dX1_changesTo_118 : decode cX1_changesTo 118 = .ok (.iload 8, 2) := by decide +kernel
theorem dX1_changesTo_120 : decode cX1_changesTo 120 = .ok (.iload 10, 2) := by decide +kernel
theorem dX1_changesTo_122 : decode cX1_changesTo 122 = .ok (.iconst 1, 1) := by decide +kernel
theorem dX1_changesTo_123 : decode cX1_changesTo 123 = .ok (.iload 9, 2) := by decide +kernel
theorem dX1_changesTo_125 : decode cX1_changesTo 125 = .ok (.aload_n 0, 1) := by decide +kernel
theorem dX1_changesTo_126 : decode cX1_changesTo 126 = .ok (.getfield 25, 3) := by decide +kernel
theorem dX1_changesTo_129 : decode cX1_changesTo 129 = .ok (.iload 8, 2) := by decide +kernel
theorem dX1_changesTo_131 : decode cX1_changesTo 131 = .ok (.iconst 1, 1) := by decide +kernel
theorem dX1_changesTo_132 : decode cX1_changesTo 132 = .ok (.isub, 1) := by decide +kernel
theorem dX1_changesTo_133 : decode cX1_changesTo 133 = .ok (.invokestatic 37, 3) := by decide +kernel
theorem dX1_changesTo_136 : decode cX1_changesTo 136 = .ok (.invokestatic 113, 3) := by decide +kernel
theorem dX1_changesTo_139 : decode cX1_changesTo 139 = .ok (.iadd, 1) := by decide +kernel
theorem dX1_changesTo_140 : decode cX1_changesTo 140 = .ok (.invokestatic 113, 3) := by decide +kernel
theorem dX1_changesTo_143 : decode cX1_changesTo 143 = .ok (.invokestatic 49, 3) := by decide +kernel
theorem dX1_changesTo_146 : decode cX1_changesTo 146 = .ok (.iload 9, 2) := by decide +kernel
theorem dX1_changesTo_148 : decode cX1_changesTo 148 = .ok (.istore 7, 2) := by decide +kernel
theorem dX1_changesTo_150 : decode cX1_changesTo 150 = .ok (.iinc 8 1, 3) := by decide +kernel
theorem dX1_changesTo_153 : decode cX1_changesTo 153 = .ok (.goto (-88), 3) := by decide +kernel
theorem dX1_changesTo_156 : decode cX1_changesTo 156 = .ok (.iinc 6 1, 3) := by decide +kernel
theorem dX1_changesTo_159 : decode cX1_changesTo 159 = .ok (.goto (-129), 3) := by decide +kernel
theorem dX1_changesTo_162 : decode cX1_changesTo 162 = .ok (.aload_n 0, 1) := by decide +kernel
theorem dX1_changesTo_163 : decode cX1_changesTo 163 = .ok (.getfield 25, 3) := by decide +kernel
theorem dX1_changesTo_166 : decode cX1_changesTo 166 = .ok (.iload 5, 2) := by decide +kernel
theorem dX1_changesTo_168 : decode cX1_changesTo 168 = .ok (.invokestatic 37, 3) := by decide +kernel
theorem dX1_changesTo_171 : decode cX1_changesTo 171 = .ok (.ireturn, 1) := by decide +kernel
set_option maxRecDepth 10000 in
theorem wX1_changesTo_0 {g : zG} {I : Nat → Nat → Int32} {P : Nat → Nat → Option Nat} {r : Option Value} {h' : zH} {a0 : Nat} {a1 : Nat} {x2 : Int32} {a3 : Nat} {x4 : Int32} {x5 : Int32} (H : Zt none mX1_changesTo 0 0 3 [(0, .ref a0), (1, .ref a1), (2, .int x2), (3, .ref a3), (4, .int x4), (5, .int x5), (6, .int 0)] [] (g, I, P) r h') : Zt none mX1_changesTo 0 0 0 [(0, .ref a0), (1, .ref a1), (2, .int x2), (3, .ref a3), (4, .int x4), (5, .int x5)] [] (g, I, P) r h' := by
  refine z_iconst (w := 0) dX1_changesTo_0 (by decide) (z_istore (lv' := [(6, .int 0), (0, .ref a0), (1, .ref a1), (2, .int x2), (3, .ref a3), (4, .int x4), (5, .int x5)]) dX1_changesTo_1 (by decide) rfl ?_)
  exact z_less [1, 2, 3, 4, 5, 6, 0] rfl H
theorem eX1_changesTo {g : zG} {I : Nat → Nat → Int32} {P : Nat → Nat → Option Nat} {r : Option Value} {h' : zH} {a0 : Nat} {a1 : Nat} {x2 : Int32} {a3 : Nat} {x4 : Int32} {x5 : Int32} (H : Zt none mX1_changesTo 0 0 0 [(0, .ref a0), (1, .ref a1), (2, .int x2), (3, .ref a3), (4, .int x4), (5, .int x5)] [] (g, I, P) r h') : Cl mX1_changesTo [.ref a0, .ref a1, .int x2, .ref a3, .int x4, .int x5] (g, I, P) r h' := Cl.of (by decide) (Nat.le_of_ble_eq_true rfl) H
set_option maxRecDepth 10000 in
theorem wX1_changesTo_3 {g : zG} {I : Nat → Nat → Int32} {P : Nat → Nat → Option Nat} {r : Option Value} {h' : zH} {a0 : Nat} {a1 : Nat} {x2 : Int32} {a3 : Nat} {x4 : Int32} {x5 : Int32} {x6 : Int32} (H : ((x5 < x6) → Zt none mX1_changesTo 0 0 30 [(0, .ref a0), (1, .ref a1), (2, .int x2), (3, .ref a3), (4, .int x4), (5, .int x5), (6, .int 0)] [] (g, I, P) r h') ∧ ((¬ x5 < x6) → zk g a0 1 ∧ ∃ b3, P a0 4 = some b3 ∧ ∃ (I6 : Nat → Nat → Int32), Cl mX11_put [.ref b3, .int x6, .int x6] (g, I, P) none (g, I6, P) ∧ Zt none mX1_changesTo 0 0 3 [(0, .ref a0), (1, .ref a1), (2, .int x2), (3, .ref a3), (4, .int x4), (5, .int x5), (6, .int (x6 + 1))] [] (g, I6, P) r h')) : Zt none mX1_changesTo 0 0 3 [(0, .ref a0), (1, .ref a1), (2, .int x2), (3, .ref a3), (4, .int x4), (5, .int x5), (6, .int x6)] [] (g, I, P) r h' := by
  refine z_iload 6 dX1_changesTo_3 rfl (z_iload 5 dX1_changesTo_5 rfl ?_)
  refine z_icmp_gt (t := 27) dX1_changesTo_7 (by decide) (fun q => ?_) (fun q => ?_)
  · have H1 := H.1 q
    refine z_iconst (w := 0) dX1_changesTo_27 (by decide) (z_istore (lv' := [(6, .int 0), (0, .ref a0), (1, .ref a1), (2, .int x2), (3, .ref a3), (4, .int x4), (5, .int x5)]) dX1_changesTo_28 (by decide) rfl ?_)
    exact z_less [1, 2, 3, 4, 5, 6, 0] rfl H1
  · have H2 := H.2 q
    refine z_aload_n 0 dX1_changesTo_10 rfl rfl ?_
    obtain ⟨oe5, b3, e5, H4⟩ := H2
    refine z_getP dX1_changesTo_11 wf_X1_25 (by decide) (by decide) rfl oe5 (fun q => (by cases q.symm.trans e5)) (fun j q => ?_)
    cases q.symm.trans e5
    refine z_iload 6 dX1_changesTo_14 rfl (z_iload 6 dX1_changesTo_16 rfl ?_)
    obtain ⟨I6, c7, H8⟩ := H4
    refine z_stat (As := [.ref b3, .int x6, .int x6]) (st := []) (r1 := none) (h1 := (g, I6, P)) dX1_changesTo_18 kX11_put wm_X1_49 ⟨by decide, by decide⟩ rfl rfl (Nat.le_of_ble_eq_true rfl) (by decide) (by decide) c7 ?_
    refine z_iinc (y := x6 + 1) (lv' := [(6, .int (x6 + 1)), (0, .ref a0), (1, .ref a1), (2, .int x2), (3, .ref a3), (4, .int x4), (5, .int x5)]) 6 dX1_changesTo_21 rfl rfl (by decide) rfl (z_goto (t := 3) dX1_changesTo_24 (by decide) ?_)
    exact z_less [1, 2, 3, 4, 5, 6, 0] rfl H8
set_option maxRecDepth 10000 in
theorem wX1_changesTo_30 {g : zG} {I : Nat → Nat → Int32} {P : Nat → Nat → Option Nat} {r : Option Value} {h' : zH} {a0 : Nat} {a1 : Nat} {x2 : Int32} {a3 : Nat} {x4 : Int32} {x5 : Int32} {x6 : Int32} (H : zk g a1 3 ∧ ∃ (w1 : Int32), Cl mX3_sizeOf [.ref a1, .int x2] (g, I, P) (some (.int w1)) (g, I, P) ∧ ((w1 ≤ x6) → zk g a0 1 ∧ ∃ b5, P a0 4 = some b5 ∧ ∃ (w8 : Int32), Cl mX11_got [.ref b5, .int x5] (g, I, P) (some (.int w8)) (g, I, P) ∧ r = some (.int w8) ∧ h' = (g, I, P)) ∧ ((¬ w1 ≤ x6) → zk g a0 1 ∧ ∃ b12, P a0 4 = some b12 ∧ ∃ (w15 : Int32), Cl mX11_got [.ref b12, .int 0] (g, I, P) (some (.int w15)) (g, I, P) ∧ zk g a0 1 ∧ ∃ b18, P a0 4 = some b18 ∧ ∃ (I21 : Nat → Nat → Int32), Cl mX11_put [.ref b18, .int 0, .int (x6 + 1)] (g, I, P) none (g, I21, P) ∧ Zt none mX1_changesTo 0 0 65 [(0, .ref a0), (1, .ref a1), (2, .int x2), (3, .ref a3), (4, .int x4), (5, .int x5), (6, .int x6), (7, .int w15), (8, .int 1)] [] (g, I21, P) r h')) : Zt none mX1_changesTo 0 0 30 [(0, .ref a0), (1, .ref a1), (2, .int x2), (3, .ref a3), (4, .int x4), (5, .int x5), (6, .int x6)] [] (g, I, P) r h' := by
  refine z_iload 6 dX1_changesTo_30 rfl (z_aload_n 1 dX1_changesTo_32 rfl rfl (z_iload_n 2 dX1_changesTo_33 rfl ?_))
  obtain ⟨oc2, w1, c2, H3⟩ := H
  refine z_virt (As := [.int x2]) (st := [.int x6]) (r1 := (some (.int w1))) (h1 := (g, I, P)) dX1_changesTo_34 kX3_sizeOf wm_X1_69 ⟨by decide, by decide⟩ rfl rfl (Nat.le_of_ble_eq_true rfl) (by decide) (by decide) oc2 c2 ?_
  refine z_icmp_ge (t := 162) dX1_changesTo_37 (by decide) (fun q => ?_) (fun q => ?_)
  · have H4 := H3.1 q
    refine z_aload_n 0 dX1_changesTo_162 rfl rfl ?_
    obtain ⟨oe7, b5, e7, H6⟩ := H4
    refine z_getP dX1_changesTo_163 wf_X1_25 (by decide) (by decide) rfl oe7 (fun q => (by cases q.symm.trans e7)) (fun j q => ?_)
    cases q.symm.trans e7
    refine z_iload 5 dX1_changesTo_166 rfl ?_
    obtain ⟨w8, c9, H10⟩ := H6
    refine z_stat (As := [.ref b5, .int x5]) (st := []) (r1 := (some (.int w8))) (h1 := (g, I, P)) dX1_changesTo_168 kX11_got wm_X1_37 ⟨by decide, by decide⟩ rfl rfl (Nat.le_of_ble_eq_true rfl) (by decide) (by decide) c9 ?_
    obtain ⟨rfl, rfl⟩ := H10
    exact z_iret dX1_changesTo_171 rfl (by decide) (by decide)
  · have H11 := H3.2 q
    refine z_aload_n 0 dX1_changesTo_40 rfl rfl ?_
    obtain ⟨oe14, b12, e14, H13⟩ := H11
    refine z_getP dX1_changesTo_41 wf_X1_25 (by decide) (by decide) rfl oe14 (fun q => (by cases q.symm.trans e14)) (fun j q => ?_)
    cases q.symm.trans e14
    refine z_iconst (w := 0) dX1_changesTo_44 (by decide) ?_
    obtain ⟨w15, c16, H17⟩ := H13
    refine z_stat (As := [.ref b12, .int 0]) (st := []) (r1 := (some (.int w15))) (h1 := (g, I, P)) dX1_changesTo_45 kX11_got wm_X1_37 ⟨by decide, by decide⟩ rfl rfl (Nat.le_of_ble_eq_true rfl) (by decide) (by decide) c16 ?_
    refine z_istore (lv' := [(7, .int w15), (0, .ref a0), (1, .ref a1), (2, .int x2), (3, .ref a3), (4, .int x4), (5, .int x5), (6, .int x6)]) dX1_changesTo_48 (by decide) rfl (z_aload_n 1 dX1_changesTo_50 rfl rfl ?_)
    obtain ⟨oe20, b18, e20, H19⟩ := H17
    refine z_getP dX1_changesTo_51 wf_X1_25 (by decide) (by decide) rfl oe20 (fun q => (by cases q.symm.trans e20)) (fun j q => ?_)
    cases q.symm.trans e20
    refine z_iconst (w := 0) dX1_changesTo_54 (by decide) (z_iload 7 dX1_changesTo_55 rfl (z_iconst (w := 1) dX1_changesTo_57 (by decide) (z_iadd dX1_changesTo_58 ?_)))
    obtain ⟨I21, c22, H23⟩ := H19
    refine z_stat (As := [.ref b18, .int 0, .int (x6 + 1)]) (st := []) (r1 := none) (h1 := (g, I21, P)) dX1_changesTo_59 kX11_put wm_X1_49 ⟨by decide, by decide⟩ rfl rfl (Nat.le_of_ble_eq_true rfl) (by decide) (by decide) c22 ?_
    refine z_iconst (w := 1) dX1_changesTo_62 (by decide) (z_istore (lv' := [(8, .int 1), (7, .int w15), (0, .ref a0), (1, .ref a1), (2, .int x2), (3, .ref a3), (4, .int x4), (5, .int x5), (6, .int x6)]) dX1_changesTo_63 (by decide) rfl ?_)
    exact z_less [2, 3, 4, 5, 6, 7, 8, 1, 0] rfl H23
set_option maxRecDepth 10000 in
theorem wX1_changesTo_65 {g : zG} {I : Nat → Nat → Int32} {P : Nat → Nat → Option Nat} {r : Option Value} {h' : zH} {a0 : Nat} {a1 : Nat} {x2 : Int32} {a3 : Nat} {x4 : Int32} {x5 : Int32} {x6 : Int32} {x7 : Int32} {x8 : Int32} (H : ((x5 < x8) → Zt none mX1_changesTo 0 0 30 [(0, .ref a0), (1, .ref a1), (2, .int x2), (3, .ref a3), (4, .int x4), (5, .int x5), (6, .int (x6 + 1))] [] (g, I, P) r h') ∧ ((¬ x5 < x8) → zk g a0 1 ∧ ∃ b3, P a0 4 = some b3 ∧ ∃ (w6 : Int32), Cl mX11_got [.ref b3, .int x8] (g, I, P) (some (.int w6)) (g, I, P) ∧ zk g a1 3 ∧ ∃ (w9 : Int32), Cl mX3_letterOf [.ref a1, .int x2, .int x6] (g, I, P) (some (.int w9)) (g, I, P) ∧ ∃ (w12 : Int32), Cl mX11_got [.ref a3, .int ((x4 + x8) - 1)] (g, I, P) (some (.int w12)) (g, I, P) ∧ ((¬ w9 = w12) → Zt none mX1_changesTo 0 0 111 [(0, .ref a0), (1, .ref a1), (2, .int x2), (3, .ref a3), (4, .int x4), (5, .int x5), (6, .int x6), (8, .int x8), (9, .int w6)] [.int 1, .int x7] (g, I, P) r h') ∧ ((w9 = w12) → Zt none mX1_changesTo 0 0 111 [(0, .ref a0), (1, .ref a1), (2, .int x2), (3, .ref a3), (4, .int x4), (5, .int x5), (6, .int x6), (8, .int x8), (9, .int w6)] [.int 0, .int x7] (g, I, P) r h'))) : Zt none mX1_changesTo 0 0 65 [(0, .ref a0), (1, .ref a1), (2, .int x2), (3, .ref a3), (4, .int x4), (5, .int x5), (6, .int x6), (7, .int x7), (8, .int x8)] [] (g, I, P) r h' := by
  refine z_iload 8 dX1_changesTo_65 rfl (z_iload 5 dX1_changesTo_67 rfl ?_)
  refine z_icmp_gt (t := 156) dX1_changesTo_69 (by decide) (fun q => ?_) (fun q => ?_)
  · have H1 := H.1 q
    refine z_iinc (y := x6 + 1) (lv' := [(6, .int (x6 + 1)), (0, .ref a0), (1, .ref a1), (2, .int x2), (3, .ref a3), (4, .int x4), (5, .int x5), (7, .int x7), (8, .int x8)]) 6 dX1_changesTo_156 rfl rfl (by decide) rfl (z_goto (t := 30) dX1_changesTo_159 (by decide) ?_)
    exact z_less [1, 2, 3, 4, 5, 6, 0] rfl H1
  · have H2 := H.2 q
    refine z_aload_n 0 dX1_changesTo_72 rfl rfl ?_
    obtain ⟨oe5, b3, e5, H4⟩ := H2
    refine z_getP dX1_changesTo_73 wf_X1_25 (by decide) (by decide) rfl oe5 (fun q => (by cases q.symm.trans e5)) (fun j q => ?_)
    cases q.symm.trans e5
    refine z_iload 8 dX1_changesTo_76 rfl ?_
    obtain ⟨w6, c7, H8⟩ := H4
    refine z_stat (As := [.ref b3, .int x8]) (st := []) (r1 := (some (.int w6))) (h1 := (g, I, P)) dX1_changesTo_78 kX11_got wm_X1_37 ⟨by decide, by decide⟩ rfl rfl (Nat.le_of_ble_eq_true rfl) (by decide) (by decide) c7 ?_
    refine z_istore (lv' := [(9, .int w6), (0, .ref a0), (1, .ref a1), (2, .int x2), (3, .ref a3), (4, .int x4), (5, .int x5), (6, .int x6), (7, .int x7), (8, .int x8)]) dX1_changesTo_81 (by decide) rfl (z_iload 8 dX1_changesTo_83 rfl (z_aload_n 2 dX1_changesTo_85 rfl rfl (z_iload_n 3 dX1_changesTo_86 rfl (z_iload 7 dX1_changesTo_87 rfl ?_))))
    obtain ⟨oc10, w9, c10, H11⟩ := H8
    refine z_virt (As := [.int x2, .int x6]) (st := [.int x7]) (r1 := (some (.int w9))) (h1 := (g, I, P)) dX1_changesTo_89 kX3_letterOf wm_X1_72 ⟨by decide, by decide⟩ rfl rfl (Nat.le_of_ble_eq_true rfl) (by decide) (by decide) oc10 c10 ?_
    refine z_aload_n 4 dX1_changesTo_92 rfl rfl (z_iload 5 dX1_changesTo_93 rfl (z_iload 9 dX1_changesTo_95 rfl (z_iadd dX1_changesTo_97 (z_iconst (w := 1) dX1_changesTo_98 (by decide) (z_isub dX1_changesTo_99 ?_)))))
    obtain ⟨w12, c13, H14⟩ := H11
    refine z_stat (As := [.ref a3, .int ((x4 + x8) - 1)]) (st := [.int w9, .int x7]) (r1 := (some (.int w12))) (h1 := (g, I, P)) dX1_changesTo_100 kX11_got wm_X1_37 ⟨by decide, by decide⟩ rfl rfl (Nat.le_of_ble_eq_true rfl) (by decide) (by decide) c13 ?_
    refine z_icmp_ne (t := 110) dX1_changesTo_103 (by decide) (fun q => ?_) (fun q => ?_)
    · have H15 := H14.1 q
      refine z_iconst (w := 1) dX1_changesTo_110 (by decide) ?_
      exact z_less [1, 2, 3, 4, 5, 6, 7, 9, 0] rfl H15
    · have H16 := H14.2 q
      refine z_iconst (w := 0) dX1_changesTo_106 (by decide) (z_goto (t := 111) dX1_changesTo_107 (by decide) ?_)
      exact z_less [1, 2, 3, 4, 5, 6, 7, 9, 0] rfl H16
set_option maxRecDepth 10000 in
theorem wX1_changesTo_111 {g : zG} {I : Nat → Nat → Int32} {P : Nat → Nat → Option Nat} {r : Option Value} {h' : zH} {a0 : Nat} {a1 : Nat} {x2 : Int32} {a3 : Nat} {x4 : Int32} {x5 : Int32} {x6 : Int32} {x8 : Int32} {x9 : Int32} {xs0 : Int32} {xs1 : Int32} (H : zk g a0 1 ∧ ∃ b1, P a0 4 = some b1 ∧ zk g a0 1 ∧ ∃ b4, P a0 4 = some b4 ∧ ∃ (w7 : Int32), Cl mX11_got [.ref b4, .int (x8 - 1)] (g, I, P) (some (.int w7)) (g, I, P) ∧ ∃ (I10 : Nat → Nat → Int32), Cl mX11_put [.ref b1, .int x8, .int (zmmin (xs0 + xs1) (1 + (zmmin x9 w7)))] (g, I, P) none (g, I10, P) ∧ Zt none mX1_changesTo 0 0 65 [(0, .ref a0), (1, .ref a1), (2, .int x2), (3, .ref a3), (4, .int x4), (5, .int x5), (6, .int x6), (7, .int x9), (8, .int (x8 + 1))] [] (g, I10, P) r h') : Zt none mX1_changesTo 0 0 111 [(0, .ref a0), (1, .ref a1), (2, .int x2), (3, .ref a3), (4, .int x4), (5, .int x5), (6, .int x6), (8, .int x8), (9, .int x9)] [.int xs1, .int xs0] (g, I, P) r h' := by
  refine z_iadd dX1_changesTo_111 (z_istore (lv' := [(10, .int (xs0 + xs1)), (0, .ref a0), (1, .ref a1), (2, .int x2), (3, .ref a3), (4, .int x4), (5, .int x5), (6, .int x6), (8, .int x8), (9, .int x9)]) dX1_changesTo_112 (by decide) rfl (z_aload_n 1 dX1_changesTo_114 rfl rfl ?_))
  obtain ⟨oe3, b1, e3, H2⟩ := H
  refine z_getP dX1_changesTo_115 wf_X1_25 (by decide) (by decide) rfl oe3 (fun q => (by cases q.symm.trans e3)) (fun j q => ?_)
  cases q.symm.trans e3
  refine z_iload 8 dX1_changesTo_118 rfl (z_iload 0 dX1_changesTo_120 rfl (z_iconst (w := 1) dX1_changesTo_122 (by decide) (z_iload 9 dX1_changesTo_123 rfl (z_aload_n 1 dX1_changesTo_125 rfl rfl ?_))))
  obtain ⟨oe6, b4, e6, H5⟩ := H2
  refine z_getP dX1_changesTo_126 wf_X1_25 (by decide) (by decide) rfl oe6 (fun q => (by cases q.symm.trans e6)) (fun j q => ?_)
  cases q.symm.trans e6
  refine z_iload 8 dX1_changesTo_129 rfl (z_iconst (w := 1) dX1_changesTo_131 (by decide) (z_isub dX1_changesTo_132 ?_))
  obtain ⟨w7, c8, H9⟩ := H5
  refine z_stat (As := [.ref b4, .int (x8 - 1)]) (st := [.int x9, .int 1, .int (xs0 + xs1), .int x8, .ref b1]) (r1 := (some (.int w7))) (h1 := (g, I, P)) dX1_changesTo_133 kX11_got wm_X1_37 ⟨by decide, by decide⟩ rfl rfl (Nat.le_of_ble_eq_true rfl) (by decide) (by decide) c8 ?_
  refine z_mmin dX1_changesTo_136 wm_X1_113 (by decide) (Nat.le_of_ble_eq_true rfl) (by decide) (by decide) w_mnS w_mI w_mnC (z_iadd dX1_changesTo_139 (z_mmin dX1_changesTo_140 wm_X1_113 (by decide) (Nat.le_of_ble_eq_true rfl) (by decide) (by decide) w_mnS w_mI w_mnC ?_))
  obtain ⟨I10, c11, H12⟩ := H9
  refine z_stat (As := [.ref b1, .int x8, .int (zmmin (xs0 + xs1) (1 + (zmmin x9 w7)))]) (st := []) (r1 := none) (h1 := (g, I10, P)) dX1_changesTo_143 kX11_put wm_X1_49 ⟨by decide, by decide⟩ rfl rfl (Nat.le_of_ble_eq_true rfl) (by decide) (by decide) c11 ?_
  refine z_iload 9 dX1_changesTo_146 rfl (z_istore (lv' := [(7, .int x9), (10, .int (xs0 + xs1)), (0, .ref a0), (1, .ref a1), (2, .int x2), (3, .ref a3), (4, .int x4), (5, .int x5), (6, .int x6), (8, .int x8), (9, .int x9)]) dX1_changesTo_148 (by decide) rfl (z_iinc (y := x8 + 1) (lv' := [(8, .int (x8 + 1)), (7, .int x9), (10, .int (xs0 + xs1)), (0, .ref a0), (1, .ref a1), (2, .int x2), (3, .ref a3), (4, .int x4), (5, .int x5), (6, .int x6), (9, .int x9)]) 9 dX1_changesTo_150 rfl rfl (by decide) rfl (z_goto (t := 65) dX1_changesTo_153 (by decide) ?_)))
  exact z_less [3, 4, 5, 6, 7, 8, 9, 1, 0] rfl H12
theorem dX1_closest_0 : decode cX1_closest 0 = .ok (.iconst (-1), 1) := by decide +kernel
theorem dX1_closest_1 : decode cX1_closest 1 = .ok (.istore_n 3, 1) := by decide +kernel
theorem dX1_closest_2 : decode cX1_closest 2 = .ok (.iconst (-1), 1) := by decide +kernel
theorem dX1_closest_3 : decode cX1_closest 3 = .ok (.istore 4, 2) := by decide +kernel
theorem dX1_closest_5 : decode cX1_closest 5 = .ok (.iconst 0, 1) := by decide +kernel
theorem dX1_closest_6 : decode cX1_closest 6 = .ok (.istore 5, 2) := by decide +kernel
theorem dX1_closest_8 : decode cX1_closest 8 = .ok (.iload 5, 2) := by decide +kernel
theorem dX1_closest_10 : decode cX1_closest 10 = .ok (.aload_n 1, 1) := by decide +kernel
theorem dX1_closest_11 : decode cX1_closest 11 = .ok (.getfield 91, 3) := by decide +kernel
theorem dX1_closest_14 : decode cX1_closest 14 = .ok (.if_icmp .ge 67, 3) := by decide +kernel
theorem dX1_closest_17 : decode cX1_closest 17 = .ok (.iload 5, 2) := by decide +kernel
theorem dX1_closest_19 : decode cX1_closest 19 = .ok (.iconst 1, 1) := by decide +kernel
theorem dX1_closest_20 : decode cX1_closest 20 = .ok (.iadd, 1) := by decide +kernel
theorem dX1_closest_21 : decode cX1_closest 21 = .ok (.istore 6, 2) := by decide +kernel
theorem dX1_closest_23 : decode cX1_closest 23 = .ok (.iload 6, 2) := by decide +kernel
theorem dX1_closest_25 : decode cX1_closest 25 = .ok (.aload_n 1, 1) := by decide +kernel
theorem dX1_closest_26 : decode cX1_closest 26 = .ok (.getfield 91, 3) := by decide +kernel
theorem dX1_closest_29 : decode cX1_closest 29 = .ok (.if_icmp .ge 46, 3) := by decide +kernel
theorem dX1_closest_32 : decode cX1_closest 32 = .ok (.aload_n 0, 1) := by decide +kernel
theorem dX1_closest_33 : decode cX1_closest 33 = .ok (.aload_n 1, 1) := by decide +kernel
theorem dX1_closest_34 : decode cX1_closest 34 = .ok (.iload 5, 2) := by decide +kernel
theorem dX1_closest_36 : decode cX1_closest 36 = .ok (.iload 6, 2) := by decide +kernel
theorem dX1_closest_38 : decode cX1_closest 38 = .ok (.invokevirtual 125, 3) := by decide +kernel
theorem dX1_closest_41 : decode cX1_closest 41 = .ok (.istore 7, 2) := by decide +kernel
theorem dX1_closest_43 : decode cX1_closest 43 = .ok (.iload 4, 2) := by decide +kernel
theorem dX1_closest_45 : decode cX1_closest 45 = .ok (.iconst (-1), 1) := by decide +kernel
theorem dX1_closest_46 : decode cX1_closest 46 = .ok (.if_icmp .eq 10, 3) := by decide +kernel
theorem dX1_closest_49 : decode cX1_closest 49 = .ok (.iload 7, 2) := by decide +kernel
theorem dX1_closest_51 : decode cX1_closest 51 = .ok (.iload 4, 2) := by decide +kernel
theorem dX1_closest_53 : decode cX1_closest 53 = .ok (.if_icmp .ge 16, 3) := by decide +kernel
theorem dX1_closest_56 : decode cX1_closest 56 = .ok (.iload 7, 2) := by decide +kernel
theorem dX1_closest_58 : decode cX1_closest 58 = .ok (.istore 4, 2) := by decide +kernel
theorem dX1_closest_60 : decode cX1_closest 60 = .ok (.bipush 10, 2) := by decide +kernel
theorem dX1_closest_62 : decode cX1_closest 62 = .ok (.iload 5, 2) := by decide +kernel
theorem dX1_closest_64 : decode cX1_closest 64 = .ok (.imul, 1) := by decide +kernel
theorem dX1_closest_65 : decode cX1_closest 65 = .ok (.iload 6, 2) := by decide +kernel
theorem dX1_closest_67 : decode cX1_closest 67 = .ok (.iadd, 1) := by decide +kernel
theorem dX1_closest_68 : decode cX1_closest 68 = .ok (.istore_n 3, 1) := by decide +kernel
theorem dX1_closest_69 : decode cX1_closest 69 = .ok (.iinc 6 1, 3) := by decide +kernel
theorem dX1_closest_72 : decode cX1_closest 72 = .ok (.goto (-49), 3) := by decide +kernel
theorem dX1_closest_75 : decode cX1_closest 75 = .ok (.iinc 5 1, 3) := by decide +kernel
theorem dX1_closest_78 : decode cX1_closest 78 = .ok (.goto (-70), 3) := by decide +kernel
theorem dX1_closest_81 : decode cX1_closest 81 = .ok (.iload_n 2, 1) := by decide +kernel
theorem dX1_closest_82 : decode cX1_closest 82 = .ok (.ifCond .eq 7, 3) := by decide +kernel
theorem dX1_closest_85 : decode cX1_closest 85 = .ok (.iload_n 3, 1) := by decide +kernel
theorem dX1_closest_86 : decode cX1_closest 86 = .ok (.goto 5, 3) := by decide +kernel
theorem dX1_closest_89 : decode cX1_closest 89 = .ok (.iload 4, 2) := by decide +kernel
theorem dX1_closest_91 : decode cX1_closest 91 = .ok (.ireturn, 1) := by decide +kernel
set_option maxRecDepth 10000 in
theorem wX1_closest_0 {g : zG} {I : Nat → Nat → Int32} {P : Nat → Nat → Option Nat} {r : Option Value} {h' : zH} {a0 : Nat} {a1 : Nat} {x2 : Int32} (H : Zt none mX1_closest 0 0 8 [(0, .ref a0), (1, .ref a1), (2, .int x2), (3, .int (-1)), (4, .int (-1)), (5, .int 0)] [] (g, I, P) r h') : Zt none mX1_closest 0 0 0 [(0, .ref a0), (1, .ref a1), (2, .int x2)] [] (g, I, P) r h' := by
  refine z_iconst (w := (-1)) dX1_closest_0 (by decide) (z_istore_n (lv' := [(3, .int (-1)), (0, .ref a0), (1, .ref a1), (2, .int x2)]) dX1_closest_1 (by decide) rfl (z_iconst (w := (-1)) dX1_closest_2 (by decide) (z_istore (lv' := [(4, .int (-1)), (3, .int (-1)), (0, .ref a0), (1, .ref a1), (2, .int x2)]) dX1_closest_3 (by decide) rfl (z_iconst (w := 0) dX1_closest_5 (by decide) (z_istore (lv' := [(5, .int 0), (4, .int (-1)), (3, .int (-1)), (0, .ref a0), (1, .ref a1), (2, .int x2)]) dX1_closest_6 (by decide) rfl ?_)))))
  exact z_less [3, 4, 5, 2, 1, 0] rfl H
theorem eX1_closest {g : zG} {I : Nat → Nat → Int32} {P : Nat → Nat → Option Nat} {r : Option Value} {h' : zH} {a0 : Nat} {a1 : Nat} {x2 : Int32} (H : Zt none mX1_closest 0 0 0 [(0, .ref a0), (1, .ref a1), (2, .int x2)] [] (g, I, P) r h') : Cl mX1_closest [.ref a0, .ref a1, .int x2] (g, I, P) r h' := Cl.of (by decide) (Nat.le_of_ble_eq_true rfl) H
set_option maxRecDepth 10000 in
theorem wX1_closest_8 {g : zG} {I : Nat → Nat → Int32} {P : Nat → Nat → Option Nat} {r : Option Value} {h' : zH} {a0 : Nat} {a1 : Nat} {x2 : Int32} {x3 : Int32} {x4 : Int32} {x5 : Int32} (H : zk g a1 3 ∧ ((I a1 1 ≤ x5) → ((x2 = 0) → r = some (.int x4) ∧ h' = (g, I, P)) ∧ ((¬ x2 = 0) → r = some (.int x3) ∧ h' = (g, I, P))) ∧ ((¬ I a1 1 ≤ x5) → Zt none mX1_closest 0 0 23 [(0, .ref a0), (1, .ref a1), (2, .int x2), (3, .int x3), (4, .int x4), (5, .int x5), (6, .int (x5 + 1))] [] (g, I, P) r h')) : Zt none mX1_closest 0 0 8 [(0, .ref a0), (1, .ref a1), (2, .int x2), (3, .int x3), (4, .int x4), (5, .int x5)] [] (g, I, P) r h' := by
  refine z_iload 5 dX1_closest_8 rfl (z_aload_n 1 dX1_closest_10 rfl rfl (z_getI dX1_closest_11 wf_X1_91 (by decide) (by decide) rfl H.1 ?_))
  refine z_icmp_ge (t := 81) dX1_closest_14 (by decide) (fun q => ?_) (fun q => ?_)
  · have H1 := H.2.1 q
    refine z_iload_n 2 dX1_closest_81 rfl ?_
    refine z_if_eq (t := 89) dX1_closest_82 (by decide) (fun q => ?_) (fun q => ?_)
    · have H2 := H1.1 q
      refine z_iload 4 dX1_closest_89 rfl ?_
      obtain ⟨rfl, rfl⟩ := H2
      exact z_iret dX1_closest_91 rfl (by decide) (by decide)
    · have H3 := H1.2 q
      refine z_iload_n 3 dX1_closest_85 rfl (z_goto (t := 91) dX1_closest_86 (by decide) ?_)
      obtain ⟨rfl, rfl⟩ := H3
      exact z_iret dX1_closest_91 rfl (by decide) (by decide)
  · have H4 := H.2.2 q
    refine z_iload 5 dX1_closest_17 rfl (z_iconst (w := 1) dX1_closest_19 (by decide) (z_iadd dX1_closest_20 (z_istore (lv' := [(6, .int (x5 + 1)), (0, .ref a0), (1, .ref a1), (2, .int x2), (3, .int x3), (4, .int x4), (5, .int x5)]) dX1_closest_21 (by decide) rfl ?_)))
    exact z_less [1, 2, 3, 4, 5, 6, 0] rfl H4
set_option maxRecDepth 10000 in
theorem wX1_closest_23 {g : zG} {I : Nat → Nat → Int32} {P : Nat → Nat → Option Nat} {r : Option Value} {h' : zH} {a0 : Nat} {a1 : Nat} {x2 : Int32} {x3 : Int32} {x4 : Int32} {x5 : Int32} {x6 : Int32} (H : zk g a1 3 ∧ ((I a1 1 ≤ x6) → Zt none mX1_closest 0 0 8 [(0, .ref a0), (1, .ref a1), (2, .int x2), (3, .int x3), (4, .int x4), (5, .int (x5 + 1))] [] (g, I, P) r h') ∧ ((¬ I a1 1 ≤ x6) → zk g a0 1 ∧ ∃ (w3 : Int32) (I4 : Nat → Nat → Int32), Cl mX1_changesBetween [.ref a0, .ref a1, .int x5, .int x6] (g, I, P) (some (.int w3)) (g, I4, P) ∧ ((x4 = (-1)) → Zt none mX1_closest 0 0 23 [(0, .ref a0), (1, .ref a1), (2, .int x2), (3, .int ((10 * x5) + x6)), (4, .int w3), (5, .int x5), (6, .int (x6 + 1))] [] (g, I4, P) r h') ∧ ((¬ x4 = (-1)) → ((x4 ≤ w3) → Zt none mX1_closest 0 0 23 [(0, .ref a0), (1, .ref a1), (2, .int x2), (3, .int x3), (4, .int x4), (5, .int x5), (6, .int (x6 + 1))] [] (g, I4, P) r h') ∧ ((¬ x4 ≤ w3) → Zt none mX1_closest 0 0 23 [(0, .ref a0), (1, .ref a1), (2, .int x2), (3, .int ((10 * x5) + x6)), (4, .int w3), (5, .int x5), (6, .int (x6 + 1))] [] (g, I4, P) r h')))) : Zt none mX1_closest 0 0 23 [(0, .ref a0), (1, .ref a1), (2, .int x2), (3, .int x3), (4, .int x4), (5, .int x5), (6, .int x6)] [] (g, I, P) r h' := by
  refine z_iload 6 dX1_closest_23 rfl (z_aload_n 1 dX1_closest_25 rfl rfl (z_getI dX1_closest_26 wf_X1_91 (by decide) (by decide) rfl H.1 ?_))
  refine z_icmp_ge (t := 75) dX1_closest_29 (by decide) (fun q => ?_) (fun q => ?_)
  · have H1 := H.2.1 q
    refine z_iinc (y := x5 + 1) (lv' := [(5, .int (x5 + 1)), (0, .ref a0), (1, .ref a1), (2, .int x2), (3, .int x3), (4, .int x4), (6, .int x6)]) 5 dX1_closest_75 rfl rfl (by decide) rfl (z_goto (t := 8) dX1_closest_78 (by decide) ?_)
    exact z_less [1, 2, 3, 4, 5, 0] rfl H1
  · have H2 := H.2.2 q
    refine z_aload_n 0 dX1_closest_32 rfl rfl (z_aload_n 1 dX1_closest_33 rfl rfl (z_iload 5 dX1_closest_34 rfl (z_iload 6 dX1_closest_36 rfl ?_)))
    obtain ⟨oc5, w3, I4, c5, H6⟩ := H2
    refine z_virt (As := [.ref a1, .int x5, .int x6]) (st := []) (r1 := (some (.int w3))) (h1 := (g, I4, P)) dX1_closest_38 kX1_changesBetween wm_X1_125 ⟨by decide, by decide⟩ rfl rfl (Nat.le_of_ble_eq_true rfl) (by decide) (by decide) oc5 c5 ?_
    refine z_istore (lv' := [(7, .int w3), (0, .ref a0), (1, .ref a1), (2, .int x2), (3, .int x3), (4, .int x4), (5, .int x5), (6, .int x6)]) dX1_closest_41 (by decide) rfl (z_iload 5 dX1_closest_43 rfl (z_iconst (w := (-1)) dX1_closest_45 (by decide) ?_))
    refine z_icmp_eq (t := 56) dX1_closest_46 (by decide) (fun q => ?_) (fun q => ?_)
    · have H7 := H6.1 q
      refine z_iload 0 dX1_closest_56 rfl (z_istore (lv' := [(4, .int w3), (7, .int w3), (0, .ref a0), (1, .ref a1), (2, .int x2), (3, .int x3), (5, .int x5), (6, .int x6)]) dX1_closest_58 (by decide) rfl (z_bipush (w := 10) dX1_closest_60 (by decide) (z_iload 6 dX1_closest_62 rfl (z_imul dX1_closest_64 (z_iload 7 dX1_closest_65 rfl (z_iadd dX1_closest_67 (z_istore_n (lv' := [(3, .int ((10 * x5) + x6)), (4, .int w3), (7, .int w3), (0, .ref a0), (1, .ref a1), (2, .int x2), (5, .int x5), (6, .int x6)]) dX1_closest_68 (by decide) rfl (z_iinc (y := x6 + 1) (lv' := [(6, .int (x6 + 1)), (3, .int ((10 * x5) + x6)), (4, .int w3), (7, .int w3), (0, .ref a0), (1, .ref a1), (2, .int x2), (5, .int x5)]) 7 dX1_closest_69 rfl rfl (by decide) rfl (z_goto (t := 23) dX1_closest_72 (by decide) ?_)))))))))
      exact z_less [4, 5, 6, 1, 2, 7, 0] rfl H7
    · have H8 := H6.2 q
      refine z_iload 0 dX1_closest_49 rfl (z_iload 5 dX1_closest_51 rfl ?_)
      refine z_icmp_ge (t := 69) dX1_closest_53 (by decide) (fun q => ?_) (fun q => ?_)
      · have H9 := H8.1 q
        refine z_iinc (y := x6 + 1) (lv' := [(6, .int (x6 + 1)), (7, .int w3), (0, .ref a0), (1, .ref a1), (2, .int x2), (3, .int x3), (4, .int x4), (5, .int x5)]) 7 dX1_closest_69 rfl rfl (by decide) rfl (z_goto (t := 23) dX1_closest_72 (by decide) ?_)
        exact z_less [2, 3, 4, 5, 6, 7, 0] rfl H9
      · have H10 := H8.2 q
        refine z_iload 0 dX1_closest_56 rfl (z_istore (lv' := [(4, .int w3), (7, .int w3), (0, .ref a0), (1, .ref a1), (2, .int x2), (3, .int x3), (5, .int x5), (6, .int x6)]) dX1_closest_58 (by decide) rfl (z_bipush (w := 10) dX1_closest_60 (by decide) (z_iload 6 dX1_closest_62 rfl (z_imul dX1_closest_64 (z_iload 7 dX1_closest_65 rfl (z_iadd dX1_closest_67 (z_istore_n (lv' := [(3, .int ((10 * x5) + x6)), (4, .int w3), (7, .int w3), (0, .ref a0), (1, .ref a1), (2, .int x2), (5, .int x5), (6, .int x6)]) dX1_closest_68 (by decide) rfl (z_iinc (y := x6 + 1) (lv' := [(6, .int (x6 + 1)), (3, .int ((10 * x5) + x6)), (4, .int w3), (7, .int w3), (0, .ref a0), (1, .ref a1), (2, .int x2), (5, .int x5)]) 7 dX1_closest_69 rfl rfl (by decide) rfl (z_goto (t := 23) dX1_closest_72 (by decide) ?_)))))))))
        exact z_less [4, 5, 6, 1, 2, 7, 0] rfl H10
theorem dX2_begin_0 : decode cX2_begin 0 = .ok (.aload_n 0, 1) := by decide +kernel
theorem dX2_begin_1 : decode cX2_begin 1 = .ok (.aload_n 1, 1) := by decide +kernel
theorem dX2_begin_2 : decode cX2_begin 2 = .ok (.putfield 12, 3) := by decide +kernel
theorem dX2_begin_5 : decode cX2_begin 5 = .ok (.aload_n 0, 1) := by decide +kernel
theorem dX2_begin_6 : decode cX2_begin 6 = .ok (.iconst 0, 1) := by decide +kernel
theorem dX2_begin_7 : decode cX2_begin 7 = .ok (.putfield 40, 3) := by decide +kernel
theorem dX2_begin_10 : decode cX2_begin 10 = .ok (.aload_n 0, 1) := by decide +kernel
theorem dX2_begin_11 : decode cX2_begin 11 = .ok (.iconst (-1), 1) := by decide +kernel
theorem dX2_begin_12 : decode cX2_begin 12 = .ok (.putfield 44, 3) := by decide +kernel
theorem dX2_begin_15 : decode cX2_begin 15 = .ok (.aload_n 0, 1) := by decide +kernel
theorem dX2_begin_16 : decode cX2_begin 16 = .ok (.iconst 0, 1) := by decide +kernel
theorem dX2_begin_17 : decode cX2_begin 17 = .ok (.putfield 47, 3) := by decide +kernel
theorem dX2_begin_20 : decode cX2_begin 20 = .ok (.aload_n 0, 1) := by decide +kernel
theorem dX2_begin_21 : decode cX2_begin 21 = .ok (.getfield 18, 3) := by decide +kernel
theorem dX2_begin_24 : decode cX2_begin 24 = .ok (.iconst 0, 1) := by decide +kernel
theorem dX2_begin_25 : decode cX2_begin 25 = .ok (.invokestatic 50, 3) := by decide +kernel
theorem dX2_begin_28 : decode cX2_begin 28 = .ok (.aload_n 0, 1) := by decide +kernel
theorem dX2_begin_29 : decode cX2_begin 29 = .ok (.getfield 22, 3) := by decide +kernel
theorem dX2_begin_32 : decode cX2_begin 32 = .ok (.iconst 0, 1) := by decide +kernel
theorem dX2_begin_33 : decode cX2_begin 33 = .ok (.invokestatic 50, 3) := by decide +kernel
theorem dX2_begin_36 : decode cX2_begin 36 = .ok (.aload_n 0, 1) := by decide +kernel
theorem dX2_begin_37 : decode cX2_begin 37 = .ok (.getfield 25, 3) := by decide +kernel
theorem dX2_begin_40 : decode cX2_begin 40 = .ok (.iconst 0, 1) := by decide +kernel
theorem dX2_begin_41 : decode cX2_begin 41 = .ok (.invokestatic 50, 3) := by decide +kernel
theorem dX2_begin_44 : decode cX2_begin 44 = .ok (.aload_n 0, 1) := by decide +kernel
theorem dX2_begin_45 : decode cX2_begin 45 = .ok (.getfield 28, 3) := by decide +kernel
theorem dX2_begin_48 : decode cX2_begin 48 = .ok (.iconst (-1), 1) := by decide +kernel
theorem dX2_begin_49 : decode cX2_begin 49 = .ok (.invokestatic 50, 3) := by decide +kernel
theorem dX2_begin_52 : decode cX2_begin 52 = .ok (.return_, 1) := by decide +kernel
set_option maxRecDepth 10000 in
theorem wX2_begin_0 {g : zG} {I : Nat → Nat → Int32} {P : Nat → Nat → Option Nat} {r : Option Value} {h' : zH} {a0 : Nat} {a1 : Nat} (H : zk g a0 2 ∧ zk g a0 2 ∧ zk g a0 2 ∧ zk g a0 2 ∧ zk g a0 2 ∧ ∃ b1, (zU P a0 0 (some a1)) a0 4 = some b1 ∧ ∃ (I4 : Nat → Nat → Int32), Cl mJ7_fill_53178 [.ref b1, .int 0] (g, zU (zU (zU I a0 1 0) a0 2 (-1)) a0 3 0, zU P a0 0 (some a1)) none (g, I4, zU P a0 0 (some a1)) ∧ zk g a0 2 ∧ ∃ b7, (zU P a0 0 (some a1)) a0 5 = some b7 ∧ ∃ (I10 : Nat → Nat → Int32), Cl mJ7_fill_53178 [.ref b7, .int 0] (g, I4, zU P a0 0 (some a1)) none (g, I10, zU P a0 0 (some a1)) ∧ zk g a0 2 ∧ ∃ b13, (zU P a0 0 (some a1)) a0 6 = some b13 ∧ ∃ (I16 : Nat → Nat → Int32), Cl mJ7_fill_53178 [.ref b13, .int 0] (g, I10, zU P a0 0 (some a1)) none (g, I16, zU P a0 0 (some a1)) ∧ zk g a0 2 ∧ ∃ b19, (zU P a0 0 (some a1)) a0 7 = some b19 ∧ ∃ (I22 : Nat → Nat → Int32), Cl mJ7_fill_53178 [.ref b19, .int (-1)] (g, I16, zU P a0 0 (some a1)) none (g, I22, zU P a0 0 (some a1)) ∧ r = none ∧ h' = (g, I22, zU P a0 0 (some a1))) : Zt none mX2_begin 0 0 0 [(0, .ref a0), (1, .ref a1)] [] (g, I, P) r h' := by
  refine z_aload_n 0 dX2_begin_0 rfl rfl (z_aload_n 1 dX2_begin_1 rfl rfl (z_putP (g := g) (I := I) (Q := P) dX2_begin_2 wf_X2_12 (by decide) (by decide) rfl (Or.inl rfl) H.1 (z_aload_n 0 dX2_begin_5 rfl rfl (z_iconst (w := 0) dX2_begin_6 (by decide) (z_putI (g := g) (I := I) (Q := zU P a0 0 (some a1)) dX2_begin_7 wf_X2_40 (by decide) (by decide) rfl (Or.inl rfl) (zfit_int rfl) H.2.1 (z_aload_n 0 dX2_begin_10 rfl rfl (z_iconst (w := (-1)) dX2_begin_11 (by decide) (z_putI (g := g) (I := zU I a0 1 0) (Q := zU P a0 0 (some a1)) dX2_begin_12 wf_X2_44 (by decide) (by decide) rfl (Or.inl rfl) (zfit_int rfl) H.2.2.1 (z_aload_n 0 dX2_begin_15 rfl rfl (z_iconst (w := 0) dX2_begin_16 (by decide) (z_putI (g := g) (I := zU (zU I a0 1 0) a0 2 (-1)) (Q := zU P a0 0 (some a1)) dX2_begin_17 wf_X2_47 (by decide) (by decide) rfl (Or.inl rfl) (zfit_int rfl) H.2.2.2.1 (z_aload_n 0 dX2_begin_20 rfl rfl ?_))))))))))))
  obtain ⟨oe3, b1, e3, H2⟩ := H.2.2.2.2
  refine z_getP dX2_begin_21 wf_X2_18 (by decide) (by decide) rfl oe3 (fun q => (by cases q.symm.trans e3)) (fun j q => ?_)
  cases q.symm.trans e3
  refine z_iconst (w := 0) dX2_begin_24 (by decide) ?_
  obtain ⟨I4, c5, H6⟩ := H2
  refine z_stat (As := [.ref b1, .int 0]) (st := []) (r1 := none) (h1 := (g, I4, zU P a0 0 (some a1))) dX2_begin_25 kJ7_fill_53178 wm_X2_50 ⟨by decide, by decide⟩ rfl rfl (Nat.le_of_ble_eq_true rfl) (by decide) (by decide) c5 ?_
  refine z_aload_n 0 dX2_begin_28 rfl rfl ?_
  obtain ⟨oe9, b7, e9, H8⟩ := H6
  refine z_getP dX2_begin_29 wf_X2_22 (by decide) (by decide) rfl oe9 (fun q => (by cases q.symm.trans e9)) (fun j q => ?_)
  cases q.symm.trans e9
  refine z_iconst (w := 0) dX2_begin_32 (by decide) ?_
  obtain ⟨I10, c11, H12⟩ := H8
  refine z_stat (As := [.ref b7, .int 0]) (st := []) (r1 := none) (h1 := (g, I10, zU P a0 0 (some a1))) dX2_begin_33 kJ7_fill_53178 wm_X2_50 ⟨by decide, by decide⟩ rfl rfl (Nat.le_of_ble_eq_true rfl) (by decide) (by decide) c11 ?_
  refine z_aload_n 0 dX2_begin_36 rfl rfl ?_
  obtain ⟨oe15, b13, e15, H14⟩ := H12
  refine z_getP dX2_begin_37 wf_X2_25 (by decide) (by decide) rfl oe15 (fun q => (by cases q.symm.trans e15)) (fun j q => ?_)
  cases q.symm.trans e15
  refine z_iconst (w := 0) dX2_begin_40 (by decide) ?_
  obtain ⟨I16, c17, H18⟩ := H14
  refine z_stat (As := [.ref b13, .int 0]) (st := []) (r1 := none) (h1 := (g, I16, zU P a0 0 (some a1))) dX2_begin_41 kJ7_fill_53178 wm_X2_50 ⟨by decide, by decide⟩ rfl rfl (Nat.le_of_ble_eq_true rfl) (by decide) (by decide) c17 ?_
  refine z_aload_n 0 dX2_begin_44 rfl rfl ?_
  obtain ⟨oe21, b19, e21, H20⟩ := H18
  refine z_getP dX2_begin_45 wf_X2_28 (by decide) (by decide) rfl oe21 (fun q => (by cases q.symm.trans e21)) (fun j q => ?_)
  cases q.symm.trans e21
  refine z_iconst (w := (-1)) dX2_begin_48 (by decide) ?_
  obtain ⟨I22, c23, H24⟩ := H20
  refine z_stat (As := [.ref b19, .int (-1)]) (st := []) (r1 := none) (h1 := (g, I22, zU P a0 0 (some a1))) dX2_begin_49 kJ7_fill_53178 wm_X2_50 ⟨by decide, by decide⟩ rfl rfl (Nat.le_of_ble_eq_true rfl) (by decide) (by decide) c23 ?_
  obtain ⟨rfl, rfl⟩ := H24
  exact z_vret dX2_begin_52 rfl (by decide) (by decide)
theorem eX2_begin {g : zG} {I : Nat → Nat → Int32} {P : Nat → Nat → Option Nat} {r : Option Value} {h' : zH} {a0 : Nat} {a1 : Nat} (H : Zt none mX2_begin 0 0 0 [(0, .ref a0), (1, .ref a1)] [] (g, I, P) r h') : Cl mX2_begin [.ref a0, .ref a1] (g, I, P) r h' := Cl.of (by decide) (Nat.le_of_ble_eq_true rfl) H
theorem dX2_play_0 : decode cX2_play 0 = .ok (.aload_n 0, 1) := by decide +kernel
theorem dX2_play_1 : decode cX2_play 1 = .ok (.aload_n 1, 1) := by decide +kernel
theorem dX2_play_2 : decode cX2_play 2 = .ok (.invokevirtual 56, 3) := by decide +kernel
theorem dX2_play_5 : decode cX2_play 5 = .ok (.iconst 0, 1) := by decide +kernel
theorem dX2_play_6 : decode cX2_play 6 = .ok (.istore 4, 2) := by decide +kernel
theorem dX2_play_8 : decode cX2_play 8 = .ok (.iload 4, 2) := by decide +kernel
theorem dX2_play_10 : decode cX2_play 10 = .ok (.iload_n 3, 1) := by decide +kernel
theorem dX2_play_11 : decode cX2_play 11 = .ok (.if_icmp .ge 70, 3) := by decide +kernel
theorem dX2_play_14 : decode cX2_play 14 = .ok (.aload_n 2, 1) := by decide +kernel
theorem dX2_play_15 : decode cX2_play 15 = .ok (.getfield 60, 3) := by decide +kernel
theorem dX2_play_18 : decode cX2_play 18 = .ok (.iload 4, 2) := by decide +kernel
theorem dX2_play_20 : decode cX2_play 20 = .ok (.invokestatic 65, 3) := by decide +kernel
theorem dX2_play_23 : decode cX2_play 23 = .ok (.istore 5, 2) := by decide +kernel
theorem dX2_play_25 : decode cX2_play 25 = .ok (.aload_n 0, 1) := by decide +kernel
theorem dX2_play_26 : decode cX2_play 26 = .ok (.iload 5, 2) := by decide +kernel
theorem dX2_play_28 : decode cX2_play 28 = .ok (.aload_n 2, 1) := by decide +kernel
theorem dX2_play_29 : decode cX2_play 29 = .ok (.getfield 69, 3) := by decide +kernel
theorem dX2_play_32 : decode cX2_play 32 = .ok (.iload 4, 2) := by decide +kernel
theorem dX2_play_34 : decode cX2_play 34 = .ok (.invokestatic 65, 3) := by decide +kernel
theorem dX2_play_37 : decode cX2_play 37 = .ok (.aload_n 2, 1) := by decide +kernel
theorem dX2_play_38 : decode cX2_play 38 = .ok (.getfield 72, 3) := by decide +kernel
theorem dX2_play_41 : decode cX2_play 41 = .ok (.iload 4, 2) := by decide +kernel
theorem dX2_play_43 : decode cX2_play 43 = .ok (.invokestatic 65, 3) := by decide +kernel
theorem dX2_play_46 : decode cX2_play 46 = .ok (.invokevirtual 73, 3) := by decide +kernel
theorem dX2_play_49 : decode cX2_play 49 = .ok (.ifCond .ne 6, 3) := by decide +kernel
theorem dX2_play_52 : decode cX2_play 52 = .ok (.iload 4, 2) := by decide +kernel
theorem dX2_play_54 : decode cX2_play 54 = .ok (.ireturn, 1) := by decide +kernel
theorem dX2_play_55 : decode cX2_play 55 = .ok (.iload 5, 2) := by decide +kernel
theorem dX2_play_57 : decode cX2_play 57 = .ok (.iconst 2, 1) := by decide +kernel
theorem dX2_play_58 : decode cX2_play 58 = .ok (.if_icmp .ne 17, 3) := by decide +kernel
theorem dX2_play_61 : decode cX2_play 61 = .ok (.aload_n 0, 1) := by decide +kernel
theorem dX2_play_62 : decode cX2_play 62 = .ok (.getfield 44, 3) := by decide +kernel
theorem dX2_play_65 : decode cX2_play 65 = .ok (.iconst (-1), 1) := by decide +kernel
theorem dX2_play_66 : decode cX2_play 66 = .ok (.if_icmp .ne 9, 3) := by decide +kernel
theorem dX2_play_69 : decode cX2_play 69 = .ok (.aload_n 0, 1) := by decide +kernel
theorem dX2_play_70 : decode cX2_play 70 = .ok (.iload 4, 2) := by decide +kernel
theorem dX2_play_72 : decode cX2_play 72 = .ok (.putfield 44, 3) := by decide +kernel
theorem dX2_play_75 : decode cX2_play 75 = .ok (.iinc 4 1, 3) := by decide +kernel
theorem dX2_play_78 : decode cX2_play 78 = .ok (.goto (-70), 3) := by decide +kernel
theorem dX2_play_81 : decode cX2_play 81 = .ok (.iload_n 3, 1) := by decide +kernel
theorem dX2_play_82 : decode cX2_play 82 = .ok (.ireturn, 1) := by decide +kernel
set_option maxRecDepth 10000 in
theorem wX2_play_0 {g : zG} {I : Nat → Nat → Int32} {P : Nat → Nat → Option Nat} {r : Option Value} {h' : zH} {a0 : Nat} {a1 : Nat} {a2 : Nat} {x3 : Int32} (H : zk g a0 2 ∧ ∃ (I1 : Nat → Nat → Int32) (P2 : Nat → Nat → Option Nat), Cl mX2_begin [.ref a0, .ref a1] (g, I, P) none (g, I1, P2) ∧ Zt none mX2_play 0 0 8 [(0, .ref a0), (2, .ref a2), (3, .int x3), (4, .int 0)] [] (g, I1, P2) r h') : Zt none mX2_play 0 0 0 [(0, .ref a0), (1, .ref a1), (2, .ref a2), (3, .int x3)] [] (g, I, P) r h' := by
  refine z_aload_n 0 dX2_play_0 rfl rfl (z_aload_n 1 dX2_play_1 rfl rfl ?_)
  obtain ⟨oc3, I1, P2, c3, H4⟩ := H
  refine z_virt (As := [.ref a1]) (st := []) (r1 := none) (h1 := (g, I1, P2)) dX2_play_2 kX2_begin wm_X2_56 ⟨by decide, by decide⟩ rfl rfl (Nat.le_of_ble_eq_true rfl) (by decide) (by decide) oc3 c3 ?_
  refine z_iconst (w := 0) dX2_play_5 (by decide) (z_istore (lv' := [(4, .int 0), (0, .ref a0), (1, .ref a1), (2, .ref a2), (3, .int x3)]) dX2_play_6 (by decide) rfl ?_)
  exact z_less [1, 3, 4, 0] rfl H4
theorem eX2_play {g : zG} {I : Nat → Nat → Int32} {P : Nat → Nat → Option Nat} {r : Option Value} {h' : zH} {a0 : Nat} {a1 : Nat} {a2 : Nat} {x3 : Int32} (H : Zt none mX2_play 0 0 0 [(0, .ref a0), (1, .ref a1), (2, .ref a2), (3, .int x3)] [] (g, I, P) r h') : Cl mX2_play [.ref a0, .ref a1, .ref a2, .int x3] (g, I, P) r h' := Cl.of (by decide) (Nat.le_of_ble_eq_true rfl) H
set_option maxRecDepth 10000 in
theorem wX2_play_8 {g : zG} {I : Nat → Nat → Int32} {P : Nat → Nat → Option Nat} {r : Option Value} {h' : zH} {a0 : Nat} {a2 : Nat} {x3 : Int32} {x4 : Int32} (H : ((x3 ≤ x4) → r = some (.int x3) ∧ h' = (g, I, P)) ∧ ((¬ x3 ≤ x4) → zk g a2 0 ∧ ∃ b3, P a2 1 = some b3 ∧ ∃ (w6 : Int32), Cl mX11_got [.ref b3, .int x4] (g, I, P) (some (.int w6)) (g, I, P) ∧ zk g a2 0 ∧ ∃ b9, P a2 2 = some b9 ∧ ∃ (w12 : Int32), Cl mX11_got [.ref b9, .int x4] (g, I, P) (some (.int w12)) (g, I, P) ∧ zk g a2 0 ∧ ∃ b15, P a2 3 = some b15 ∧ ∃ (w18 : Int32), Cl mX11_got [.ref b15, .int x4] (g, I, P) (some (.int w18)) (g, I, P) ∧ zk g a0 2 ∧ ∃ (w21 : Int32) (I22 : Nat → Nat → Int32), Cl mX2_does [.ref a0, .int w6, .int w12, .int w18] (g, I, P) (some (.int w21)) (g, I22, P) ∧ ((¬ w21 = 0) → ((¬ w6 = 2) → Zt none mX2_play 0 0 8 [(0, .ref a0), (2, .ref a2), (3, .int x3), (4, .int (x4 + 1))] [] (g, I22, P) r h') ∧ ((w6 = 2) → zk g a0 2 ∧ ((¬ (I22 a0 2) = (-1)) → Zt none mX2_play 0 0 8 [(0, .ref a0), (2, .ref a2), (3, .int x3), (4, .int (x4 + 1))] [] (g, I22, P) r h') ∧ ((I22 a0 2 = (-1)) → zk g a0 2 ∧ Zt none mX2_play 0 0 8 [(0, .ref a0), (2, .ref a2), (3, .int x3), (4, .int (x4 + 1))] [] (g, zU I22 a0 2 x4, P) r h'))) ∧ ((w21 = 0) → r = some (.int x4) ∧ h' = (g, I22, P)))) : Zt none mX2_play 0 0 8 [(0, .ref a0), (2, .ref a2), (3, .int x3), (4, .int x4)] [] (g, I, P) r h' := by
  refine z_iload 3 dX2_play_8 rfl (z_iload_n 2 dX2_play_10 rfl ?_)
  refine z_icmp_ge (t := 81) dX2_play_11 (by decide) (fun q => ?_) (fun q => ?_)
  · have H1 := H.1 q
    refine z_iload_n 2 dX2_play_81 rfl ?_
    obtain ⟨rfl, rfl⟩ := H1
    exact z_iret dX2_play_82 rfl (by decide) (by decide)
  · have H2 := H.2 q
    refine z_aload_n 1 dX2_play_14 rfl rfl ?_
    obtain ⟨oe5, b3, e5, H4⟩ := H2
    refine z_getP dX2_play_15 wf_X2_60 (by decide) (by decide) rfl oe5 (fun q => (by cases q.symm.trans e5)) (fun j q => ?_)
    cases q.symm.trans e5
    refine z_iload 3 dX2_play_18 rfl ?_
    obtain ⟨w6, c7, H8⟩ := H4
    refine z_stat (As := [.ref b3, .int x4]) (st := []) (r1 := (some (.int w6))) (h1 := (g, I, P)) dX2_play_20 kX11_got wm_X2_65 ⟨by decide, by decide⟩ rfl rfl (Nat.le_of_ble_eq_true rfl) (by decide) (by decide) c7 ?_
    refine z_istore (lv' := [(5, .int w6), (0, .ref a0), (2, .ref a2), (3, .int x3), (4, .int x4)]) dX2_play_23 (by decide) rfl (z_aload_n 1 dX2_play_25 rfl rfl (z_iload 0 dX2_play_26 rfl (z_aload_n 2 dX2_play_28 rfl rfl ?_)))
    obtain ⟨oe11, b9, e11, H10⟩ := H8
    refine z_getP dX2_play_29 wf_X2_69 (by decide) (by decide) rfl oe11 (fun q => (by cases q.symm.trans e11)) (fun j q => ?_)
    cases q.symm.trans e11
    refine z_iload 4 dX2_play_32 rfl ?_
    obtain ⟨w12, c13, H14⟩ := H10
    refine z_stat (As := [.ref b9, .int x4]) (st := [.int w6, .ref a0]) (r1 := (some (.int w12))) (h1 := (g, I, P)) dX2_play_34 kX11_got wm_X2_65 ⟨by decide, by decide⟩ rfl rfl (Nat.le_of_ble_eq_true rfl) (by decide) (by decide) c13 ?_
    refine z_aload_n 2 dX2_play_37 rfl rfl ?_
    obtain ⟨oe17, b15, e17, H16⟩ := H14
    refine z_getP dX2_play_38 wf_X2_72 (by decide) (by decide) rfl oe17 (fun q => (by cases q.symm.trans e17)) (fun j q => ?_)
    cases q.symm.trans e17
    refine z_iload 4 dX2_play_41 rfl ?_
    obtain ⟨w18, c19, H20⟩ := H16
    refine z_stat (As := [.ref b15, .int x4]) (st := [.int w12, .int w6, .ref a0]) (r1 := (some (.int w18))) (h1 := (g, I, P)) dX2_play_43 kX11_got wm_X2_65 ⟨by decide, by decide⟩ rfl rfl (Nat.le_of_ble_eq_true rfl) (by decide) (by decide) c19 ?_
    obtain ⟨oc23, w21, I22, c23, H24⟩ := H20
    refine z_virt (As := [.int w6, .int w12, .int w18]) (st := []) (r1 := (some (.int w21))) (h1 := (g, I22, P)) dX2_play_46 kX2_does wm_X2_73 ⟨by decide, by decide⟩ rfl rfl (Nat.le_of_ble_eq_true rfl) (by decide) (by decide) oc23 c23 ?_
    refine z_if_ne (t := 55) dX2_play_49 (by decide) (fun q => ?_) (fun q => ?_)
    · have H25 := H24.1 q
      refine z_iload 0 dX2_play_55 rfl (z_iconst (w := 2) dX2_play_57 (by decide) ?_)
      refine z_icmp_ne (t := 75) dX2_play_58 (by decide) (fun q => ?_) (fun q => ?_)
      · have H26 := H25.1 q
        refine z_iinc (y := x4 + 1) (lv' := [(4, .int (x4 + 1)), (5, .int w6), (0, .ref a0), (2, .ref a2), (3, .int x3)]) 4 dX2_play_75 rfl rfl (by decide) rfl (z_goto (t := 8) dX2_play_78 (by decide) ?_)
        exact z_less [2, 3, 4, 0] rfl H26
      · have H27 := H25.2 q
        refine z_aload_n 1 dX2_play_61 rfl rfl (z_getI dX2_play_62 wf_X2_44 (by decide) (by decide) rfl H27.1 (z_iconst (w := (-1)) dX2_play_65 (by decide) ?_))
        refine z_icmp_ne (t := 75) dX2_play_66 (by decide) (fun q => ?_) (fun q => ?_)
        · have H28 := H27.2.1 q
          refine z_iinc (y := x4 + 1) (lv' := [(4, .int (x4 + 1)), (5, .int w6), (0, .ref a0), (2, .ref a2), (3, .int x3)]) 4 dX2_play_75 rfl rfl (by decide) rfl (z_goto (t := 8) dX2_play_78 (by decide) ?_)
          exact z_less [2, 3, 4, 0] rfl H28
        · have H29 := H27.2.2 q
          refine z_aload_n 1 dX2_play_69 rfl rfl (z_iload 4 dX2_play_70 rfl (z_putI (g := g) (I := I22) (Q := P) dX2_play_72 wf_X2_44 (by decide) (by decide) rfl (Or.inl rfl) (zfit_int rfl) H29.1 (z_iinc (y := x4 + 1) (lv' := [(4, .int (x4 + 1)), (5, .int w6), (0, .ref a0), (2, .ref a2), (3, .int x3)]) 4 dX2_play_75 rfl rfl (by decide) rfl (z_goto (t := 8) dX2_play_78 (by decide) ?_))))
          exact z_less [2, 3, 4, 0] rfl H29.2
    · have H30 := H24.2 q
      refine z_iload 4 dX2_play_52 rfl ?_
      obtain ⟨rfl, rfl⟩ := H30
      exact z_iret dX2_play_54 rfl (by decide) (by decide)
theorem dX2_draw_0 : decode cX2_draw 0 = .ok (.aload_n 0, 1) := by decide +kernel
theorem dX2_draw_1 : decode cX2_draw 1 = .ok (.aload_n 1, 1) := by decide +kernel
theorem dX2_draw_2 : decode cX2_draw 2 = .ok (.invokevirtual 56, 3) := by decide +kernel
theorem dX2_draw_5 : decode cX2_draw 5 = .ok (.iload_n 2, 1) := by decide +kernel
theorem dX2_draw_6 : decode cX2_draw 6 = .ok (.istore 4, 2) := by decide +kernel
theorem dX2_draw_8 : decode cX2_draw 8 = .ok (.iconst 0, 1) := by decide +kernel
theorem dX2_draw_9 : decode cX2_draw 9 = .ok (.istore 5, 2) := by decide +kernel
theorem dX2_draw_11 : decode cX2_draw 11 = .ok (.iload 5, 2) := by decide +kernel
theorem dX2_draw_13 : decode cX2_draw 13 = .ok (.iload_n 3, 1) := by decide +kernel
theorem dX2_draw_14 : decode cX2_draw 14 = .ok (.if_icmp .ge 118, 3) := by decide +kernel
theorem dX2_draw_17 : decode cX2_draw 17 = .ok (.iload 4, 2) := by decide +kernel
theorem dX2_draw_19 : decode cX2_draw 19 = .ok (.invokestatic 77, 3) := by decide +kernel
theorem dX2_draw_22 : decode cX2_draw 22 = .ok (.istore 4, 2) := by decide +kernel
theorem dX2_draw_24 : decode cX2_draw 24 = .ok (.iload 4, 2) := by decide +kernel
theorem dX2_draw_26 : decode cX2_draw 26 = .ok (.bipush 8, 2) := by decide +kernel
theorem dX2_draw_28 : decode cX2_draw 28 = .ok (.invokestatic 81, 3) := by decide +kernel
theorem dX2_draw_31 : decode cX2_draw 31 = .ok (.istore 6, 2) := by decide +kernel
theorem dX2_draw_33 : decode cX2_draw 33 = .ok (.iload 4, 2) := by decide +kernel
theorem dX2_draw_35 : decode cX2_draw 35 = .ok (.invokestatic 77, 3) := by decide +kernel
theorem dX2_draw_38 : decode cX2_draw 38 = .ok (.istore 4, 2) := by decide +kernel
theorem dX2_draw_40 : decode cX2_draw 40 = .ok (.iload 4, 2) := by decide +kernel
theorem dX2_draw_42 : decode cX2_draw 42 = .ok (.aload_n 1, 1) := by decide +kernel
theorem dX2_draw_43 : decode cX2_draw 43 = .ok (.getfield 85, 3) := by decide +kernel
theorem dX2_draw_46 : decode cX2_draw 46 = .ok (.invokestatic 81, 3) := by decide +kernel
theorem dX2_draw_49 : decode cX2_draw 49 = .ok (.istore 7, 2) := by decide +kernel
theorem dX2_draw_51 : decode cX2_draw 51 = .ok (.iload 6, 2) := by decide +kernel
theorem dX2_draw_53 : decode cX2_draw 53 = .ok (.iconst 5, 1) := by decide +kernel
theorem dX2_draw_54 : decode cX2_draw 54 = .ok (.if_icmp .ge 7, 3) := by decide +kernel
theorem dX2_draw_57 : decode cX2_draw 57 = .ok (.iconst 0, 1) := by decide +kernel
theorem dX2_draw_58 : decode cX2_draw 58 = .ok (.goto 25, 3) := by decide +kernel
theorem dX2_draw_61 : decode cX2_draw 61 = .ok (.iload 6, 2) := by decide +kernel
theorem dX2_draw_63 : decode cX2_draw 63 = .ok (.iconst 5, 1) := by decide +kernel
theorem dX2_draw_64 : decode cX2_draw 64 = .ok (.if_icmp .ne 7, 3) := by decide +kernel
theorem dX2_draw_67 : decode cX2_draw 67 = .ok (.iconst 2, 1) := by decide +kernel
theorem dX2_draw_68 : decode cX2_draw 68 = .ok (.goto 15, 3) := by decide +kernel
theorem dX2_draw_71 : decode cX2_draw 71 = .ok (.iload 6, 2) := by decide +kernel
theorem dX2_draw_73 : decode cX2_draw 73 = .ok (.bipush 6, 2) := by decide +kernel
theorem dX2_draw_75 : decode cX2_draw 75 = .ok (.if_icmp .ne 7, 3) := by decide +kernel
theorem dX2_draw_78 : decode cX2_draw 78 = .ok (.iconst 1, 1) := by decide +kernel
theorem dX2_draw_79 : decode cX2_draw 79 = .ok (.goto 4, 3) := by decide +kernel
theorem dX2_draw_82 : decode cX2_draw 82 = .ok (.iconst 3, 1) := by decide +kernel
theorem dX2_draw_83 : decode cX2_draw 83 = .ok (.istore 8, 2) := by decide +kernel
theorem dX2_draw_85 : decode cX2_draw 85 = .ok (.iconst (-1), 1) := by decide +kernel
theorem dX2_draw_86 : decode cX2_draw 86 = .ok (.istore 9, 2) := by decide +kernel
theorem dX2_draw_88 : decode cX2_draw 88 = .ok (.iload 8, 2) := by decide +kernel
theorem dX2_draw_90 : decode cX2_draw 90 = .ok (.ifCond .eq 9, 3) := by decide +kernel
theorem dX2_draw_93 : decode cX2_draw 93 = .ok (.iload 8, 2) := by decide +kernel
theorem dX2_draw_95 : decode cX2_draw 95 = .ok (.iconst 1, 1) := by decide +kernel
theorem dX2_draw_96 : decode cX2_draw 96 = .ok (.if_icmp .ne 19, 3) := by decide +kernel
theorem dX2_draw_99 : decode cX2_draw 99 = .ok (.iload 4, 2) := by decide +kernel
theorem dX2_draw_101 : decode cX2_draw 101 = .ok (.invokestatic 77, 3) := by decide +kernel
theorem dX2_draw_104 : decode cX2_draw 104 = .ok (.istore 4, 2) := by decide +kernel
theorem dX2_draw_106 : decode cX2_draw 106 = .ok (.iload 4, 2) := by decide +kernel
theorem dX2_draw_108 : decode cX2_draw 108 = .ok (.bipush 6, 2) := by decide +kernel
theorem dX2_draw_110 : decode cX2_draw 110 = .ok (.invokestatic 81, 3) := by decide +kernel
theorem dX2_draw_113 : decode cX2_draw 113 = .ok (.istore 9, 2) := by decide +kernel
theorem dX2_draw_115 : decode cX2_draw 115 = .ok (.aload_n 0, 1) := by decide +kernel
theorem dX2_draw_116 : decode cX2_draw 116 = .ok (.iload 8, 2) := by decide +kernel
theorem dX2_draw_118 : decode cX2_draw 118 = .ok (.iload 7, 2) := by decide +kernel
theorem dX2_draw_120 : decode cX2_draw 120 = .ok (.iload 9, 2) := by decide +kernel
theorem dX2_draw_122 : decode cX2_draw 122 = .ok (.invokevirtual 73, 3) := by decide +kernel
theorem dX2_draw_125 : decode cX2_draw 125 = .ok (.pop, 1) := by decide +kernel
theorem dX2_draw_126 : decode cX2_draw 126 = .ok (.iinc 5 1, 3) := by decide +kernel
theorem dX2_draw_129 : decode cX2_draw 129 = .ok (.goto (-118), 3) := by decide +kernel
theorem dX2_draw_132 : decode cX2_draw 132 = .ok (.return_, 1) := by decide +kernel
set_option maxRecDepth 10000 in
theorem wX2_draw_0 {g : zG} {I : Nat → Nat → Int32} {P : Nat → Nat → Option Nat} {r : Option Value} {h' : zH} {a0 : Nat} {a1 : Nat} {x2 : Int32} {x3 : Int32} (H : zk g a0 2 ∧ ∃ (I1 : Nat → Nat → Int32) (P2 : Nat → Nat → Option Nat), Cl mX2_begin [.ref a0, .ref a1] (g, I, P) none (g, I1, P2) ∧ Zt none mX2_draw 0 0 11 [(0, .ref a0), (1, .ref a1), (3, .int x3), (4, .int x2), (5, .int 0)] [] (g, I1, P2) r h') : Zt none mX2_draw 0 0 0 [(0, .ref a0), (1, .ref a1), (2, .int x2), (3, .int x3)] [] (g, I, P) r h' := by
  refine z_aload_n 0 dX2_draw_0 rfl rfl (z_aload_n 1 dX2_draw_1 rfl rfl ?_)
  obtain ⟨oc3, I1, P2, c3, H4⟩ := H
  refine z_virt (As := [.ref a1]) (st := []) (r1 := none) (h1 := (g, I1, P2)) dX2_draw_2 kX2_begin wm_X2_56 ⟨by decide, by decide⟩ rfl rfl (Nat.le_of_ble_eq_true rfl) (by decide) (by decide) oc3 c3 ?_
  refine z_iload_n 2 dX2_draw_5 rfl (z_istore (lv' := [(4, .int x2), (0, .ref a0), (1, .ref a1), (2, .int x2), (3, .int x3)]) dX2_draw_6 (by decide) rfl (z_iconst (w := 0) dX2_draw_8 (by decide) (z_istore (lv' := [(5, .int 0), (4, .int x2), (0, .ref a0), (1, .ref a1), (2, .int x2), (3, .int x3)]) dX2_draw_9 (by decide) rfl ?_)))
  exact z_less [2, 3, 5, 1, 0] rfl H4
theorem eX2_draw {g : zG} {I : Nat → Nat → Int32} {P : Nat → Nat → Option Nat} {r : Option Value} {h' : zH} {a0 : Nat} {a1 : Nat} {x2 : Int32} {x3 : Int32} (H : Zt none mX2_draw 0 0 0 [(0, .ref a0), (1, .ref a1), (2, .int x2), (3, .int x3)] [] (g, I, P) r h') : Cl mX2_draw [.ref a0, .ref a1, .int x2, .int x3] (g, I, P) r h' := Cl.of (by decide) (Nat.le_of_ble_eq_true rfl) H
set_option maxRecDepth 10000 in
theorem wX2_draw_11 {g : zG} {I : Nat → Nat → Int32} {P : Nat → Nat → Option Nat} {r : Option Value} {h' : zH} {a0 : Nat} {a1 : Nat} {x3 : Int32} {x4 : Int32} {x5 : Int32} (H : ((x3 ≤ x5) → r = none ∧ h' = (g, I, P)) ∧ ((¬ x3 ≤ x5) → ∃ (w3 : Int32), Cl mX2_stir [.int x4] (g, I, P) (some (.int w3)) (g, I, P) ∧ ∃ (w6 : Int32), Cl mX2_below [.int w3, .int 8] (g, I, P) (some (.int w6)) (g, I, P) ∧ ∃ (w9 : Int32), Cl mX2_stir [.int w3] (g, I, P) (some (.int w9)) (g, I, P) ∧ zk g a1 3 ∧ ∃ (w12 : Int32), Cl mX2_below [.int w9, .int (I a1 0)] (g, I, P) (some (.int w12)) (g, I, P) ∧ ((5 ≤ w6) → ((¬ w6 = 5) → ((¬ w6 = 6) → Zt none mX2_draw 0 0 83 [(0, .ref a0), (1, .ref a1), (3, .int x3), (4, .int w9), (5, .int x5), (7, .int w12)] [.int 3] (g, I, P) r h') ∧ ((w6 = 6) → Zt none mX2_draw 0 0 83 [(0, .ref a0), (1, .ref a1), (3, .int x3), (4, .int w9), (5, .int x5), (7, .int w12)] [.int 1] (g, I, P) r h')) ∧ ((w6 = 5) → Zt none mX2_draw 0 0 83 [(0, .ref a0), (1, .ref a1), (3, .int x3), (4, .int w9), (5, .int x5), (7, .int w12)] [.int 2] (g, I, P) r h')) ∧ ((¬ 5 ≤ w6) → Zt none mX2_draw 0 0 83 [(0, .ref a0), (1, .ref a1), (3, .int x3), (4, .int w9), (5, .int x5), (7, .int w12)] [.int 0] (g, I, P) r h'))) : Zt none mX2_draw 0 0 11 [(0, .ref a0), (1, .ref a1), (3, .int x3), (4, .int x4), (5, .int x5)] [] (g, I, P) r h' := by
  refine z_iload 4 dX2_draw_11 rfl (z_iload_n 2 dX2_draw_13 rfl ?_)
  refine z_icmp_ge (t := 132) dX2_draw_14 (by decide) (fun q => ?_) (fun q => ?_)
  · have H1 := H.1 q
    obtain ⟨rfl, rfl⟩ := H1
    exact z_vret dX2_draw_132 rfl (by decide) (by decide)
  · have H2 := H.2 q
    refine z_iload 3 dX2_draw_17 rfl ?_
    obtain ⟨w3, c4, H5⟩ := H2
    refine z_stat (As := [.int x4]) (st := []) (r1 := (some (.int w3))) (h1 := (g, I, P)) dX2_draw_19 kX2_stir wm_X2_77 ⟨by decide, by decide⟩ rfl rfl (Nat.le_of_ble_eq_true rfl) (by decide) (by decide) c4 ?_
    refine z_istore (lv' := [(4, .int w3), (0, .ref a0), (1, .ref a1), (3, .int x3), (5, .int x5)]) dX2_draw_22 (by decide) rfl (z_iload 0 dX2_draw_24 rfl (z_bipush (w := 8) dX2_draw_26 (by decide) ?_))
    obtain ⟨w6, c7, H8⟩ := H5
    refine z_stat (As := [.int w3, .int 8]) (st := []) (r1 := (some (.int w6))) (h1 := (g, I, P)) dX2_draw_28 kX2_below wm_X2_81 ⟨by decide, by decide⟩ rfl rfl (Nat.le_of_ble_eq_true rfl) (by decide) (by decide) c7 ?_
    refine z_istore (lv' := [(6, .int w6), (4, .int w3), (0, .ref a0), (1, .ref a1), (3, .int x3), (5, .int x5)]) dX2_draw_31 (by decide) rfl (z_iload 1 dX2_draw_33 rfl ?_)
    obtain ⟨w9, c10, H11⟩ := H8
    refine z_stat (As := [.int w3]) (st := []) (r1 := (some (.int w9))) (h1 := (g, I, P)) dX2_draw_35 kX2_stir wm_X2_77 ⟨by decide, by decide⟩ rfl rfl (Nat.le_of_ble_eq_true rfl) (by decide) (by decide) c10 ?_
    refine z_istore (lv' := [(4, .int w9), (6, .int w6), (0, .ref a0), (1, .ref a1), (3, .int x3), (5, .int x5)]) dX2_draw_38 (by decide) rfl (z_iload 0 dX2_draw_40 rfl (z_aload_n 3 dX2_draw_42 rfl rfl (z_getI dX2_draw_43 wf_X2_85 (by decide) (by decide) rfl H11.1 ?_)))
    obtain ⟨w12, c13, H14⟩ := H11.2
    refine z_stat (As := [.int w9, .int (I a1 0)]) (st := []) (r1 := (some (.int w12))) (h1 := (g, I, P)) dX2_draw_46 kX2_below wm_X2_81 ⟨by decide, by decide⟩ rfl rfl (Nat.le_of_ble_eq_true rfl) (by decide) (by decide) c13 ?_
    refine z_istore (lv' := [(7, .int w12), (4, .int w9), (6, .int w6), (0, .ref a0), (1, .ref a1), (3, .int x3), (5, .int x5)]) dX2_draw_49 (by decide) rfl (z_iload 2 dX2_draw_51 rfl (z_iconst (w := 5) dX2_draw_53 (by decide) ?_))
    refine z_icmp_ge (t := 61) dX2_draw_54 (by decide) (fun q => ?_) (fun q => ?_)
    · have H15 := H14.1 q
      refine z_iload 2 dX2_draw_61 rfl (z_iconst (w := 5) dX2_draw_63 (by decide) ?_)
      refine z_icmp_ne (t := 71) dX2_draw_64 (by decide) (fun q => ?_) (fun q => ?_)
      · have H16 := H15.1 q
        refine z_iload 2 dX2_draw_71 rfl (z_bipush (w := 6) dX2_draw_73 (by decide) ?_)
        refine z_icmp_ne (t := 82) dX2_draw_75 (by decide) (fun q => ?_) (fun q => ?_)
        · have H17 := H16.1 q
          refine z_iconst (w := 3) dX2_draw_82 (by decide) ?_
          exact z_less [3, 4, 5, 1, 6, 0] rfl H17
        · have H18 := H16.2 q
          refine z_iconst (w := 1) dX2_draw_78 (by decide) (z_goto (t := 83) dX2_draw_79 (by decide) ?_)
          exact z_less [3, 4, 5, 1, 6, 0] rfl H18
      · have H19 := H15.2 q
        refine z_iconst (w := 2) dX2_draw_67 (by decide) (z_goto (t := 83) dX2_draw_68 (by decide) ?_)
        exact z_less [3, 4, 5, 1, 6, 0] rfl H19
    · have H20 := H14.2 q
      refine z_iconst (w := 0) dX2_draw_57 (by decide) (z_goto (t := 83) dX2_draw_58 (by decide) ?_)
      exact z_less [3, 4, 5, 1, 6, 0] rfl H20
set_option maxRecDepth 10000 in
theorem wX2_draw_83 {g : zG} {I : Nat → Nat → Int32} {P : Nat → Nat → Option Nat} {r : Option Value} {h' : zH} {a0 : Nat} {a1 : Nat} {x3 : Int32} {x4 : Int32} {x5 : Int32} {x7 : Int32} {xs0 : Int32} (H : ((xs0 = 0) → Zt none mX2_draw 0 0 99 [(0, .ref a0), (1, .ref a1), (3, .int x3), (4, .int x4), (5, .int x5), (7, .int x7), (8, .int xs0)] [] (g, I, P) r h') ∧ ((¬ xs0 = 0) → ((¬ xs0 = 1) → zk g a0 2 ∧ ∃ (w4 : Int32) (I5 : Nat → Nat → Int32), Cl mX2_does [.ref a0, .int xs0, .int x7, .int (-1)] (g, I, P) (some (.int w4)) (g, I5, P) ∧ Zt none mX2_draw 0 0 11 [(0, .ref a0), (1, .ref a1), (3, .int x3), (4, .int x4), (5, .int (x5 + 1))] [] (g, I5, P) r h') ∧ ((xs0 = 1) → Zt none mX2_draw 0 0 99 [(0, .ref a0), (1, .ref a1), (3, .int x3), (4, .int x4), (5, .int x5), (7, .int x7), (8, .int xs0)] [] (g, I, P) r h'))) : Zt none mX2_draw 0 0 83 [(0, .ref a0), (1, .ref a1), (3, .int x3), (4, .int x4), (5, .int x5), (7, .int x7)] [.int xs0] (g, I, P) r h' := by
  refine z_istore (lv' := [(8, .int xs0), (0, .ref a0), (1, .ref a1), (3, .int x3), (4, .int x4), (5, .int x5), (7, .int x7)]) dX2_draw_83 (by decide) rfl (z_iconst (w := (-1)) dX2_draw_85 (by decide) (z_istore (lv' := [(9, .int (-1)), (8, .int xs0), (0, .ref a0), (1, .ref a1), (3, .int x3), (4, .int x4), (5, .int x5), (7, .int x7)]) dX2_draw_86 (by decide) rfl (z_iload 1 dX2_draw_88 rfl ?_)))
  refine z_if_eq (t := 99) dX2_draw_90 (by decide) (fun q => ?_) (fun q => ?_)
  · have H1 := H.1 q
    exact z_less [2, 3, 4, 5, 6, 7, 1] rfl H1
  · have H2 := H.2 q
    refine z_iload 1 dX2_draw_93 rfl (z_iconst (w := 1) dX2_draw_95 (by decide) ?_)
    refine z_icmp_ne (t := 115) dX2_draw_96 (by decide) (fun q => ?_) (fun q => ?_)
    · have H3 := H2.1 q
      refine z_aload_n 2 dX2_draw_115 rfl rfl (z_iload 1 dX2_draw_116 rfl (z_iload 7 dX2_draw_118 rfl (z_iload 0 dX2_draw_120 rfl ?_)))
      obtain ⟨oc6, w4, I5, c6, H7⟩ := H3
      refine z_virt (As := [.int xs0, .int x7, .int (-1)]) (st := []) (r1 := (some (.int w4))) (h1 := (g, I5, P)) dX2_draw_122 kX2_does wm_X2_73 ⟨by decide, by decide⟩ rfl rfl (Nat.le_of_ble_eq_true rfl) (by decide) (by decide) oc6 c6 ?_
      refine z_pop dX2_draw_125 rfl (z_iinc (y := x5 + 1) (lv' := [(5, .int (x5 + 1)), (9, .int (-1)), (8, .int xs0), (0, .ref a0), (1, .ref a1), (3, .int x3), (4, .int x4), (7, .int x7)]) 6 dX2_draw_126 rfl rfl (by decide) rfl (z_goto (t := 11) dX2_draw_129 (by decide) ?_))
      exact z_less [3, 4, 5, 6, 0] rfl H7
    · have H8 := H2.2 q
      exact z_less [2, 3, 4, 5, 6, 7, 1] rfl H8
set_option maxRecDepth 10000 in
theorem wX2_draw_99 {g : zG} {I : Nat → Nat → Int32} {P : Nat → Nat → Option Nat} {r : Option Value} {h' : zH} {a0 : Nat} {a1 : Nat} {x3 : Int32} {x4 : Int32} {x5 : Int32} {x7 : Int32} {x8 : Int32} (H : ∃ (w1 : Int32), Cl mX2_stir [.int x4] (g, I, P) (some (.int w1)) (g, I, P) ∧ ∃ (w4 : Int32), Cl mX2_below [.int w1, .int 6] (g, I, P) (some (.int w4)) (g, I, P) ∧ zk g a0 2 ∧ ∃ (w7 : Int32) (I8 : Nat → Nat → Int32), Cl mX2_does [.ref a0, .int x8, .int x7, .int w4] (g, I, P) (some (.int w7)) (g, I8, P) ∧ Zt none mX2_draw 0 0 11 [(0, .ref a0), (1, .ref a1), (3, .int x3), (4, .int w1), (5, .int (x5 + 1))] [] (g, I8, P) r h') : Zt none mX2_draw 0 0 99 [(0, .ref a0), (1, .ref a1), (3, .int x3), (4, .int x4), (5, .int x5), (7, .int x7), (8, .int x8)] [] (g, I, P) r h' := by
  refine z_iload 3 dX2_draw_99 rfl ?_
  obtain ⟨w1, c2, H3⟩ := H
  refine z_stat (As := [.int x4]) (st := []) (r1 := (some (.int w1))) (h1 := (g, I, P)) dX2_draw_101 kX2_stir wm_X2_77 ⟨by decide, by decide⟩ rfl rfl (Nat.le_of_ble_eq_true rfl) (by decide) (by decide) c2 ?_
  refine z_istore (lv' := [(4, .int w1), (0, .ref a0), (1, .ref a1), (3, .int x3), (5, .int x5), (7, .int x7), (8, .int x8)]) dX2_draw_104 (by decide) rfl (z_iload 0 dX2_draw_106 rfl (z_bipush (w := 6) dX2_draw_108 (by decide) ?_))
  obtain ⟨w4, c5, H6⟩ := H3
  refine z_stat (As := [.int w1, .int 6]) (st := []) (r1 := (some (.int w4))) (h1 := (g, I, P)) dX2_draw_110 kX2_below wm_X2_81 ⟨by decide, by decide⟩ rfl rfl (Nat.le_of_ble_eq_true rfl) (by decide) (by decide) c5 ?_
  refine z_istore (lv' := [(9, .int w4), (4, .int w1), (0, .ref a0), (1, .ref a1), (3, .int x3), (5, .int x5), (7, .int x7), (8, .int x8)]) dX2_draw_113 (by decide) rfl (z_aload_n 2 dX2_draw_115 rfl rfl (z_iload 7 dX2_draw_116 rfl (z_iload 6 dX2_draw_118 rfl (z_iload 0 dX2_draw_120 rfl ?_))))
  obtain ⟨oc9, w7, I8, c9, H10⟩ := H6
  refine z_virt (As := [.int x8, .int x7, .int w4]) (st := []) (r1 := (some (.int w7))) (h1 := (g, I8, P)) dX2_draw_122 kX2_does wm_X2_73 ⟨by decide, by decide⟩ rfl rfl (Nat.le_of_ble_eq_true rfl) (by decide) (by decide) oc9 c9 ?_
  refine z_pop dX2_draw_125 rfl (z_iinc (y := x5 + 1) (lv' := [(5, .int (x5 + 1)), (9, .int w4), (4, .int w1), (0, .ref a0), (1, .ref a1), (3, .int x3), (7, .int x7), (8, .int x8)]) 5 dX2_draw_126 rfl rfl (by decide) rfl (z_goto (t := 11) dX2_draw_129 (by decide) ?_))
  exact z_less [3, 4, 5, 2, 0] rfl H10
theorem dX2_stir_0 : decode cX2_stir 0 = .ok (.iload_n 0, 1) := by decide +kernel
theorem dX2_stir_1 : decode cX2_stir 1 = .ok (.ldc 87, 2) := by decide +kernel
theorem dX2_stir_3 : decode cX2_stir 3 = .ok (.imul, 1) := by decide +kernel
theorem dX2_stir_4 : decode cX2_stir 4 = .ok (.sipush 12345, 3) := by decide +kernel
theorem dX2_stir_7 : decode cX2_stir 7 = .ok (.iadd, 1) := by decide +kernel
theorem dX2_stir_8 : decode cX2_stir 8 = .ok (.ireturn, 1) := by decide +kernel
set_option maxRecDepth 10000 in
theorem wX2_stir_0 {g : zG} {I : Nat → Nat → Int32} {P : Nat → Nat → Option Nat} {r : Option Value} {h' : zH} {x0 : Int32} (H : r = some (.int ((x0 * 1103515245) + 12345)) ∧ h' = (g, I, P)) : Zt none mX2_stir 0 0 0 [(0, .int x0)] [] (g, I, P) r h' := by
  refine z_iload_n 0 dX2_stir_0 rfl (z_ldc dX2_stir_1 wk_X2_87 (z_imul dX2_stir_3 (z_sipush (w := 12345) dX2_stir_4 (by decide) (z_iadd dX2_stir_7 ?_))))
  obtain ⟨rfl, rfl⟩ := H
  exact z_iret dX2_stir_8 rfl (by decide) (by decide)
theorem eX2_stir {g : zG} {I : Nat → Nat → Int32} {P : Nat → Nat → Option Nat} {r : Option Value} {h' : zH} {x0 : Int32} (H : Zt none mX2_stir 0 0 0 [(0, .int x0)] [] (g, I, P) r h') : Cl mX2_stir [.int x0] (g, I, P) r h' := Cl.of (by decide) (Nat.le_of_ble_eq_true rfl) H
theorem dX2_below_0 : decode cX2_below 0 = .ok (.iload_n 1, 1) := by decide +kernel
theorem dX2_below_1 : decode cX2_below 1 = .ok (.iconst 1, 1) := by decide +kernel
theorem dX2_below_2 : decode cX2_below 2 = .ok (.if_icmp .ge 7, 3) := by decide +kernel
theorem dX2_below_5 : decode cX2_below 5 = .ok (.iconst 0, 1) := by decide +kernel
theorem dX2_below_6 : decode cX2_below 6 = .ok (.goto 9, 3) := by decide +kernel
theorem dX2_below_9 : decode cX2_below 9 = .ok (.iload_n 0, 1) := by decide +kernel
theorem dX2_below_10 : decode cX2_below 10 = .ok (.bipush 16, 2) := by decide +kernel
theorem dX2_below_12 : decode cX2_below 12 = .ok (.iushr, 1) := by decide +kernel
theorem dX2_below_13 : decode cX2_below 13 = .ok (.iload_n 1, 1) := by decide +kernel
theorem dX2_below_14 : decode cX2_below 14 = .ok (.irem, 1) := by decide +kernel
theorem dX2_below_15 : decode cX2_below 15 = .ok (.ireturn, 1) := by decide +kernel
set_option maxRecDepth 10000 in
theorem wX2_below_0 {g : zG} {I : Nat → Nat → Int32} {P : Nat → Nat → Option Nat} {r : Option Value} {h' : zH} {x0 : Int32} {x1 : Int32} (H : ((1 ≤ x1) → (¬ x1 = 0) ∧ r = some (.int ((zus x0 16) - (zus x0 16) / x1 * x1)) ∧ h' = (g, I, P)) ∧ ((¬ 1 ≤ x1) → r = some (.int 0) ∧ h' = (g, I, P))) : Zt none mX2_below 0 0 0 [(0, .int x0), (1, .int x1)] [] (g, I, P) r h' := by
  refine z_iload_n 1 dX2_below_0 rfl (z_iconst (w := 1) dX2_below_1 (by decide) ?_)
  refine z_icmp_ge (t := 9) dX2_below_2 (by decide) (fun q => ?_) (fun q => ?_)
  · have H1 := H.1 q
    refine z_iload_n 0 dX2_below_9 rfl (z_bipush (w := 16) dX2_below_10 (by decide) (z_iushr dX2_below_12 (z_iload_n 1 dX2_below_13 rfl (z_irem dX2_below_14 H1.1 ?_))))
    obtain ⟨rfl, rfl⟩ := H1.2
    exact z_iret dX2_below_15 rfl (by decide) (by decide)
  · have H2 := H.2 q
    refine z_iconst (w := 0) dX2_below_5 (by decide) (z_goto (t := 15) dX2_below_6 (by decide) ?_)
    obtain ⟨rfl, rfl⟩ := H2
    exact z_iret dX2_below_15 rfl (by decide) (by decide)
theorem eX2_below {g : zG} {I : Nat → Nat → Int32} {P : Nat → Nat → Option Nat} {r : Option Value} {h' : zH} {x0 : Int32} {x1 : Int32} (H : Zt none mX2_below 0 0 0 [(0, .int x0), (1, .int x1)] [] (g, I, P) r h') : Cl mX2_below [.int x0, .int x1] (g, I, P) r h' := Cl.of (by decide) (Nat.le_of_ble_eq_true rfl) H
theorem dX2_does_0 : decode cX2_does 0 = .ok (.aload_n 0, 1) := by decide +kernel
theorem dX2_does_1 : decode cX2_does 1 = .ok (.iload_n 2, 1) := by decide +kernel
theorem dX2_does_2 : decode cX2_does 2 = .ok (.invokevirtual 88, 3) := by decide +kernel
theorem dX2_does_5 : decode cX2_does 5 = .ok (.ifCond .eq 14, 3) := by decide +kernel
theorem dX2_does_8 : decode cX2_does 8 = .ok (.aload_n 0, 1) := by decide +kernel
theorem dX2_does_9 : decode cX2_does 9 = .ok (.getfield 40, 3) := by decide +kernel
theorem dX2_does_12 : decode cX2_does 12 = .ok (.iload_n 2, 1) := by decide +kernel
theorem dX2_does_13 : decode cX2_does 13 = .ok (.invokestatic 92, 3) := by decide +kernel
theorem dX2_does_16 : decode cX2_does 16 = .ok (.ifCond .eq 5, 3) := by decide +kernel
theorem dX2_does_19 : decode cX2_does 19 = .ok (.iconst 0, 1) := by decide +kernel
theorem dX2_does_20 : decode cX2_does 20 = .ok (.ireturn, 1) := by decide +kernel
theorem dX2_does_21 : decode cX2_does 21 = .ok (.iload_n 1, 1) := by decide +kernel
theorem dX2_does_22 : decode cX2_does 22 = .ok (.tableswitch 75 0 4 #[34, 41, 48, 54, 60], 34) := by decide +kernel
theorem dX2_does_56 : decode cX2_does 56 = .ok (.aload_n 0, 1) := by decide +kernel
theorem dX2_does_57 : decode cX2_does 57 = .ok (.iload_n 2, 1) := by decide +kernel
theorem dX2_does_58 : decode cX2_does 58 = .ok (.iload_n 3, 1) := by decide +kernel
theorem dX2_does_59 : decode cX2_does 59 = .ok (.invokevirtual 96, 3) := by decide +kernel
theorem dX2_does_62 : decode cX2_does 62 = .ok (.ireturn, 1) := by decide +kernel
theorem dX2_does_63 : decode cX2_does 63 = .ok (.aload_n 0, 1) := by decide +kernel
theorem dX2_does_64 : decode cX2_does 64 = .ok (.iload_n 2, 1) := by decide +kernel
theorem dX2_does_65 : decode cX2_does 65 = .ok (.iload_n 3, 1) := by decide +kernel
theorem dX2_does_66 : decode cX2_does 66 = .ok (.invokevirtual 99, 3) := by decide +kernel
theorem dX2_does_69 : decode cX2_does 69 = .ok (.ireturn, 1) := by decide +kernel
theorem dX2_does_70 : decode cX2_does 70 = .ok (.aload_n 0, 1) := by decide +kernel
theorem dX2_does_71 : decode cX2_does 71 = .ok (.iload_n 2, 1) := by decide +kernel
theorem dX2_does_72 : decode cX2_does 72 = .ok (.invokevirtual 102, 3) := by decide +kernel
theorem dX2_does_75 : decode cX2_does 75 = .ok (.ireturn, 1) := by decide +kernel
theorem dX2_does_76 : decode cX2_does 76 = .ok (.aload_n 0, 1) := by decide +kernel
theorem dX2_does_77 : decode cX2_does 77 = .ok (.iload_n 2, 1) := by decide +kernel
theorem dX2_does_78 : decode cX2_does 78 = .ok (.invokevirtual 105, 3) := by decide +kernel
theorem dX2_does_81 : decode cX2_does 81 = .ok (.ireturn, 1) := by decide +kernel
theorem dX2_does_82 : decode cX2_does 82 = .ok (.aload_n 0, 1) := by decide +kernel
theorem dX2_does_83 : decode cX2_does 83 = .ok (.dup, 1) := by decide +kernel
theorem dX2_does_84 : decode cX2_does 84 = .ok (.getfield 40, 3) := by decide +kernel
theorem dX2_does_87 : decode cX2_does 87 = .ok (.iload_n 2, 1) := by decide +kernel
theorem dX2_does_88 : decode cX2_does 88 = .ok (.invokestatic 108, 3) := by decide +kernel
theorem dX2_does_91 : decode cX2_does 91 = .ok (.ior, 1) := by decide +kernel
theorem dX2_does_92 : decode cX2_does 92 = .ok (.putfield 40, 3) := by decide +kernel
theorem dX2_does_95 : decode cX2_does 95 = .ok (.iconst 1, 1) := by decide +kernel
theorem dX2_does_96 : decode cX2_does 96 = .ok (.ireturn, 1) := by decide +kernel
theorem dX2_does_97 : decode cX2_does 97 = .ok (.iconst 0, 1) := by decide +kernel
theorem dX2_does_98 : decode cX2_does 98 = .ok (.ireturn, 1) := by decide +kernel
set_option maxRecDepth 10000 in
theorem wX2_does_0 {g : zG} {I : Nat → Nat → Int32} {P : Nat → Nat → Option Nat} {r : Option Value} {h' : zH} {a0 : Nat} {x1 : Int32} {x2 : Int32} {x3 : Int32} (H : zk g a0 2 ∧ ∃ (w1 : Int32), Cl mX2_isStone [.ref a0, .int x2] (g, I, P) (some (.int w1)) (g, I, P) ∧ ((w1 = 0) → r = some (.int 0) ∧ h' = (g, I, P)) ∧ ((¬ w1 = 0) → zk g a0 2 ∧ ∃ (w6 : Int32), Cl mX11_has [.int (I a0 1), .int x2] (g, I, P) (some (.int w6)) (g, I, P) ∧ ((w6 = 0) → ((x1 = 0) → zk g a0 2 ∧ ∃ (w12 : Int32) (I13 : Nat → Nat → Int32), Cl mX2_freeze [.ref a0, .int x2, .int x3] (g, I, P) (some (.int w12)) (g, I13, P) ∧ (w12 = 0 ∨ w12 = 1) ∧ r = some (.int w12) ∧ h' = (g, I13, P)) ∧ ((x1 = 1) → zk g a0 2 ∧ ∃ (w18 : Int32) (I19 : Nat → Nat → Int32), Cl mX2_falsify [.ref a0, .int x2, .int x3] (g, I, P) (some (.int w18)) (g, I19, P) ∧ (w18 = 0 ∨ w18 = 1) ∧ r = some (.int w18) ∧ h' = (g, I19, P)) ∧ ((x1 = 2) → zk g a0 2 ∧ ∃ (w24 : Int32) (I25 : Nat → Nat → Int32), Cl mX2_overgrow [.ref a0, .int x2] (g, I, P) (some (.int w24)) (g, I25, P) ∧ (w24 = 0 ∨ w24 = 1) ∧ r = some (.int w24) ∧ h' = (g, I25, P)) ∧ ((x1 = 3) → zk g a0 2 ∧ ∃ (w30 : Int32) (I31 : Nat → Nat → Int32), Cl mX2_chipOff [.ref a0, .int x2] (g, I, P) (some (.int w30)) (g, I31, P) ∧ (w30 = 0 ∨ w30 = 1) ∧ r = some (.int w30) ∧ h' = (g, I31, P)) ∧ ((x1 = 4) → zk g a0 2 ∧ ∃ (w36 : Int32), Cl mX11_bit [.int x2] (g, I, P) (some (.int w36)) (g, I, P) ∧ zk g a0 2 ∧ r = some (.int 1) ∧ h' = (g, zU I a0 1 ((I a0 1) ||| w36), P)) ∧ (¬ x1 = 0 → ¬ x1 = 1 → ¬ x1 = 2 → ¬ x1 = 3 → ¬ x1 = 4 → r = some (.int 0) ∧ h' = (g, I, P))) ∧ ((¬ w6 = 0) → r = some (.int 0) ∧ h' = (g, I, P)))) : Zt none mX2_does 0 0 0 [(0, .ref a0), (1, .int x1), (2, .int x2), (3, .int x3)] [] (g, I, P) r h' := by
  refine z_aload_n 0 dX2_does_0 rfl rfl (z_iload_n 2 dX2_does_1 rfl ?_)
  obtain ⟨oc2, w1, c2, H3⟩ := H
  refine z_virt (As := [.int x2]) (st := []) (r1 := (some (.int w1))) (h1 := (g, I, P)) dX2_does_2 kX2_isStone wm_X2_88 ⟨by decide, by decide⟩ rfl rfl (Nat.le_of_ble_eq_true rfl) (by decide) (by decide) oc2 c2 ?_
  refine z_if_eq (t := 19) dX2_does_5 (by decide) (fun q => ?_) (fun q => ?_)
  · have H4 := H3.1 q
    refine z_iconst (w := 0) dX2_does_19 (by decide) ?_
    obtain ⟨rfl, rfl⟩ := H4
    exact z_zret dX2_does_20 rfl (Or.inl rfl) (by decide) (by decide)
  · have H5 := H3.2 q
    refine z_aload_n 0 dX2_does_8 rfl rfl (z_getI dX2_does_9 wf_X2_40 (by decide) (by decide) rfl H5.1 (z_iload_n 2 dX2_does_12 rfl ?_))
    obtain ⟨w6, c7, H8⟩ := H5.2
    refine z_stat (As := [.int (I a0 1), .int x2]) (st := []) (r1 := (some (.int w6))) (h1 := (g, I, P)) dX2_does_13 kX11_has wm_X2_92 ⟨by decide, by decide⟩ rfl rfl (Nat.le_of_ble_eq_true rfl) (by decide) (by decide) c7 ?_
    refine z_if_eq (t := 21) dX2_does_16 (by decide) (fun q => ?_) (fun q => ?_)
    · have H9 := H8.1 q
      refine z_iload_n 1 dX2_does_21 rfl ?_
      by_cases q10 : x1 = 0
      · have H11 := H9.1 q10
        have eq10 : (x1 : Int32).toInt = 0 := by rw [q10]; decide
        refine z_tableIn (off := 34) (t := 56) dX2_does_22 (by rw [eq10]; decide) (by rw [eq10]; decide) (by rw [eq10]; rfl) (by decide) ?_
        refine z_aload_n 0 dX2_does_56 rfl rfl (z_iload_n 2 dX2_does_57 rfl (z_iload_n 3 dX2_does_58 rfl ?_))
        obtain ⟨oc14, w12, I13, c14, H15⟩ := H11
        refine z_virt (As := [.int x2, .int x3]) (st := []) (r1 := (some (.int w12))) (h1 := (g, I13, P)) dX2_does_59 kX2_freeze wm_X2_96 ⟨by decide, by decide⟩ rfl rfl (Nat.le_of_ble_eq_true rfl) (by decide) (by decide) oc14 c14 ?_
        obtain ⟨ob, rfl, rfl⟩ := H15
        exact z_zret dX2_does_62 rfl ob (by decide) (by decide)
      by_cases q16 : x1 = 1
      · have H17 := H9.2.1 q16
        have eq16 : (x1 : Int32).toInt = 1 := by rw [q16]; decide
        refine z_tableIn (off := 41) (t := 63) dX2_does_22 (by rw [eq16]; decide) (by rw [eq16]; decide) (by rw [eq16]; rfl) (by decide) ?_
        refine z_aload_n 0 dX2_does_63 rfl rfl (z_iload_n 2 dX2_does_64 rfl (z_iload_n 3 dX2_does_65 rfl ?_))
        obtain ⟨oc20, w18, I19, c20, H21⟩ := H17
        refine z_virt (As := [.int x2, .int x3]) (st := []) (r1 := (some (.int w18))) (h1 := (g, I19, P)) dX2_does_66 kX2_falsify wm_X2_99 ⟨by decide, by decide⟩ rfl rfl (Nat.le_of_ble_eq_true rfl) (by decide) (by decide) oc20 c20 ?_
        obtain ⟨ob, rfl, rfl⟩ := H21
        exact z_zret dX2_does_69 rfl ob (by decide) (by decide)
      by_cases q22 : x1 = 2
      · have H23 := H9.2.2.1 q22
        have eq22 : (x1 : Int32).toInt = 2 := by rw [q22]; decide
        refine z_tableIn (off := 48) (t := 70) dX2_does_22 (by rw [eq22]; decide) (by rw [eq22]; decide) (by rw [eq22]; rfl) (by decide) ?_
        refine z_aload_n 0 dX2_does_70 rfl rfl (z_iload_n 2 dX2_does_71 rfl ?_)
        obtain ⟨oc26, w24, I25, c26, H27⟩ := H23
        refine z_virt (As := [.int x2]) (st := []) (r1 := (some (.int w24))) (h1 := (g, I25, P)) dX2_does_72 kX2_overgrow wm_X2_102 ⟨by decide, by decide⟩ rfl rfl (Nat.le_of_ble_eq_true rfl) (by decide) (by decide) oc26 c26 ?_
        obtain ⟨ob, rfl, rfl⟩ := H27
        exact z_zret dX2_does_75 rfl ob (by decide) (by decide)
      by_cases q28 : x1 = 3
      · have H29 := H9.2.2.2.1 q28
        have eq28 : (x1 : Int32).toInt = 3 := by rw [q28]; decide
        refine z_tableIn (off := 54) (t := 76) dX2_does_22 (by rw [eq28]; decide) (by rw [eq28]; decide) (by rw [eq28]; rfl) (by decide) ?_
        refine z_aload_n 0 dX2_does_76 rfl rfl (z_iload_n 2 dX2_does_77 rfl ?_)
        obtain ⟨oc32, w30, I31, c32, H33⟩ := H29
        refine z_virt (As := [.int x2]) (st := []) (r1 := (some (.int w30))) (h1 := (g, I31, P)) dX2_does_78 kX2_chipOff wm_X2_105 ⟨by decide, by decide⟩ rfl rfl (Nat.le_of_ble_eq_true rfl) (by decide) (by decide) oc32 c32 ?_
        obtain ⟨ob, rfl, rfl⟩ := H33
        exact z_zret dX2_does_81 rfl ob (by decide) (by decide)
      by_cases q34 : x1 = 4
      · have H35 := H9.2.2.2.2.1 q34
        have eq34 : (x1 : Int32).toInt = 4 := by rw [q34]; decide
        refine z_tableIn (off := 60) (t := 82) dX2_does_22 (by rw [eq34]; decide) (by rw [eq34]; decide) (by rw [eq34]; rfl) (by decide) ?_
        refine z_aload_n 0 dX2_does_82 rfl rfl (z_dup dX2_does_83 rfl (z_getI dX2_does_84 wf_X2_40 (by decide) (by decide) rfl H35.1 (z_iload_n 2 dX2_does_87 rfl ?_)))
        obtain ⟨w36, c37, H38⟩ := H35.2
        refine z_stat (As := [.int x2]) (st := [.int (I a0 1), .ref a0]) (r1 := (some (.int w36))) (h1 := (g, I, P)) dX2_does_88 kX11_bit wm_X2_108 ⟨by decide, by decide⟩ rfl rfl (Nat.le_of_ble_eq_true rfl) (by decide) (by decide) c37 ?_
        refine z_ior dX2_does_91 (z_putI (g := g) (I := I) (Q := P) dX2_does_92 wf_X2_40 (by decide) (by decide) rfl (Or.inl rfl) (zfit_int rfl) H38.1 (z_iconst (w := 1) dX2_does_95 (by decide) ?_))
        obtain ⟨rfl, rfl⟩ := H38.2
        exact z_zret dX2_does_96 rfl (Or.inr rfl) (by decide) (by decide)
      have H39 := H9.2.2.2.2.2 q10 q16 q22 q28 q34
      have nq10 := lv_neT q10 (show (0 : Int32).toInt = 0 by decide)
      have nq16 := lv_neT q16 (show (1 : Int32).toInt = 1 by decide)
      have nq22 := lv_neT q22 (show (2 : Int32).toInt = 2 by decide)
      have nq28 := lv_neT q28 (show (3 : Int32).toInt = 3 by decide)
      have nq34 := lv_neT q34 (show (4 : Int32).toInt = 4 by decide)
      refine z_tableOut (t := 97) dX2_does_22 (by omega) (by decide) ?_
      refine z_iconst (w := 0) dX2_does_97 (by decide) ?_
      obtain ⟨rfl, rfl⟩ := H39
      exact z_zret dX2_does_98 rfl (Or.inl rfl) (by decide) (by decide)
    · have H40 := H8.2 q
      refine z_iconst (w := 0) dX2_does_19 (by decide) ?_
      obtain ⟨rfl, rfl⟩ := H40
      exact z_zret dX2_does_20 rfl (Or.inl rfl) (by decide) (by decide)
theorem eX2_does {g : zG} {I : Nat → Nat → Int32} {P : Nat → Nat → Option Nat} {r : Option Value} {h' : zH} {a0 : Nat} {x1 : Int32} {x2 : Int32} {x3 : Int32} (H : Zt none mX2_does 0 0 0 [(0, .ref a0), (1, .int x1), (2, .int x2), (3, .int x3)] [] (g, I, P) r h') : Cl mX2_does [.ref a0, .int x1, .int x2, .int x3] (g, I, P) r h' := Cl.of (by decide) (Nat.le_of_ble_eq_true rfl) H
theorem dX2_isStone_0 : decode cX2_isStone 0 = .ok (.iload_n 1, 1) := by decide +kernel
theorem dX2_isStone_1 : decode cX2_isStone 1 = .ok (.ifCond .lt 18, 3) := by decide +kernel
theorem dX2_isStone_4 : decode cX2_isStone 4 = .ok (.iload_n 1, 1) := by decide +kernel
theorem dX2_isStone_5 : decode cX2_isStone 5 = .ok (.aload_n 0, 1) := by decide +kernel
theorem dX2_isStone_6 : decode cX2_isStone 6 = .ok (.getfield 12, 3) := by decide +kernel
theorem dX2_isStone_9 : decode cX2_isStone 9 = .ok (.getfield 85, 3) := by decide +kernel
theorem dX2_isStone_12 : decode cX2_isStone 12 = .ok (.if_icmp .ge 7, 3) := by decide +kernel
theorem dX2_isStone_15 : decode cX2_isStone 15 = .ok (.iconst 1, 1) := by decide +kernel
theorem dX2_isStone_16 : decode cX2_isStone 16 = .ok (.goto 4, 3) := by decide +kernel
theorem dX2_isStone_19 : decode cX2_isStone 19 = .ok (.iconst 0, 1) := by decide +kernel
theorem dX2_isStone_20 : decode cX2_isStone 20 = .ok (.ireturn, 1) := by decide +kernel
set_option maxRecDepth 10000 in
theorem wX2_isStone_0 {g : zG} {I : Nat → Nat → Int32} {P : Nat → Nat → Option Nat} {r : Option Value} {h' : zH} {a0 : Nat} {x1 : Int32} (H : ((x1 < 0) → r = some (.int 0) ∧ h' = (g, I, P)) ∧ ((¬ x1 < 0) → zk g a0 2 ∧ ∃ b3, P a0 0 = some b3 ∧ zk g b3 3 ∧ ((I b3 0 ≤ x1) → r = some (.int 0) ∧ h' = (g, I, P)) ∧ ((¬ I b3 0 ≤ x1) → r = some (.int 1) ∧ h' = (g, I, P)))) : Zt none mX2_isStone 0 0 0 [(0, .ref a0), (1, .int x1)] [] (g, I, P) r h' := by
  refine z_iload_n 1 dX2_isStone_0 rfl ?_
  refine z_if_lt (t := 19) dX2_isStone_1 (by decide) (fun q => ?_) (fun q => ?_)
  · have H1 := H.1 q
    refine z_iconst (w := 0) dX2_isStone_19 (by decide) ?_
    obtain ⟨rfl, rfl⟩ := H1
    exact z_zret dX2_isStone_20 rfl (Or.inl rfl) (by decide) (by decide)
  · have H2 := H.2 q
    refine z_iload_n 1 dX2_isStone_4 rfl (z_aload_n 0 dX2_isStone_5 rfl rfl ?_)
    obtain ⟨oe5, b3, e5, H4⟩ := H2
    refine z_getP dX2_isStone_6 wf_X2_12 (by decide) (by decide) rfl oe5 (fun q => (by cases q.symm.trans e5)) (fun j q => ?_)
    cases q.symm.trans e5
    refine z_getI dX2_isStone_9 wf_X2_85 (by decide) (by decide) rfl H4.1 ?_
    refine z_icmp_ge (t := 19) dX2_isStone_12 (by decide) (fun q => ?_) (fun q => ?_)
    · have H6 := H4.2.1 q
      refine z_iconst (w := 0) dX2_isStone_19 (by decide) ?_
      obtain ⟨rfl, rfl⟩ := H6
      exact z_zret dX2_isStone_20 rfl (Or.inl rfl) (by decide) (by decide)
    · have H7 := H4.2.2 q
      refine z_iconst (w := 1) dX2_isStone_15 (by decide) (z_goto (t := 20) dX2_isStone_16 (by decide) ?_)
      obtain ⟨rfl, rfl⟩ := H7
      exact z_zret dX2_isStone_20 rfl (Or.inr rfl) (by decide) (by decide)
theorem eX2_isStone {g : zG} {I : Nat → Nat → Int32} {P : Nat → Nat → Option Nat} {r : Option Value} {h' : zH} {a0 : Nat} {x1 : Int32} (H : Zt none mX2_isStone 0 0 0 [(0, .ref a0), (1, .int x1)] [] (g, I, P) r h') : Cl mX2_isStone [.ref a0, .int x1] (g, I, P) r h' := Cl.of (by decide) (Nat.le_of_ble_eq_true rfl) H
theorem dX2_open_0 : decode cX2_open 0 = .ok (.aload_n 0, 1) := by decide +kernel
theorem dX2_open_1 : decode cX2_open 1 = .ok (.getfield 18, 3) := by decide +kernel
theorem dX2_open_4 : decode cX2_open 4 = .ok (.iload_n 1, 1) := by decide +kernel
theorem dX2_open_5 : decode cX2_open 5 = .ok (.invokestatic 65, 3) := by decide +kernel
theorem dX2_open_8 : decode cX2_open 8 = .ok (.aload_n 0, 1) := by decide +kernel
theorem dX2_open_9 : decode cX2_open 9 = .ok (.getfield 22, 3) := by decide +kernel
theorem dX2_open_12 : decode cX2_open 12 = .ok (.iload_n 1, 1) := by decide +kernel
theorem dX2_open_13 : decode cX2_open 13 = .ok (.invokestatic 65, 3) := by decide +kernel
theorem dX2_open_16 : decode cX2_open 16 = .ok (.isub, 1) := by decide +kernel
theorem dX2_open_17 : decode cX2_open 17 = .ok (.ireturn, 1) := by decide +kernel
set_option maxRecDepth 10000 in
theorem wX2_open_0 {g : zG} {I : Nat → Nat → Int32} {P : Nat → Nat → Option Nat} {r : Option Value} {h' : zH} {a0 : Nat} {x1 : Int32} (H : zk g a0 2 ∧ ∃ b1, P a0 4 = some b1 ∧ ∃ (w4 : Int32), Cl mX11_got [.ref b1, .int x1] (g, I, P) (some (.int w4)) (g, I, P) ∧ zk g a0 2 ∧ ∃ b7, P a0 5 = some b7 ∧ ∃ (w10 : Int32), Cl mX11_got [.ref b7, .int x1] (g, I, P) (some (.int w10)) (g, I, P) ∧ r = some (.int (w4 - w10)) ∧ h' = (g, I, P)) : Zt none mX2_open 0 0 0 [(0, .ref a0), (1, .int x1)] [] (g, I, P) r h' := by
  refine z_aload_n 0 dX2_open_0 rfl rfl ?_
  obtain ⟨oe3, b1, e3, H2⟩ := H
  refine z_getP dX2_open_1 wf_X2_18 (by decide) (by decide) rfl oe3 (fun q => (by cases q.symm.trans e3)) (fun j q => ?_)
  cases q.symm.trans e3
  refine z_iload_n 1 dX2_open_4 rfl ?_
  obtain ⟨w4, c5, H6⟩ := H2
  refine z_stat (As := [.ref b1, .int x1]) (st := []) (r1 := (some (.int w4))) (h1 := (g, I, P)) dX2_open_5 kX11_got wm_X2_65 ⟨by decide, by decide⟩ rfl rfl (Nat.le_of_ble_eq_true rfl) (by decide) (by decide) c5 ?_
  refine z_aload_n 0 dX2_open_8 rfl rfl ?_
  obtain ⟨oe9, b7, e9, H8⟩ := H6
  refine z_getP dX2_open_9 wf_X2_22 (by decide) (by decide) rfl oe9 (fun q => (by cases q.symm.trans e9)) (fun j q => ?_)
  cases q.symm.trans e9
  refine z_iload_n 1 dX2_open_12 rfl ?_
  obtain ⟨w10, c11, H12⟩ := H8
  refine z_stat (As := [.ref b7, .int x1]) (st := [.int w4]) (r1 := (some (.int w10))) (h1 := (g, I, P)) dX2_open_13 kX11_got wm_X2_65 ⟨by decide, by decide⟩ rfl rfl (Nat.le_of_ble_eq_true rfl) (by decide) (by decide) c11 ?_
  refine z_isub dX2_open_16 ?_
  obtain ⟨rfl, rfl⟩ := H12
  exact z_iret dX2_open_17 rfl (by decide) (by decide)
theorem eX2_open {g : zG} {I : Nat → Nat → Int32} {P : Nat → Nat → Option Nat} {r : Option Value} {h' : zH} {a0 : Nat} {x1 : Int32} (H : Zt none mX2_open 0 0 0 [(0, .ref a0), (1, .int x1)] [] (g, I, P) r h') : Cl mX2_open [.ref a0, .int x1] (g, I, P) r h' := Cl.of (by decide) (Nat.le_of_ble_eq_true rfl) H
theorem dX2_freeze_0 : decode cX2_freeze 0 = .ok (.aload_n 0, 1) := by decide +kernel
theorem dX2_freeze_1 : decode cX2_freeze 1 = .ok (.getfield 18, 3) := by decide +kernel
theorem dX2_freeze_4 : decode cX2_freeze 4 = .ok (.iload_n 1, 1) := by decide +kernel
theorem dX2_freeze_5 : decode cX2_freeze 5 = .ok (.invokestatic 65, 3) := by decide +kernel
theorem dX2_freeze_8 : decode cX2_freeze 8 = .ok (.istore_n 3, 1) := by decide +kernel
theorem dX2_freeze_9 : decode cX2_freeze 9 = .ok (.iload_n 3, 1) := by decide +kernel
theorem dX2_freeze_10 : decode cX2_freeze 10 = .ok (.bipush 12, 2) := by decide +kernel
theorem dX2_freeze_12 : decode cX2_freeze 12 = .ok (.if_icmp .lt 5, 3) := by decide +kernel
theorem dX2_freeze_15 : decode cX2_freeze 15 = .ok (.iconst 0, 1) := by decide +kernel
theorem dX2_freeze_16 : decode cX2_freeze 16 = .ok (.ireturn, 1) := by decide +kernel
theorem dX2_freeze_17 : decode cX2_freeze 17 = .ok (.aload_n 0, 1) := by decide +kernel
theorem dX2_freeze_18 : decode cX2_freeze 18 = .ok (.getfield 31, 3) := by decide +kernel
theorem dX2_freeze_21 : decode cX2_freeze 21 = .ok (.iload_n 1, 1) := by decide +kernel
theorem dX2_freeze_22 : decode cX2_freeze 22 = .ok (.bipush 12, 2) := by decide +kernel
theorem dX2_freeze_24 : decode cX2_freeze 24 = .ok (.imul, 1) := by decide +kernel
theorem dX2_freeze_25 : decode cX2_freeze 25 = .ok (.iload_n 3, 1) := by decide +kernel
theorem dX2_freeze_26 : decode cX2_freeze 26 = .ok (.iadd, 1) := by decide +kernel
theorem dX2_freeze_27 : decode cX2_freeze 27 = .ok (.iload_n 2, 1) := by decide +kernel
theorem dX2_freeze_28 : decode cX2_freeze 28 = .ok (.invokestatic 111, 3) := by decide +kernel
theorem dX2_freeze_31 : decode cX2_freeze 31 = .ok (.aload_n 0, 1) := by decide +kernel
theorem dX2_freeze_32 : decode cX2_freeze 32 = .ok (.iload_n 1, 1) := by decide +kernel
theorem dX2_freeze_33 : decode cX2_freeze 33 = .ok (.aload_n 0, 1) := by decide +kernel
theorem dX2_freeze_34 : decode cX2_freeze 34 = .ok (.iload_n 1, 1) := by decide +kernel
theorem dX2_freeze_35 : decode cX2_freeze 35 = .ok (.invokevirtual 115, 3) := by decide +kernel
theorem dX2_freeze_38 : decode cX2_freeze 38 = .ok (.iconst 1, 1) := by decide +kernel
theorem dX2_freeze_39 : decode cX2_freeze 39 = .ok (.iadd, 1) := by decide +kernel
theorem dX2_freeze_40 : decode cX2_freeze 40 = .ok (.invokevirtual 118, 3) := by decide +kernel
theorem dX2_freeze_43 : decode cX2_freeze 43 = .ok (.ifCond .ne 5, 3) := by decide +kernel
theorem dX2_freeze_46 : decode cX2_freeze 46 = .ok (.iconst 0, 1) := by decide +kernel
theorem dX2_freeze_47 : decode cX2_freeze 47 = .ok (.ireturn, 1) := by decide +kernel
theorem dX2_freeze_48 : decode cX2_freeze 48 = .ok (.iconst 0, 1) := by decide +kernel
theorem dX2_freeze_49 : decode cX2_freeze 49 = .ok (.istore 4, 2) := by decide +kernel
theorem dX2_freeze_51 : decode cX2_freeze 51 = .ok (.iload 4, 2) := by decide +kernel
theorem dX2_freeze_53 : decode cX2_freeze 53 = .ok (.iload_n 3, 1) := by decide +kernel
theorem dX2_freeze_54 : decode cX2_freeze 54 = .ok (.if_icmp .ge 42, 3) := by decide +kernel
theorem dX2_freeze_57 : decode cX2_freeze 57 = .ok (.iload_n 1, 1) := by decide +kernel
theorem dX2_freeze_58 : decode cX2_freeze 58 = .ok (.bipush 12, 2) := by decide +kernel
theorem dX2_freeze_60 : decode cX2_freeze 60 = .ok (.imul, 1) := by decide +kernel
theorem dX2_freeze_61 : decode cX2_freeze 61 = .ok (.iload 4, 2) := by decide +kernel
theorem dX2_freeze_63 : decode cX2_freeze 63 = .ok (.iadd, 1) := by decide +kernel
theorem dX2_freeze_64 : decode cX2_freeze 64 = .ok (.istore 5, 2) := by decide +kernel
theorem dX2_freeze_66 : decode cX2_freeze 66 = .ok (.aload_n 0, 1) := by decide +kernel
theorem dX2_freeze_67 : decode cX2_freeze 67 = .ok (.getfield 34, 3) := by decide +kernel
theorem dX2_freeze_70 : decode cX2_freeze 70 = .ok (.iload 5, 2) := by decide +kernel
theorem dX2_freeze_72 : decode cX2_freeze 72 = .ok (.iconst 0, 1) := by decide +kernel
theorem dX2_freeze_73 : decode cX2_freeze 73 = .ok (.aload_n 0, 1) := by decide +kernel
theorem dX2_freeze_74 : decode cX2_freeze 74 = .ok (.getfield 34, 3) := by decide +kernel
theorem dX2_freeze_77 : decode cX2_freeze 77 = .ok (.iload 5, 2) := by decide +kernel
theorem dX2_freeze_79 : decode cX2_freeze 79 = .ok (.invokestatic 65, 3) := by decide +kernel
theorem dX2_freeze_82 : decode cX2_freeze 82 = .ok (.iconst 1, 1) := by decide +kernel
theorem dX2_freeze_83 : decode cX2_freeze 83 = .ok (.isub, 1) := by decide +kernel
theorem dX2_freeze_84 : decode cX2_freeze 84 = .ok (.invokestatic 121, 3) := by decide +kernel
theorem dX2_freeze_87 : decode cX2_freeze 87 = .ok (.invokestatic 111, 3) := by decide +kernel
theorem dX2_freeze_90 : decode cX2_freeze 90 = .ok (.iinc 4 1, 3) := by decide +kernel
theorem dX2_freeze_93 : decode cX2_freeze 93 = .ok (.goto (-42), 3) := by decide +kernel
theorem dX2_freeze_96 : decode cX2_freeze 96 = .ok (.aload_n 0, 1) := by decide +kernel
theorem dX2_freeze_97 : decode cX2_freeze 97 = .ok (.iload_n 1, 1) := by decide +kernel
theorem dX2_freeze_98 : decode cX2_freeze 98 = .ok (.iload_n 2, 1) := by decide +kernel
theorem dX2_freeze_99 : decode cX2_freeze 99 = .ok (.bipush 9, 2) := by decide +kernel
theorem dX2_freeze_101 : decode cX2_freeze 101 = .ok (.iconst 0, 1) := by decide +kernel
theorem dX2_freeze_102 : decode cX2_freeze 102 = .ok (.invokevirtual 126, 3) := by decide +kernel
theorem dX2_freeze_105 : decode cX2_freeze 105 = .ok (.iconst 1, 1) := by decide +kernel
theorem dX2_freeze_106 : decode cX2_freeze 106 = .ok (.ireturn, 1) := by decide +kernel
set_option maxRecDepth 10000 in
theorem wX2_freeze_0 {g : zG} {I : Nat → Nat → Int32} {P : Nat → Nat → Option Nat} {r : Option Value} {h' : zH} {a0 : Nat} {x1 : Int32} {x2 : Int32} (H : zk g a0 2 ∧ ∃ b1, P a0 4 = some b1 ∧ ∃ (w4 : Int32), Cl mX11_got [.ref b1, .int x1] (g, I, P) (some (.int w4)) (g, I, P) ∧ ((w4 < 12) → zk g a0 2 ∧ ∃ b8, P a0 8 = some b8 ∧ ∃ (I11 : Nat → Nat → Int32), Cl mX11_put [.ref b8, .int ((x1 * 12) + w4), .int x2] (g, I, P) none (g, I11, P) ∧ zk g a0 2 ∧ ∃ (w14 : Int32), Cl mX2_open [.ref a0, .int x1] (g, I11, P) (some (.int w14)) (g, I11, P) ∧ zk g a0 2 ∧ ∃ (w17 : Int32), Cl mX2_fitting [.ref a0, .int x1, .int (w14 + 1)] (g, I11, P) (some (.int w17)) (g, I11, P) ∧ ((¬ w17 = 0) → Zt none mX2_freeze 0 0 51 [(0, .ref a0), (1, .int x1), (2, .int x2), (3, .int w4), (4, .int 0)] [] (g, I11, P) r h') ∧ ((w17 = 0) → r = some (.int 0) ∧ h' = (g, I11, P))) ∧ ((¬ w4 < 12) → r = some (.int 0) ∧ h' = (g, I, P))) : Zt none mX2_freeze 0 0 0 [(0, .ref a0), (1, .int x1), (2, .int x2)] [] (g, I, P) r h' := by
  refine z_aload_n 0 dX2_freeze_0 rfl rfl ?_
  obtain ⟨oe3, b1, e3, H2⟩ := H
  refine z_getP dX2_freeze_1 wf_X2_18 (by decide) (by decide) rfl oe3 (fun q => (by cases q.symm.trans e3)) (fun j q => ?_)
  cases q.symm.trans e3
  refine z_iload_n 1 dX2_freeze_4 rfl ?_
  obtain ⟨w4, c5, H6⟩ := H2
  refine z_stat (As := [.ref b1, .int x1]) (st := []) (r1 := (some (.int w4))) (h1 := (g, I, P)) dX2_freeze_5 kX11_got wm_X2_65 ⟨by decide, by decide⟩ rfl rfl (Nat.le_of_ble_eq_true rfl) (by decide) (by decide) c5 ?_
  refine z_istore_n (lv' := [(3, .int w4), (0, .ref a0), (1, .int x1), (2, .int x2)]) dX2_freeze_8 (by decide) rfl (z_iload_n 0 dX2_freeze_9 rfl (z_bipush (w := 12) dX2_freeze_10 (by decide) ?_))
  refine z_icmp_lt (t := 17) dX2_freeze_12 (by decide) (fun q => ?_) (fun q => ?_)
  · have H7 := H6.1 q
    refine z_aload_n 1 dX2_freeze_17 rfl rfl ?_
    obtain ⟨oe10, b8, e10, H9⟩ := H7
    refine z_getP dX2_freeze_18 wf_X2_31 (by decide) (by decide) rfl oe10 (fun q => (by cases q.symm.trans e10)) (fun j q => ?_)
    cases q.symm.trans e10
    refine z_iload_n 2 dX2_freeze_21 rfl (z_bipush (w := 12) dX2_freeze_22 (by decide) (z_imul dX2_freeze_24 (z_iload_n 0 dX2_freeze_25 rfl (z_iadd dX2_freeze_26 (z_iload_n 3 dX2_freeze_27 rfl ?_)))))
    obtain ⟨I11, c12, H13⟩ := H9
    refine z_stat (As := [.ref b8, .int ((x1 * 12) + w4), .int x2]) (st := []) (r1 := none) (h1 := (g, I11, P)) dX2_freeze_28 kX11_put wm_X2_111 ⟨by decide, by decide⟩ rfl rfl (Nat.le_of_ble_eq_true rfl) (by decide) (by decide) c12 ?_
    refine z_aload_n 1 dX2_freeze_31 rfl rfl (z_iload_n 2 dX2_freeze_32 rfl (z_aload_n 1 dX2_freeze_33 rfl rfl (z_iload_n 2 dX2_freeze_34 rfl ?_)))
    obtain ⟨oc15, w14, c15, H16⟩ := H13
    refine z_virt (As := [.int x1]) (st := [.int x1, .ref a0]) (r1 := (some (.int w14))) (h1 := (g, I11, P)) dX2_freeze_35 kX2_open wm_X2_115 ⟨by decide, by decide⟩ rfl rfl (Nat.le_of_ble_eq_true rfl) (by decide) (by decide) oc15 c15 ?_
    refine z_iconst (w := 1) dX2_freeze_38 (by decide) (z_iadd dX2_freeze_39 ?_)
    obtain ⟨oc18, w17, c18, H19⟩ := H16
    refine z_virt (As := [.int x1, .int (w14 + 1)]) (st := []) (r1 := (some (.int w17))) (h1 := (g, I11, P)) dX2_freeze_40 kX2_fitting wm_X2_118 ⟨by decide, by decide⟩ rfl rfl (Nat.le_of_ble_eq_true rfl) (by decide) (by decide) oc18 c18 ?_
    refine z_if_ne (t := 48) dX2_freeze_43 (by decide) (fun q => ?_) (fun q => ?_)
    · have H20 := H19.1 q
      refine z_iconst (w := 0) dX2_freeze_48 (by decide) (z_istore (lv' := [(4, .int 0), (3, .int w4), (0, .ref a0), (1, .int x1), (2, .int x2)]) dX2_freeze_49 (by decide) rfl ?_)
      exact z_less [2, 3, 4, 1, 0] rfl H20
    · have H21 := H19.2 q
      refine z_iconst (w := 0) dX2_freeze_46 (by decide) ?_
      obtain ⟨rfl, rfl⟩ := H21
      exact z_zret dX2_freeze_47 rfl (Or.inl rfl) (by decide) (by decide)
  · have H22 := H6.2 q
    refine z_iconst (w := 0) dX2_freeze_15 (by decide) ?_
    obtain ⟨rfl, rfl⟩ := H22
    exact z_zret dX2_freeze_16 rfl (Or.inl rfl) (by decide) (by decide)
theorem eX2_freeze {g : zG} {I : Nat → Nat → Int32} {P : Nat → Nat → Option Nat} {r : Option Value} {h' : zH} {a0 : Nat} {x1 : Int32} {x2 : Int32} (H : Zt none mX2_freeze 0 0 0 [(0, .ref a0), (1, .int x1), (2, .int x2)] [] (g, I, P) r h') : Cl mX2_freeze [.ref a0, .int x1, .int x2] (g, I, P) r h' := Cl.of (by decide) (Nat.le_of_ble_eq_true rfl) H
set_option maxRecDepth 10000 in
theorem wX2_freeze_51 {g : zG} {I : Nat → Nat → Int32} {P : Nat → Nat → Option Nat} {r : Option Value} {h' : zH} {a0 : Nat} {x1 : Int32} {x2 : Int32} {x3 : Int32} {x4 : Int32} (H : ((x3 ≤ x4) → zk g a0 2 ∧ ∃ (I2 : Nat → Nat → Int32), Cl mX2_add [.ref a0, .int x1, .int x2, .int 9, .int 0] (g, I, P) none (g, I2, P) ∧ r = some (.int 1) ∧ h' = (g, I2, P)) ∧ ((¬ x3 ≤ x4) → zk g a0 2 ∧ ∃ b6, P a0 9 = some b6 ∧ zk g a0 2 ∧ ∃ b9, P a0 9 = some b9 ∧ ∃ (w12 : Int32), Cl mX11_got [.ref b9, .int ((x1 * 12) + x4)] (g, I, P) (some (.int w12)) (g, I, P) ∧ ∃ (I15 : Nat → Nat → Int32), Cl mX11_put [.ref b6, .int ((x1 * 12) + x4), .int (zmmax 0 (w12 - 1))] (g, I, P) none (g, I15, P) ∧ Zt none mX2_freeze 0 0 51 [(0, .ref a0), (1, .int x1), (2, .int x2), (3, .int x3), (4, .int (x4 + 1))] [] (g, I15, P) r h')) : Zt none mX2_freeze 0 0 51 [(0, .ref a0), (1, .int x1), (2, .int x2), (3, .int x3), (4, .int x4)] [] (g, I, P) r h' := by
  refine z_iload 4 dX2_freeze_51 rfl (z_iload_n 3 dX2_freeze_53 rfl ?_)
  refine z_icmp_ge (t := 96) dX2_freeze_54 (by decide) (fun q => ?_) (fun q => ?_)
  · have H1 := H.1 q
    refine z_aload_n 0 dX2_freeze_96 rfl rfl (z_iload_n 1 dX2_freeze_97 rfl (z_iload_n 2 dX2_freeze_98 rfl (z_bipush (w := 9) dX2_freeze_99 (by decide) (z_iconst (w := 0) dX2_freeze_101 (by decide) ?_))))
    obtain ⟨oc3, I2, c3, H4⟩ := H1
    refine z_virt (As := [.int x1, .int x2, .int 9, .int 0]) (st := []) (r1 := none) (h1 := (g, I2, P)) dX2_freeze_102 kX2_add wm_X2_126 ⟨by decide, by decide⟩ rfl rfl (Nat.le_of_ble_eq_true rfl) (by decide) (by decide) oc3 c3 ?_
    refine z_iconst (w := 1) dX2_freeze_105 (by decide) ?_
    obtain ⟨rfl, rfl⟩ := H4
    exact z_zret dX2_freeze_106 rfl (Or.inr rfl) (by decide) (by decide)
  · have H5 := H.2 q
    refine z_iload_n 1 dX2_freeze_57 rfl (z_bipush (w := 12) dX2_freeze_58 (by decide) (z_imul dX2_freeze_60 (z_iload 4 dX2_freeze_61 rfl (z_iadd dX2_freeze_63 (z_istore (lv' := [(5, .int ((x1 * 12) + x4)), (0, .ref a0), (1, .int x1), (2, .int x2), (3, .int x3), (4, .int x4)]) dX2_freeze_64 (by decide) rfl (z_aload_n 1 dX2_freeze_66 rfl rfl ?_))))))
    obtain ⟨oe8, b6, e8, H7⟩ := H5
    refine z_getP dX2_freeze_67 wf_X2_34 (by decide) (by decide) rfl oe8 (fun q => (by cases q.symm.trans e8)) (fun j q => ?_)
    cases q.symm.trans e8
    refine z_iload 0 dX2_freeze_70 rfl (z_iconst (w := 0) dX2_freeze_72 (by decide) (z_aload_n 1 dX2_freeze_73 rfl rfl ?_))
    obtain ⟨oe11, b9, e11, H10⟩ := H7
    refine z_getP dX2_freeze_74 wf_X2_34 (by decide) (by decide) rfl oe11 (fun q => (by cases q.symm.trans e11)) (fun j q => ?_)
    cases q.symm.trans e11
    refine z_iload 0 dX2_freeze_77 rfl ?_
    obtain ⟨w12, c13, H14⟩ := H10
    refine z_stat (As := [.ref b9, .int ((x1 * 12) + x4)]) (st := [.int 0, .int ((x1 * 12) + x4), .ref b6]) (r1 := (some (.int w12))) (h1 := (g, I, P)) dX2_freeze_79 kX11_got wm_X2_65 ⟨by decide, by decide⟩ rfl rfl (Nat.le_of_ble_eq_true rfl) (by decide) (by decide) c13 ?_
    refine z_iconst (w := 1) dX2_freeze_82 (by decide) (z_isub dX2_freeze_83 (z_mmax dX2_freeze_84 wm_X2_121 (by decide) (Nat.le_of_ble_eq_true rfl) (by decide) (by decide) w_mxS w_mI w_mxC ?_))
    obtain ⟨I15, c16, H17⟩ := H14
    refine z_stat (As := [.ref b6, .int ((x1 * 12) + x4), .int (zmmax 0 (w12 - 1))]) (st := []) (r1 := none) (h1 := (g, I15, P)) dX2_freeze_87 kX11_put wm_X2_111 ⟨by decide, by decide⟩ rfl rfl (Nat.le_of_ble_eq_true rfl) (by decide) (by decide) c16 ?_
    refine z_iinc (y := x4 + 1) (lv' := [(4, .int (x4 + 1)), (5, .int ((x1 * 12) + x4)), (0, .ref a0), (1, .int x1), (2, .int x2), (3, .int x3)]) 5 dX2_freeze_90 rfl rfl (by decide) rfl (z_goto (t := 51) dX2_freeze_93 (by decide) ?_)
    exact z_less [2, 3, 4, 5, 0] rfl H17
theorem dX2_falsify_0 : decode cX2_falsify 0 = .ok (.aload_n 0, 1) := by decide +kernel
theorem dX2_falsify_1 : decode cX2_falsify 1 = .ok (.getfield 18, 3) := by decide +kernel
theorem dX2_falsify_4 : decode cX2_falsify 4 = .ok (.iload_n 1, 1) := by decide +kernel
theorem dX2_falsify_5 : decode cX2_falsify 5 = .ok (.invokestatic 65, 3) := by decide +kernel
theorem dX2_falsify_8 : decode cX2_falsify 8 = .ok (.bipush 12, 2) := by decide +kernel
theorem dX2_falsify_10 : decode cX2_falsify 10 = .ok (.if_icmp .lt 5, 3) := by decide +kernel
theorem dX2_falsify_13 : decode cX2_falsify 13 = .ok (.iconst 0, 1) := by decide +kernel
theorem dX2_falsify_14 : decode cX2_falsify 14 = .ok (.ireturn, 1) := by decide +kernel
theorem dX2_falsify_15 : decode cX2_falsify 15 = .ok (.aload_n 0, 1) := by decide +kernel
theorem dX2_falsify_16 : decode cX2_falsify 16 = .ok (.iload_n 1, 1) := by decide +kernel
theorem dX2_falsify_17 : decode cX2_falsify 17 = .ok (.iload_n 2, 1) := by decide +kernel
theorem dX2_falsify_18 : decode cX2_falsify 18 = .ok (.iconst 5, 1) := by decide +kernel
theorem dX2_falsify_19 : decode cX2_falsify 19 = .ok (.iconst 1, 1) := by decide +kernel
theorem dX2_falsify_20 : decode cX2_falsify 20 = .ok (.invokevirtual 126, 3) := by decide +kernel
theorem dX2_falsify_23 : decode cX2_falsify 23 = .ok (.iconst 1, 1) := by decide +kernel
theorem dX2_falsify_24 : decode cX2_falsify 24 = .ok (.ireturn, 1) := by decide +kernel
set_option maxRecDepth 10000 in
theorem wX2_falsify_0 {g : zG} {I : Nat → Nat → Int32} {P : Nat → Nat → Option Nat} {r : Option Value} {h' : zH} {a0 : Nat} {x1 : Int32} {x2 : Int32} (H : zk g a0 2 ∧ ∃ b1, P a0 4 = some b1 ∧ ∃ (w4 : Int32), Cl mX11_got [.ref b1, .int x1] (g, I, P) (some (.int w4)) (g, I, P) ∧ ((w4 < 12) → zk g a0 2 ∧ ∃ (I8 : Nat → Nat → Int32), Cl mX2_add [.ref a0, .int x1, .int x2, .int 5, .int 1] (g, I, P) none (g, I8, P) ∧ r = some (.int 1) ∧ h' = (g, I8, P)) ∧ ((¬ w4 < 12) → r = some (.int 0) ∧ h' = (g, I, P))) : Zt none mX2_falsify 0 0 0 [(0, .ref a0), (1, .int x1), (2, .int x2)] [] (g, I, P) r h' := by
  refine z_aload_n 0 dX2_falsify_0 rfl rfl ?_
  obtain ⟨oe3, b1, e3, H2⟩ := H
  refine z_getP dX2_falsify_1 wf_X2_18 (by decide) (by decide) rfl oe3 (fun q => (by cases q.symm.trans e3)) (fun j q => ?_)
  cases q.symm.trans e3
  refine z_iload_n 1 dX2_falsify_4 rfl ?_
  obtain ⟨w4, c5, H6⟩ := H2
  refine z_stat (As := [.ref b1, .int x1]) (st := []) (r1 := (some (.int w4))) (h1 := (g, I, P)) dX2_falsify_5 kX11_got wm_X2_65 ⟨by decide, by decide⟩ rfl rfl (Nat.le_of_ble_eq_true rfl) (by decide) (by decide) c5 ?_
  refine z_bipush (w := 12) dX2_falsify_8 (by decide) ?_
  refine z_icmp_lt (t := 15) dX2_falsify_10 (by decide) (fun q => ?_) (fun q => ?_)
  · have H7 := H6.1 q
    refine z_aload_n 0 dX2_falsify_15 rfl rfl (z_iload_n 1 dX2_falsify_16 rfl (z_iload_n 2 dX2_falsify_17 rfl (z_iconst (w := 5) dX2_falsify_18 (by decide) (z_iconst (w := 1) dX2_falsify_19 (by decide) ?_))))
    obtain ⟨oc9, I8, c9, H10⟩ := H7
    refine z_virt (As := [.int x1, .int x2, .int 5, .int 1]) (st := []) (r1 := none) (h1 := (g, I8, P)) dX2_falsify_20 kX2_add wm_X2_126 ⟨by decide, by decide⟩ rfl rfl (Nat.le_of_ble_eq_true rfl) (by decide) (by decide) oc9 c9 ?_
    refine z_iconst (w := 1) dX2_falsify_23 (by decide) ?_
    obtain ⟨rfl, rfl⟩ := H10
    exact z_zret dX2_falsify_24 rfl (Or.inr rfl) (by decide) (by decide)
  · have H11 := H6.2 q
    refine z_iconst (w := 0) dX2_falsify_13 (by decide) ?_
    obtain ⟨rfl, rfl⟩ := H11
    exact z_zret dX2_falsify_14 rfl (Or.inl rfl) (by decide) (by decide)
theorem eX2_falsify {g : zG} {I : Nat → Nat → Int32} {P : Nat → Nat → Option Nat} {r : Option Value} {h' : zH} {a0 : Nat} {x1 : Int32} {x2 : Int32} (H : Zt none mX2_falsify 0 0 0 [(0, .ref a0), (1, .int x1), (2, .int x2)] [] (g, I, P) r h') : Cl mX2_falsify [.ref a0, .int x1, .int x2] (g, I, P) r h' := Cl.of (by decide) (Nat.le_of_ble_eq_true rfl) H
theorem dX2_add_0 : decode cX2_add 0 = .ok (.aload_n 0, 1) := by decide +kernel
theorem dX2_add_1 : decode cX2_add 1 = .ok (.getfield 18, 3) := by decide +kernel
theorem dX2_add_4 : decode cX2_add 4 = .ok (.iload_n 1, 1) := by decide +kernel
theorem dX2_add_5 : decode cX2_add 5 = .ok (.invokestatic 65, 3) := by decide +kernel
theorem dX2_add_8 : decode cX2_add 8 = .ok (.istore 5, 2) := by decide +kernel
theorem dX2_add_10 : decode cX2_add 10 = .ok (.iload_n 1, 1) := by decide +kernel
theorem dX2_add_11 : decode cX2_add 11 = .ok (.bipush 12, 2) := by decide +kernel
theorem dX2_add_13 : decode cX2_add 13 = .ok (.imul, 1) := by decide +kernel
theorem dX2_add_14 : decode cX2_add 14 = .ok (.iload 5, 2) := by decide +kernel
theorem dX2_add_16 : decode cX2_add 16 = .ok (.iadd, 1) := by decide +kernel
theorem dX2_add_17 : decode cX2_add 17 = .ok (.istore 6, 2) := by decide +kernel
theorem dX2_add_19 : decode cX2_add 19 = .ok (.aload_n 0, 1) := by decide +kernel
theorem dX2_add_20 : decode cX2_add 20 = .ok (.getfield 31, 3) := by decide +kernel
theorem dX2_add_23 : decode cX2_add 23 = .ok (.iload 6, 2) := by decide +kernel
theorem dX2_add_25 : decode cX2_add 25 = .ok (.iload_n 2, 1) := by decide +kernel
theorem dX2_add_26 : decode cX2_add 26 = .ok (.invokestatic 111, 3) := by decide +kernel
theorem dX2_add_29 : decode cX2_add 29 = .ok (.aload_n 0, 1) := by decide +kernel
theorem dX2_add_30 : decode cX2_add 30 = .ok (.getfield 34, 3) := by decide +kernel
theorem dX2_add_33 : decode cX2_add 33 = .ok (.iload 6, 2) := by decide +kernel
theorem dX2_add_35 : decode cX2_add 35 = .ok (.iload_n 3, 1) := by decide +kernel
theorem dX2_add_36 : decode cX2_add 36 = .ok (.invokestatic 111, 3) := by decide +kernel
theorem dX2_add_39 : decode cX2_add 39 = .ok (.aload_n 0, 1) := by decide +kernel
theorem dX2_add_40 : decode cX2_add 40 = .ok (.getfield 37, 3) := by decide +kernel
theorem dX2_add_43 : decode cX2_add 43 = .ok (.iload 6, 2) := by decide +kernel
theorem dX2_add_45 : decode cX2_add 45 = .ok (.iload 4, 2) := by decide +kernel
theorem dX2_add_47 : decode cX2_add 47 = .ok (.invokestatic 111, 3) := by decide +kernel
theorem dX2_add_50 : decode cX2_add 50 = .ok (.aload_n 0, 1) := by decide +kernel
theorem dX2_add_51 : decode cX2_add 51 = .ok (.getfield 18, 3) := by decide +kernel
theorem dX2_add_54 : decode cX2_add 54 = .ok (.iload_n 1, 1) := by decide +kernel
theorem dX2_add_55 : decode cX2_add 55 = .ok (.iload 5, 2) := by decide +kernel
theorem dX2_add_57 : decode cX2_add 57 = .ok (.iconst 1, 1) := by decide +kernel
theorem dX2_add_58 : decode cX2_add 58 = .ok (.iadd, 1) := by decide +kernel
theorem dX2_add_59 : decode cX2_add 59 = .ok (.invokestatic 111, 3) := by decide +kernel
theorem dX2_add_62 : decode cX2_add 62 = .ok (.aload_n 0, 1) := by decide +kernel
theorem dX2_add_63 : decode cX2_add 63 = .ok (.aload_n 0, 1) := by decide +kernel
theorem dX2_add_64 : decode cX2_add 64 = .ok (.getfield 47, 3) := by decide +kernel
theorem dX2_add_67 : decode cX2_add 67 = .ok (.iload 5, 2) := by decide +kernel
theorem dX2_add_69 : decode cX2_add 69 = .ok (.iconst 1, 1) := by decide +kernel
theorem dX2_add_70 : decode cX2_add 70 = .ok (.iadd, 1) := by decide +kernel
theorem dX2_add_71 : decode cX2_add 71 = .ok (.invokestatic 121, 3) := by decide +kernel
theorem dX2_add_74 : decode cX2_add 74 = .ok (.putfield 47, 3) := by decide +kernel
theorem dX2_add_77 : decode cX2_add 77 = .ok (.return_, 1) := by decide +kernel
set_option maxRecDepth 10000 in
theorem wX2_add_0 {g : zG} {I : Nat → Nat → Int32} {P : Nat → Nat → Option Nat} {r : Option Value} {h' : zH} {a0 : Nat} {x1 : Int32} {x2 : Int32} {x3 : Int32} {x4 : Int32} (H : zk g a0 2 ∧ ∃ b1, P a0 4 = some b1 ∧ ∃ (w4 : Int32), Cl mX11_got [.ref b1, .int x1] (g, I, P) (some (.int w4)) (g, I, P) ∧ zk g a0 2 ∧ ∃ b7, P a0 8 = some b7 ∧ ∃ (I10 : Nat → Nat → Int32), Cl mX11_put [.ref b7, .int ((x1 * 12) + w4), .int x2] (g, I, P) none (g, I10, P) ∧ zk g a0 2 ∧ ∃ b13, P a0 9 = some b13 ∧ ∃ (I16 : Nat → Nat → Int32), Cl mX11_put [.ref b13, .int ((x1 * 12) + w4), .int x3] (g, I10, P) none (g, I16, P) ∧ zk g a0 2 ∧ ∃ b19, P a0 10 = some b19 ∧ ∃ (I22 : Nat → Nat → Int32), Cl mX11_put [.ref b19, .int ((x1 * 12) + w4), .int x4] (g, I16, P) none (g, I22, P) ∧ zk g a0 2 ∧ ∃ b25, P a0 4 = some b25 ∧ ∃ (I28 : Nat → Nat → Int32), Cl mX11_put [.ref b25, .int x1, .int (w4 + 1)] (g, I22, P) none (g, I28, P) ∧ zk g a0 2 ∧ zk g a0 2 ∧ r = none ∧ h' = (g, zU I28 a0 3 (zmmax (I28 a0 3) (w4 + 1)), P)) : Zt none mX2_add 0 0 0 [(0, .ref a0), (1, .int x1), (2, .int x2), (3, .int x3), (4, .int x4)] [] (g, I, P) r h' := by
  refine z_aload_n 0 dX2_add_0 rfl rfl ?_
  obtain ⟨oe3, b1, e3, H2⟩ := H
  refine z_getP dX2_add_1 wf_X2_18 (by decide) (by decide) rfl oe3 (fun q => (by cases q.symm.trans e3)) (fun j q => ?_)
  cases q.symm.trans e3
  refine z_iload_n 1 dX2_add_4 rfl ?_
  obtain ⟨w4, c5, H6⟩ := H2
  refine z_stat (As := [.ref b1, .int x1]) (st := []) (r1 := (some (.int w4))) (h1 := (g, I, P)) dX2_add_5 kX11_got wm_X2_65 ⟨by decide, by decide⟩ rfl rfl (Nat.le_of_ble_eq_true rfl) (by decide) (by decide) c5 ?_
  refine z_istore (lv' := [(5, .int w4), (0, .ref a0), (1, .int x1), (2, .int x2), (3, .int x3), (4, .int x4)]) dX2_add_8 (by decide) rfl (z_iload_n 2 dX2_add_10 rfl (z_bipush (w := 12) dX2_add_11 (by decide) (z_imul dX2_add_13 (z_iload 0 dX2_add_14 rfl (z_iadd dX2_add_16 (z_istore (lv' := [(6, .int ((x1 * 12) + w4)), (5, .int w4), (0, .ref a0), (1, .int x1), (2, .int x2), (3, .int x3), (4, .int x4)]) dX2_add_17 (by decide) rfl (z_aload_n 2 dX2_add_19 rfl rfl ?_)))))))
  obtain ⟨oe9, b7, e9, H8⟩ := H6
  refine z_getP dX2_add_20 wf_X2_31 (by decide) (by decide) rfl oe9 (fun q => (by cases q.symm.trans e9)) (fun j q => ?_)
  cases q.symm.trans e9
  refine z_iload 0 dX2_add_23 rfl (z_iload_n 4 dX2_add_25 rfl ?_)
  obtain ⟨I10, c11, H12⟩ := H8
  refine z_stat (As := [.ref b7, .int ((x1 * 12) + w4), .int x2]) (st := []) (r1 := none) (h1 := (g, I10, P)) dX2_add_26 kX11_put wm_X2_111 ⟨by decide, by decide⟩ rfl rfl (Nat.le_of_ble_eq_true rfl) (by decide) (by decide) c11 ?_
  refine z_aload_n 2 dX2_add_29 rfl rfl ?_
  obtain ⟨oe15, b13, e15, H14⟩ := H12
  refine z_getP dX2_add_30 wf_X2_34 (by decide) (by decide) rfl oe15 (fun q => (by cases q.symm.trans e15)) (fun j q => ?_)
  cases q.symm.trans e15
  refine z_iload 0 dX2_add_33 rfl (z_iload_n 5 dX2_add_35 rfl ?_)
  obtain ⟨I16, c17, H18⟩ := H14
  refine z_stat (As := [.ref b13, .int ((x1 * 12) + w4), .int x3]) (st := []) (r1 := none) (h1 := (g, I16, P)) dX2_add_36 kX11_put wm_X2_111 ⟨by decide, by decide⟩ rfl rfl (Nat.le_of_ble_eq_true rfl) (by decide) (by decide) c17 ?_
  refine z_aload_n 2 dX2_add_39 rfl rfl ?_
  obtain ⟨oe21, b19, e21, H20⟩ := H18
  refine z_getP dX2_add_40 wf_X2_37 (by decide) (by decide) rfl oe21 (fun q => (by cases q.symm.trans e21)) (fun j q => ?_)
  cases q.symm.trans e21
  refine z_iload 0 dX2_add_43 rfl (z_iload 6 dX2_add_45 rfl ?_)
  obtain ⟨I22, c23, H24⟩ := H20
  refine z_stat (As := [.ref b19, .int ((x1 * 12) + w4), .int x4]) (st := []) (r1 := none) (h1 := (g, I22, P)) dX2_add_47 kX11_put wm_X2_111 ⟨by decide, by decide⟩ rfl rfl (Nat.le_of_ble_eq_true rfl) (by decide) (by decide) c23 ?_
  refine z_aload_n 2 dX2_add_50 rfl rfl ?_
  obtain ⟨oe27, b25, e27, H26⟩ := H24
  refine z_getP dX2_add_51 wf_X2_18 (by decide) (by decide) rfl oe27 (fun q => (by cases q.symm.trans e27)) (fun j q => ?_)
  cases q.symm.trans e27
  refine z_iload_n 3 dX2_add_54 rfl (z_iload 1 dX2_add_55 rfl (z_iconst (w := 1) dX2_add_57 (by decide) (z_iadd dX2_add_58 ?_)))
  obtain ⟨I28, c29, H30⟩ := H26
  refine z_stat (As := [.ref b25, .int x1, .int (w4 + 1)]) (st := []) (r1 := none) (h1 := (g, I28, P)) dX2_add_59 kX11_put wm_X2_111 ⟨by decide, by decide⟩ rfl rfl (Nat.le_of_ble_eq_true rfl) (by decide) (by decide) c29 ?_
  refine z_aload_n 2 dX2_add_62 rfl rfl (z_aload_n 2 dX2_add_63 rfl rfl (z_getI dX2_add_64 wf_X2_47 (by decide) (by decide) rfl H30.1 (z_iload 1 dX2_add_67 rfl (z_iconst (w := 1) dX2_add_69 (by decide) (z_iadd dX2_add_70 (z_mmax dX2_add_71 wm_X2_121 (by decide) (Nat.le_of_ble_eq_true rfl) (by decide) (by decide) w_mxS w_mI w_mxC (z_putI (g := g) (I := I28) (Q := P) dX2_add_74 wf_X2_47 (by decide) (by decide) rfl (Or.inl rfl) (zfit_int rfl) H30.2.1 ?_)))))))
  obtain ⟨rfl, rfl⟩ := H30.2.2
  exact z_vret dX2_add_77 rfl (by decide) (by decide)
theorem eX2_add {g : zG} {I : Nat → Nat → Int32} {P : Nat → Nat → Option Nat} {r : Option Value} {h' : zH} {a0 : Nat} {x1 : Int32} {x2 : Int32} {x3 : Int32} {x4 : Int32} (H : Zt none mX2_add 0 0 0 [(0, .ref a0), (1, .int x1), (2, .int x2), (3, .int x3), (4, .int x4)] [] (g, I, P) r h') : Cl mX2_add [.ref a0, .int x1, .int x2, .int x3, .int x4] (g, I, P) r h' := Cl.of (by decide) (Nat.le_of_ble_eq_true rfl) H
theorem dX2_overgrow_0 : decode cX2_overgrow 0 = .ok (.aload_n 0, 1) := by decide +kernel
theorem dX2_overgrow_1 : decode cX2_overgrow 1 = .ok (.iload_n 1, 1) := by decide +kernel
theorem dX2_overgrow_2 : decode cX2_overgrow 2 = .ok (.aload_n 0, 1) := by decide +kernel
theorem dX2_overgrow_3 : decode cX2_overgrow 3 = .ok (.iload_n 1, 1) := by decide +kernel
theorem dX2_overgrow_4 : decode cX2_overgrow 4 = .ok (.invokevirtual 115, 3) := by decide +kernel
theorem dX2_overgrow_7 : decode cX2_overgrow 7 = .ok (.invokevirtual 118, 3) := by decide +kernel
theorem dX2_overgrow_10 : decode cX2_overgrow 10 = .ok (.istore_n 2, 1) := by decide +kernel
theorem dX2_overgrow_11 : decode cX2_overgrow 11 = .ok (.iconst 0, 1) := by decide +kernel
theorem dX2_overgrow_12 : decode cX2_overgrow 12 = .ok (.istore_n 3, 1) := by decide +kernel
theorem dX2_overgrow_13 : decode cX2_overgrow 13 = .ok (.iload_n 3, 1) := by decide +kernel
theorem dX2_overgrow_14 : decode cX2_overgrow 14 = .ok (.aload_n 0, 1) := by decide +kernel
theorem dX2_overgrow_15 : decode cX2_overgrow 15 = .ok (.getfield 12, 3) := by decide +kernel
theorem dX2_overgrow_18 : decode cX2_overgrow 18 = .ok (.getfield 130, 3) := by decide +kernel
theorem dX2_overgrow_21 : decode cX2_overgrow 21 = .ok (.if_icmp .ge 78, 3) := by decide +kernel
theorem dX2_overgrow_24 : decode cX2_overgrow 24 = .ok (.iload_n 2, 1) := by decide +kernel
theorem dX2_overgrow_25 : decode cX2_overgrow 25 = .ok (.iload_n 3, 1) := by decide +kernel
theorem dX2_overgrow_26 : decode cX2_overgrow 26 = .ok (.invokestatic 92, 3) := by decide +kernel
theorem dX2_overgrow_29 : decode cX2_overgrow 29 = .ok (.ifCond .eq 64, 3) := by decide +kernel
theorem dX2_overgrow_32 : decode cX2_overgrow 32 = .ok (.aload_n 0, 1) := by decide +kernel
theorem dX2_overgrow_33 : decode cX2_overgrow 33 = .ok (.getfield 12, 3) := by decide +kernel
theorem dX2_overgrow_36 : decode cX2_overgrow 36 = .ok (.iload_n 3, 1) := by decide +kernel
theorem dX2_overgrow_37 : decode cX2_overgrow 37 = .ok (.invokevirtual 133, 3) := by decide +kernel
theorem dX2_overgrow_40 : decode cX2_overgrow 40 = .ok (.aload_n 0, 1) := by decide +kernel
theorem dX2_overgrow_41 : decode cX2_overgrow 41 = .ok (.iload_n 1, 1) := by decide +kernel
theorem dX2_overgrow_42 : decode cX2_overgrow 42 = .ok (.invokevirtual 115, 3) := by decide +kernel
theorem dX2_overgrow_45 : decode cX2_overgrow 45 = .ok (.if_icmp .ne 48, 3) := by decide +kernel
theorem dX2_overgrow_48 : decode cX2_overgrow 48 = .ok (.aload_n 0, 1) := by decide +kernel
theorem dX2_overgrow_49 : decode cX2_overgrow 49 = .ok (.getfield 22, 3) := by decide +kernel
theorem dX2_overgrow_52 : decode cX2_overgrow 52 = .ok (.iload_n 1, 1) := by decide +kernel
theorem dX2_overgrow_53 : decode cX2_overgrow 53 = .ok (.aload_n 0, 1) := by decide +kernel
theorem dX2_overgrow_54 : decode cX2_overgrow 54 = .ok (.getfield 18, 3) := by decide +kernel
theorem dX2_overgrow_57 : decode cX2_overgrow 57 = .ok (.iload_n 1, 1) := by decide +kernel
theorem dX2_overgrow_58 : decode cX2_overgrow 58 = .ok (.invokestatic 65, 3) := by decide +kernel
theorem dX2_overgrow_61 : decode cX2_overgrow 61 = .ok (.invokestatic 111, 3) := by decide +kernel
theorem dX2_overgrow_64 : decode cX2_overgrow 64 = .ok (.aload_n 0, 1) := by decide +kernel
theorem dX2_overgrow_65 : decode cX2_overgrow 65 = .ok (.getfield 25, 3) := by decide +kernel
theorem dX2_overgrow_68 : decode cX2_overgrow 68 = .ok (.iload_n 1, 1) := by decide +kernel
theorem dX2_overgrow_69 : decode cX2_overgrow 69 = .ok (.aload_n 0, 1) := by decide +kernel
theorem dX2_overgrow_70 : decode cX2_overgrow 70 = .ok (.getfield 25, 3) := by decide +kernel
theorem dX2_overgrow_73 : decode cX2_overgrow 73 = .ok (.iload_n 1, 1) := by decide +kernel
theorem dX2_overgrow_74 : decode cX2_overgrow 74 = .ok (.invokestatic 65, 3) := by decide +kernel
theorem dX2_overgrow_77 : decode cX2_overgrow 77 = .ok (.iconst 1, 1) := by decide +kernel
theorem dX2_overgrow_78 : decode cX2_overgrow 78 = .ok (.iadd, 1) := by decide +kernel
theorem dX2_overgrow_79 : decode cX2_overgrow 79 = .ok (.invokestatic 111, 3) := by decide +kernel
theorem dX2_overgrow_82 : decode cX2_overgrow 82 = .ok (.aload_n 0, 1) := by decide +kernel
theorem dX2_overgrow_83 : decode cX2_overgrow 83 = .ok (.getfield 28, 3) := by decide +kernel
theorem dX2_overgrow_86 : decode cX2_overgrow 86 = .ok (.iload_n 1, 1) := by decide +kernel
theorem dX2_overgrow_87 : decode cX2_overgrow 87 = .ok (.iload_n 3, 1) := by decide +kernel
theorem dX2_overgrow_88 : decode cX2_overgrow 88 = .ok (.invokestatic 111, 3) := by decide +kernel
theorem dX2_overgrow_91 : decode cX2_overgrow 91 = .ok (.iconst 1, 1) := by decide +kernel
theorem dX2_overgrow_92 : decode cX2_overgrow 92 = .ok (.ireturn, 1) := by decide +kernel
theorem dX2_overgrow_93 : decode cX2_overgrow 93 = .ok (.iinc 3 1, 3) := by decide +kernel
theorem dX2_overgrow_96 : decode cX2_overgrow 96 = .ok (.goto (-83), 3) := by decide +kernel
theorem dX2_overgrow_99 : decode cX2_overgrow 99 = .ok (.iconst 0, 1) := by decide +kernel
theorem dX2_overgrow_100 : decode cX2_overgrow 100 = .ok (.ireturn, 1) := by decide +kernel
set_option maxRecDepth 10000 in
theorem wX2_overgrow_0 {g : zG} {I : Nat → Nat → Int32} {P : Nat → Nat → Option Nat} {r : Option Value} {h' : zH} {a0 : Nat} {x1 : Int32} (H : zk g a0 2 ∧ ∃ (w1 : Int32), Cl mX2_open [.ref a0, .int x1] (g, I, P) (some (.int w1)) (g, I, P) ∧ zk g a0 2 ∧ ∃ (w4 : Int32), Cl mX2_fitting [.ref a0, .int x1, .int w1] (g, I, P) (some (.int w4)) (g, I, P) ∧ Zt none mX2_overgrow 0 0 13 [(0, .ref a0), (1, .int x1), (2, .int w4), (3, .int 0)] [] (g, I, P) r h') : Zt none mX2_overgrow 0 0 0 [(0, .ref a0), (1, .int x1)] [] (g, I, P) r h' := by
  refine z_aload_n 0 dX2_overgrow_0 rfl rfl (z_iload_n 1 dX2_overgrow_1 rfl (z_aload_n 0 dX2_overgrow_2 rfl rfl (z_iload_n 1 dX2_overgrow_3 rfl ?_)))
  obtain ⟨oc2, w1, c2, H3⟩ := H
  refine z_virt (As := [.int x1]) (st := [.int x1, .ref a0]) (r1 := (some (.int w1))) (h1 := (g, I, P)) dX2_overgrow_4 kX2_open wm_X2_115 ⟨by decide, by decide⟩ rfl rfl (Nat.le_of_ble_eq_true rfl) (by decide) (by decide) oc2 c2 ?_
  obtain ⟨oc5, w4, c5, H6⟩ := H3
  refine z_virt (As := [.int x1, .int w1]) (st := []) (r1 := (some (.int w4))) (h1 := (g, I, P)) dX2_overgrow_7 kX2_fitting wm_X2_118 ⟨by decide, by decide⟩ rfl rfl (Nat.le_of_ble_eq_true rfl) (by decide) (by decide) oc5 c5 ?_
  refine z_istore_n (lv' := [(2, .int w4), (0, .ref a0), (1, .int x1)]) dX2_overgrow_10 (by decide) rfl (z_iconst (w := 0) dX2_overgrow_11 (by decide) (z_istore_n (lv' := [(3, .int 0), (2, .int w4), (0, .ref a0), (1, .int x1)]) dX2_overgrow_12 (by decide) rfl ?_))
  exact z_less [2, 3, 1, 0] rfl H6
theorem eX2_overgrow {g : zG} {I : Nat → Nat → Int32} {P : Nat → Nat → Option Nat} {r : Option Value} {h' : zH} {a0 : Nat} {x1 : Int32} (H : Zt none mX2_overgrow 0 0 0 [(0, .ref a0), (1, .int x1)] [] (g, I, P) r h') : Cl mX2_overgrow [.ref a0, .int x1] (g, I, P) r h' := Cl.of (by decide) (Nat.le_of_ble_eq_true rfl) H
set_option maxRecDepth 10000 in
theorem wX2_overgrow_13 {g : zG} {I : Nat → Nat → Int32} {P : Nat → Nat → Option Nat} {r : Option Value} {h' : zH} {a0 : Nat} {x1 : Int32} {x2 : Int32} {x3 : Int32} (H : zk g a0 2 ∧ ∃ b1, P a0 0 = some b1 ∧ zk g b1 3 ∧ ((I b1 1 ≤ x3) → r = some (.int 0) ∧ h' = (g, I, P)) ∧ ((¬ I b1 1 ≤ x3) → ∃ (w6 : Int32), Cl mX11_has [.int x2, .int x3] (g, I, P) (some (.int w6)) (g, I, P) ∧ ((w6 = 0) → Zt none mX2_overgrow 0 0 13 [(0, .ref a0), (1, .int x1), (2, .int x2), (3, .int (x3 + 1))] [] (g, I, P) r h') ∧ ((¬ w6 = 0) → zk g a0 2 ∧ ∃ b11, P a0 0 = some b11 ∧ zk g b11 3 ∧ ∃ (w14 : Int32), Cl mX3_sizeOf [.ref b11, .int x3] (g, I, P) (some (.int w14)) (g, I, P) ∧ zk g a0 2 ∧ ∃ (w17 : Int32), Cl mX2_open [.ref a0, .int x1] (g, I, P) (some (.int w17)) (g, I, P) ∧ ((¬ w14 = w17) → Zt none mX2_overgrow 0 0 13 [(0, .ref a0), (1, .int x1), (2, .int x2), (3, .int (x3 + 1))] [] (g, I, P) r h') ∧ ((w14 = w17) → zk g a0 2 ∧ ∃ b22, P a0 5 = some b22 ∧ zk g a0 2 ∧ ∃ b25, P a0 4 = some b25 ∧ ∃ (w28 : Int32), Cl mX11_got [.ref b25, .int x1] (g, I, P) (some (.int w28)) (g, I, P) ∧ ∃ (I31 : Nat → Nat → Int32), Cl mX11_put [.ref b22, .int x1, .int w28] (g, I, P) none (g, I31, P) ∧ zk g a0 2 ∧ ∃ b34, P a0 6 = some b34 ∧ zk g a0 2 ∧ ∃ b37, P a0 6 = some b37 ∧ ∃ (w40 : Int32), Cl mX11_got [.ref b37, .int x1] (g, I31, P) (some (.int w40)) (g, I31, P) ∧ ∃ (I43 : Nat → Nat → Int32), Cl mX11_put [.ref b34, .int x1, .int (w40 + 1)] (g, I31, P) none (g, I43, P) ∧ zk g a0 2 ∧ ∃ b46, P a0 7 = some b46 ∧ ∃ (I49 : Nat → Nat → Int32), Cl mX11_put [.ref b46, .int x1, .int x3] (g, I43, P) none (g, I49, P) ∧ r = some (.int 1) ∧ h' = (g, I49, P))))) : Zt none mX2_overgrow 0 0 13 [(0, .ref a0), (1, .int x1), (2, .int x2), (3, .int x3)] [] (g, I, P) r h' := by
  refine z_iload_n 3 dX2_overgrow_13 rfl (z_aload_n 0 dX2_overgrow_14 rfl rfl ?_)
  obtain ⟨oe3, b1, e3, H2⟩ := H
  refine z_getP dX2_overgrow_15 wf_X2_12 (by decide) (by decide) rfl oe3 (fun q => (by cases q.symm.trans e3)) (fun j q => ?_)
  cases q.symm.trans e3
  refine z_getI dX2_overgrow_18 wf_X2_130 (by decide) (by decide) rfl H2.1 ?_
  refine z_icmp_ge (t := 99) dX2_overgrow_21 (by decide) (fun q => ?_) (fun q => ?_)
  · have H4 := H2.2.1 q
    refine z_iconst (w := 0) dX2_overgrow_99 (by decide) ?_
    obtain ⟨rfl, rfl⟩ := H4
    exact z_zret dX2_overgrow_100 rfl (Or.inl rfl) (by decide) (by decide)
  · have H5 := H2.2.2 q
    refine z_iload_n 2 dX2_overgrow_24 rfl (z_iload_n 3 dX2_overgrow_25 rfl ?_)
    obtain ⟨w6, c7, H8⟩ := H5
    refine z_stat (As := [.int x2, .int x3]) (st := []) (r1 := (some (.int w6))) (h1 := (g, I, P)) dX2_overgrow_26 kX11_has wm_X2_92 ⟨by decide, by decide⟩ rfl rfl (Nat.le_of_ble_eq_true rfl) (by decide) (by decide) c7 ?_
    refine z_if_eq (t := 93) dX2_overgrow_29 (by decide) (fun q => ?_) (fun q => ?_)
    · have H9 := H8.1 q
      refine z_iinc (y := x3 + 1) (lv' := [(3, .int (x3 + 1)), (0, .ref a0), (1, .int x1), (2, .int x2)]) 3 dX2_overgrow_93 rfl rfl (by decide) rfl (z_goto (t := 13) dX2_overgrow_96 (by decide) ?_)
      exact z_less [1, 2, 3, 0] rfl H9
    · have H10 := H8.2 q
      refine z_aload_n 0 dX2_overgrow_32 rfl rfl ?_
      obtain ⟨oe13, b11, e13, H12⟩ := H10
      refine z_getP dX2_overgrow_33 wf_X2_12 (by decide) (by decide) rfl oe13 (fun q => (by cases q.symm.trans e13)) (fun j q => ?_)
      cases q.symm.trans e13
      refine z_iload_n 3 dX2_overgrow_36 rfl ?_
      obtain ⟨oc15, w14, c15, H16⟩ := H12
      refine z_virt (As := [.int x3]) (st := []) (r1 := (some (.int w14))) (h1 := (g, I, P)) dX2_overgrow_37 kX3_sizeOf wm_X2_133 ⟨by decide, by decide⟩ rfl rfl (Nat.le_of_ble_eq_true rfl) (by decide) (by decide) oc15 c15 ?_
      refine z_aload_n 0 dX2_overgrow_40 rfl rfl (z_iload_n 1 dX2_overgrow_41 rfl ?_)
      obtain ⟨oc18, w17, c18, H19⟩ := H16
      refine z_virt (As := [.int x1]) (st := [.int w14]) (r1 := (some (.int w17))) (h1 := (g, I, P)) dX2_overgrow_42 kX2_open wm_X2_115 ⟨by decide, by decide⟩ rfl rfl (Nat.le_of_ble_eq_true rfl) (by decide) (by decide) oc18 c18 ?_
      refine z_icmp_ne (t := 93) dX2_overgrow_45 (by decide) (fun q => ?_) (fun q => ?_)
      · have H20 := H19.1 q
        refine z_iinc (y := x3 + 1) (lv' := [(3, .int (x3 + 1)), (0, .ref a0), (1, .int x1), (2, .int x2)]) 3 dX2_overgrow_93 rfl rfl (by decide) rfl (z_goto (t := 13) dX2_overgrow_96 (by decide) ?_)
        exact z_less [1, 2, 3, 0] rfl H20
      · have H21 := H19.2 q
        refine z_aload_n 0 dX2_overgrow_48 rfl rfl ?_
        obtain ⟨oe24, b22, e24, H23⟩ := H21
        refine z_getP dX2_overgrow_49 wf_X2_22 (by decide) (by decide) rfl oe24 (fun q => (by cases q.symm.trans e24)) (fun j q => ?_)
        cases q.symm.trans e24
        refine z_iload_n 1 dX2_overgrow_52 rfl (z_aload_n 0 dX2_overgrow_53 rfl rfl ?_)
        obtain ⟨oe27, b25, e27, H26⟩ := H23
        refine z_getP dX2_overgrow_54 wf_X2_18 (by decide) (by decide) rfl oe27 (fun q => (by cases q.symm.trans e27)) (fun j q => ?_)
        cases q.symm.trans e27
        refine z_iload_n 1 dX2_overgrow_57 rfl ?_
        obtain ⟨w28, c29, H30⟩ := H26
        refine z_stat (As := [.ref b25, .int x1]) (st := [.int x1, .ref b22]) (r1 := (some (.int w28))) (h1 := (g, I, P)) dX2_overgrow_58 kX11_got wm_X2_65 ⟨by decide, by decide⟩ rfl rfl (Nat.le_of_ble_eq_true rfl) (by decide) (by decide) c29 ?_
        obtain ⟨I31, c32, H33⟩ := H30
        refine z_stat (As := [.ref b22, .int x1, .int w28]) (st := []) (r1 := none) (h1 := (g, I31, P)) dX2_overgrow_61 kX11_put wm_X2_111 ⟨by decide, by decide⟩ rfl rfl (Nat.le_of_ble_eq_true rfl) (by decide) (by decide) c32 ?_
        refine z_aload_n 0 dX2_overgrow_64 rfl rfl ?_
        obtain ⟨oe36, b34, e36, H35⟩ := H33
        refine z_getP dX2_overgrow_65 wf_X2_25 (by decide) (by decide) rfl oe36 (fun q => (by cases q.symm.trans e36)) (fun j q => ?_)
        cases q.symm.trans e36
        refine z_iload_n 1 dX2_overgrow_68 rfl (z_aload_n 0 dX2_overgrow_69 rfl rfl ?_)
        obtain ⟨oe39, b37, e39, H38⟩ := H35
        refine z_getP dX2_overgrow_70 wf_X2_25 (by decide) (by decide) rfl oe39 (fun q => (by cases q.symm.trans e39)) (fun j q => ?_)
        cases q.symm.trans e39
        refine z_iload_n 1 dX2_overgrow_73 rfl ?_
        obtain ⟨w40, c41, H42⟩ := H38
        refine z_stat (As := [.ref b37, .int x1]) (st := [.int x1, .ref b34]) (r1 := (some (.int w40))) (h1 := (g, I31, P)) dX2_overgrow_74 kX11_got wm_X2_65 ⟨by decide, by decide⟩ rfl rfl (Nat.le_of_ble_eq_true rfl) (by decide) (by decide) c41 ?_
        refine z_iconst (w := 1) dX2_overgrow_77 (by decide) (z_iadd dX2_overgrow_78 ?_)
        obtain ⟨I43, c44, H45⟩ := H42
        refine z_stat (As := [.ref b34, .int x1, .int (w40 + 1)]) (st := []) (r1 := none) (h1 := (g, I43, P)) dX2_overgrow_79 kX11_put wm_X2_111 ⟨by decide, by decide⟩ rfl rfl (Nat.le_of_ble_eq_true rfl) (by decide) (by decide) c44 ?_
        refine z_aload_n 0 dX2_overgrow_82 rfl rfl ?_
        obtain ⟨oe48, b46, e48, H47⟩ := H45
        refine z_getP dX2_overgrow_83 wf_X2_28 (by decide) (by decide) rfl oe48 (fun q => (by cases q.symm.trans e48)) (fun j q => ?_)
        cases q.symm.trans e48
        refine z_iload_n 1 dX2_overgrow_86 rfl (z_iload_n 3 dX2_overgrow_87 rfl ?_)
        obtain ⟨I49, c50, H51⟩ := H47
        refine z_stat (As := [.ref b46, .int x1, .int x3]) (st := []) (r1 := none) (h1 := (g, I49, P)) dX2_overgrow_88 kX11_put wm_X2_111 ⟨by decide, by decide⟩ rfl rfl (Nat.le_of_ble_eq_true rfl) (by decide) (by decide) c50 ?_
        refine z_iconst (w := 1) dX2_overgrow_91 (by decide) ?_
        obtain ⟨rfl, rfl⟩ := H51
        exact z_zret dX2_overgrow_92 rfl (Or.inr rfl) (by decide) (by decide)
theorem dX2_chipOff_0 : decode cX2_chipOff 0 = .ok (.aload_n 0, 1) := by decide +kernel
theorem dX2_chipOff_1 : decode cX2_chipOff 1 = .ok (.iload_n 1, 1) := by decide +kernel
theorem dX2_chipOff_2 : decode cX2_chipOff 2 = .ok (.invokevirtual 115, 3) := by decide +kernel
theorem dX2_chipOff_5 : decode cX2_chipOff 5 = .ok (.iconst 1, 1) := by decide +kernel
theorem dX2_chipOff_6 : decode cX2_chipOff 6 = .ok (.if_icmp .ge 5, 3) := by decide +kernel
theorem dX2_chipOff_9 : decode cX2_chipOff 9 = .ok (.iconst 0, 1) := by decide +kernel
theorem dX2_chipOff_10 : decode cX2_chipOff 10 = .ok (.ireturn, 1) := by decide +kernel
theorem dX2_chipOff_11 : decode cX2_chipOff 11 = .ok (.aload_n 0, 1) := by decide +kernel
theorem dX2_chipOff_12 : decode cX2_chipOff 12 = .ok (.getfield 18, 3) := by decide +kernel
theorem dX2_chipOff_15 : decode cX2_chipOff 15 = .ok (.iload_n 1, 1) := by decide +kernel
theorem dX2_chipOff_16 : decode cX2_chipOff 16 = .ok (.aload_n 0, 1) := by decide +kernel
theorem dX2_chipOff_17 : decode cX2_chipOff 17 = .ok (.getfield 18, 3) := by decide +kernel
theorem dX2_chipOff_20 : decode cX2_chipOff 20 = .ok (.iload_n 1, 1) := by decide +kernel
theorem dX2_chipOff_21 : decode cX2_chipOff 21 = .ok (.invokestatic 65, 3) := by decide +kernel
theorem dX2_chipOff_24 : decode cX2_chipOff 24 = .ok (.iconst 1, 1) := by decide +kernel
theorem dX2_chipOff_25 : decode cX2_chipOff 25 = .ok (.isub, 1) := by decide +kernel
theorem dX2_chipOff_26 : decode cX2_chipOff 26 = .ok (.invokestatic 111, 3) := by decide +kernel
theorem dX2_chipOff_29 : decode cX2_chipOff 29 = .ok (.iconst 1, 1) := by decide +kernel
theorem dX2_chipOff_30 : decode cX2_chipOff 30 = .ok (.ireturn, 1) := by decide +kernel
set_option maxRecDepth 10000 in
theorem wX2_chipOff_0 {g : zG} {I : Nat → Nat → Int32} {P : Nat → Nat → Option Nat} {r : Option Value} {h' : zH} {a0 : Nat} {x1 : Int32} (H : zk g a0 2 ∧ ∃ (w1 : Int32), Cl mX2_open [.ref a0, .int x1] (g, I, P) (some (.int w1)) (g, I, P) ∧ ((1 ≤ w1) → zk g a0 2 ∧ ∃ b5, P a0 4 = some b5 ∧ zk g a0 2 ∧ ∃ b8, P a0 4 = some b8 ∧ ∃ (w11 : Int32), Cl mX11_got [.ref b8, .int x1] (g, I, P) (some (.int w11)) (g, I, P) ∧ ∃ (I14 : Nat → Nat → Int32), Cl mX11_put [.ref b5, .int x1, .int (w11 - 1)] (g, I, P) none (g, I14, P) ∧ r = some (.int 1) ∧ h' = (g, I14, P)) ∧ ((¬ 1 ≤ w1) → r = some (.int 0) ∧ h' = (g, I, P))) : Zt none mX2_chipOff 0 0 0 [(0, .ref a0), (1, .int x1)] [] (g, I, P) r h' := by
  refine z_aload_n 0 dX2_chipOff_0 rfl rfl (z_iload_n 1 dX2_chipOff_1 rfl ?_)
  obtain ⟨oc2, w1, c2, H3⟩ := H
  refine z_virt (As := [.int x1]) (st := []) (r1 := (some (.int w1))) (h1 := (g, I, P)) dX2_chipOff_2 kX2_open wm_X2_115 ⟨by decide, by decide⟩ rfl rfl (Nat.le_of_ble_eq_true rfl) (by decide) (by decide) oc2 c2 ?_
  refine z_iconst (w := 1) dX2_chipOff_5 (by decide) ?_
  refine z_icmp_ge (t := 11) dX2_chipOff_6 (by decide) (fun q => ?_) (fun q => ?_)
  · have H4 := H3.1 q
    refine z_aload_n 0 dX2_chipOff_11 rfl rfl ?_
    obtain ⟨oe7, b5, e7, H6⟩ := H4
    refine z_getP dX2_chipOff_12 wf_X2_18 (by decide) (by decide) rfl oe7 (fun q => (by cases q.symm.trans e7)) (fun j q => ?_)
    cases q.symm.trans e7
    refine z_iload_n 1 dX2_chipOff_15 rfl (z_aload_n 0 dX2_chipOff_16 rfl rfl ?_)
    obtain ⟨oe10, b8, e10, H9⟩ := H6
    refine z_getP dX2_chipOff_17 wf_X2_18 (by decide) (by decide) rfl oe10 (fun q => (by cases q.symm.trans e10)) (fun j q => ?_)
    cases q.symm.trans e10
    refine z_iload_n 1 dX2_chipOff_20 rfl ?_
    obtain ⟨w11, c12, H13⟩ := H9
    refine z_stat (As := [.ref b8, .int x1]) (st := [.int x1, .ref b5]) (r1 := (some (.int w11))) (h1 := (g, I, P)) dX2_chipOff_21 kX11_got wm_X2_65 ⟨by decide, by decide⟩ rfl rfl (Nat.le_of_ble_eq_true rfl) (by decide) (by decide) c12 ?_
    refine z_iconst (w := 1) dX2_chipOff_24 (by decide) (z_isub dX2_chipOff_25 ?_)
    obtain ⟨I14, c15, H16⟩ := H13
    refine z_stat (As := [.ref b5, .int x1, .int (w11 - 1)]) (st := []) (r1 := none) (h1 := (g, I14, P)) dX2_chipOff_26 kX11_put wm_X2_111 ⟨by decide, by decide⟩ rfl rfl (Nat.le_of_ble_eq_true rfl) (by decide) (by decide) c15 ?_
    refine z_iconst (w := 1) dX2_chipOff_29 (by decide) ?_
    obtain ⟨rfl, rfl⟩ := H16
    exact z_zret dX2_chipOff_30 rfl (Or.inr rfl) (by decide) (by decide)
  · have H17 := H3.2 q
    refine z_iconst (w := 0) dX2_chipOff_9 (by decide) ?_
    obtain ⟨rfl, rfl⟩ := H17
    exact z_zret dX2_chipOff_10 rfl (Or.inl rfl) (by decide) (by decide)
theorem eX2_chipOff {g : zG} {I : Nat → Nat → Int32} {P : Nat → Nat → Option Nat} {r : Option Value} {h' : zH} {a0 : Nat} {x1 : Int32} (H : Zt none mX2_chipOff 0 0 0 [(0, .ref a0), (1, .int x1)] [] (g, I, P) r h') : Cl mX2_chipOff [.ref a0, .int x1] (g, I, P) r h' := Cl.of (by decide) (Nat.le_of_ble_eq_true rfl) H
theorem dX2_fitting_0 : decode cX2_fitting 0 = .ok (.iload_n 1, 1) := by decide +kernel
theorem dX2_fitting_1 : decode cX2_fitting 1 = .ok (.bipush 12, 2) := by decide +kernel
theorem dX2_fitting_3 : decode cX2_fitting 3 = .ok (.imul, 1) := by decide +kernel
theorem dX2_fitting_4 : decode cX2_fitting 4 = .ok (.aload_n 0, 1) := by decide +kernel
theorem dX2_fitting_5 : decode cX2_fitting 5 = .ok (.getfield 22, 3) := by decide +kernel
theorem dX2_fitting_8 : decode cX2_fitting 8 = .ok (.iload_n 1, 1) := by decide +kernel
theorem dX2_fitting_9 : decode cX2_fitting 9 = .ok (.invokestatic 65, 3) := by decide +kernel
theorem dX2_fitting_12 : decode cX2_fitting 12 = .ok (.iadd, 1) := by decide +kernel
theorem dX2_fitting_13 : decode cX2_fitting 13 = .ok (.istore_n 3, 1) := by decide +kernel
theorem dX2_fitting_14 : decode cX2_fitting 14 = .ok (.aload_n 0, 1) := by decide +kernel
theorem dX2_fitting_15 : decode cX2_fitting 15 = .ok (.getfield 12, 3) := by decide +kernel
theorem dX2_fitting_18 : decode cX2_fitting 18 = .ok (.aload_n 0, 1) := by decide +kernel
theorem dX2_fitting_19 : decode cX2_fitting 19 = .ok (.getfield 31, 3) := by decide +kernel
theorem dX2_fitting_22 : decode cX2_fitting 22 = .ok (.iload_n 3, 1) := by decide +kernel
theorem dX2_fitting_23 : decode cX2_fitting 23 = .ok (.iload_n 2, 1) := by decide +kernel
theorem dX2_fitting_24 : decode cX2_fitting 24 = .ok (.invokevirtual 136, 3) := by decide +kernel
theorem dX2_fitting_27 : decode cX2_fitting 27 = .ok (.aload_n 0, 1) := by decide +kernel
theorem dX2_fitting_28 : decode cX2_fitting 28 = .ok (.getfield 12, 3) := by decide +kernel
theorem dX2_fitting_31 : decode cX2_fitting 31 = .ok (.aload_n 0, 1) := by decide +kernel
theorem dX2_fitting_32 : decode cX2_fitting 32 = .ok (.getfield 28, 3) := by decide +kernel
theorem dX2_fitting_35 : decode cX2_fitting 35 = .ok (.iload_n 1, 1) := by decide +kernel
theorem dX2_fitting_36 : decode cX2_fitting 36 = .ok (.invokestatic 65, 3) := by decide +kernel
theorem dX2_fitting_39 : decode cX2_fitting 39 = .ok (.invokevirtual 140, 3) := by decide +kernel
theorem dX2_fitting_42 : decode cX2_fitting 42 = .ok (.iand, 1) := by decide +kernel
theorem dX2_fitting_43 : decode cX2_fitting 43 = .ok (.ireturn, 1) := by decide +kernel
set_option maxRecDepth 10000 in
theorem wX2_fitting_0 {g : zG} {I : Nat → Nat → Int32} {P : Nat → Nat → Option Nat} {r : Option Value} {h' : zH} {a0 : Nat} {x1 : Int32} {x2 : Int32} (H : zk g a0 2 ∧ ∃ b1, P a0 5 = some b1 ∧ ∃ (w4 : Int32), Cl mX11_got [.ref b1, .int x1] (g, I, P) (some (.int w4)) (g, I, P) ∧ zk g a0 2 ∧ ∃ b7, P a0 0 = some b7 ∧ zk g a0 2 ∧ ∃ b10, P a0 8 = some b10 ∧ zk g b7 3 ∧ ∃ (w13 : Int32), Cl mX3_beginningWith [.ref b7, .ref b10, .int ((x1 * 12) + w4), .int x2] (g, I, P) (some (.int w13)) (g, I, P) ∧ zk g a0 2 ∧ ∃ b16, P a0 0 = some b16 ∧ zk g a0 2 ∧ ∃ b19, P a0 7 = some b19 ∧ ∃ (w22 : Int32), Cl mX11_got [.ref b19, .int x1] (g, I, P) (some (.int w22)) (g, I, P) ∧ zk g b16 3 ∧ ∃ (w25 : Int32), Cl mX3_behind [.ref b16, .int w22] (g, I, P) (some (.int w25)) (g, I, P) ∧ r = some (.int (w13 &&& w25)) ∧ h' = (g, I, P)) : Zt none mX2_fitting 0 0 0 [(0, .ref a0), (1, .int x1), (2, .int x2)] [] (g, I, P) r h' := by
  refine z_iload_n 1 dX2_fitting_0 rfl (z_bipush (w := 12) dX2_fitting_1 (by decide) (z_imul dX2_fitting_3 (z_aload_n 0 dX2_fitting_4 rfl rfl ?_)))
  obtain ⟨oe3, b1, e3, H2⟩ := H
  refine z_getP dX2_fitting_5 wf_X2_22 (by decide) (by decide) rfl oe3 (fun q => (by cases q.symm.trans e3)) (fun j q => ?_)
  cases q.symm.trans e3
  refine z_iload_n 1 dX2_fitting_8 rfl ?_
  obtain ⟨w4, c5, H6⟩ := H2
  refine z_stat (As := [.ref b1, .int x1]) (st := [.int (x1 * 12)]) (r1 := (some (.int w4))) (h1 := (g, I, P)) dX2_fitting_9 kX11_got wm_X2_65 ⟨by decide, by decide⟩ rfl rfl (Nat.le_of_ble_eq_true rfl) (by decide) (by decide) c5 ?_
  refine z_iadd dX2_fitting_12 (z_istore_n (lv' := [(3, .int ((x1 * 12) + w4)), (0, .ref a0), (1, .int x1), (2, .int x2)]) dX2_fitting_13 (by decide) rfl (z_aload_n 1 dX2_fitting_14 rfl rfl ?_))
  obtain ⟨oe9, b7, e9, H8⟩ := H6
  refine z_getP dX2_fitting_15 wf_X2_12 (by decide) (by decide) rfl oe9 (fun q => (by cases q.symm.trans e9)) (fun j q => ?_)
  cases q.symm.trans e9
  refine z_aload_n 1 dX2_fitting_18 rfl rfl ?_
  obtain ⟨oe12, b10, e12, H11⟩ := H8
  refine z_getP dX2_fitting_19 wf_X2_31 (by decide) (by decide) rfl oe12 (fun q => (by cases q.symm.trans e12)) (fun j q => ?_)
  cases q.symm.trans e12
  refine z_iload_n 0 dX2_fitting_22 rfl (z_iload_n 3 dX2_fitting_23 rfl ?_)
  obtain ⟨oc14, w13, c14, H15⟩ := H11
  refine z_virt (As := [.ref b10, .int ((x1 * 12) + w4), .int x2]) (st := []) (r1 := (some (.int w13))) (h1 := (g, I, P)) dX2_fitting_24 kX3_beginningWith wm_X2_136 ⟨by decide, by decide⟩ rfl rfl (Nat.le_of_ble_eq_true rfl) (by decide) (by decide) oc14 c14 ?_
  refine z_aload_n 1 dX2_fitting_27 rfl rfl ?_
  obtain ⟨oe18, b16, e18, H17⟩ := H15
  refine z_getP dX2_fitting_28 wf_X2_12 (by decide) (by decide) rfl oe18 (fun q => (by cases q.symm.trans e18)) (fun j q => ?_)
  cases q.symm.trans e18
  refine z_aload_n 1 dX2_fitting_31 rfl rfl ?_
  obtain ⟨oe21, b19, e21, H20⟩ := H17
  refine z_getP dX2_fitting_32 wf_X2_28 (by decide) (by decide) rfl oe21 (fun q => (by cases q.symm.trans e21)) (fun j q => ?_)
  cases q.symm.trans e21
  refine z_iload_n 2 dX2_fitting_35 rfl ?_
  obtain ⟨w22, c23, H24⟩ := H20
  refine z_stat (As := [.ref b19, .int x1]) (st := [.ref b16, .int w13]) (r1 := (some (.int w22))) (h1 := (g, I, P)) dX2_fitting_36 kX11_got wm_X2_65 ⟨by decide, by decide⟩ rfl rfl (Nat.le_of_ble_eq_true rfl) (by decide) (by decide) c23 ?_
  obtain ⟨oc26, w25, c26, H27⟩ := H24
  refine z_virt (As := [.int w22]) (st := [.int w13]) (r1 := (some (.int w25))) (h1 := (g, I, P)) dX2_fitting_39 kX3_behind wm_X2_140 ⟨by decide, by decide⟩ rfl rfl (Nat.le_of_ble_eq_true rfl) (by decide) (by decide) oc26 c26 ?_
  refine z_iand dX2_fitting_42 ?_
  obtain ⟨rfl, rfl⟩ := H27
  exact z_iret dX2_fitting_43 rfl (by decide) (by decide)
theorem eX2_fitting {g : zG} {I : Nat → Nat → Int32} {P : Nat → Nat → Option Nat} {r : Option Value} {h' : zH} {a0 : Nat} {x1 : Int32} {x2 : Int32} (H : Zt none mX2_fitting 0 0 0 [(0, .ref a0), (1, .int x1), (2, .int x2)] [] (g, I, P) r h') : Cl mX2_fitting [.ref a0, .int x1, .int x2] (g, I, P) r h' := Cl.of (by decide) (Nat.le_of_ble_eq_true rfl) H
theorem dX2_forgeriesOn_0 : decode cX2_forgeriesOn 0 = .ok (.iconst 0, 1) := by decide +kernel
theorem dX2_forgeriesOn_1 : decode cX2_forgeriesOn 1 = .ok (.istore_n 2, 1) := by decide +kernel
theorem dX2_forgeriesOn_2 : decode cX2_forgeriesOn 2 = .ok (.iconst 0, 1) := by decide +kernel
theorem dX2_forgeriesOn_3 : decode cX2_forgeriesOn 3 = .ok (.istore_n 3, 1) := by decide +kernel
theorem dX2_forgeriesOn_4 : decode cX2_forgeriesOn 4 = .ok (.iload_n 3, 1) := by decide +kernel
theorem dX2_forgeriesOn_5 : decode cX2_forgeriesOn 5 = .ok (.aload_n 0, 1) := by decide +kernel
theorem dX2_forgeriesOn_6 : decode cX2_forgeriesOn 6 = .ok (.getfield 18, 3) := by decide +kernel
theorem dX2_forgeriesOn_9 : decode cX2_forgeriesOn 9 = .ok (.iload_n 1, 1) := by decide +kernel
theorem dX2_forgeriesOn_10 : decode cX2_forgeriesOn 10 = .ok (.invokestatic 65, 3) := by decide +kernel
theorem dX2_forgeriesOn_13 : decode cX2_forgeriesOn 13 = .ok (.if_icmp .ge 25, 3) := by decide +kernel
theorem dX2_forgeriesOn_16 : decode cX2_forgeriesOn 16 = .ok (.iload_n 2, 1) := by decide +kernel
theorem dX2_forgeriesOn_17 : decode cX2_forgeriesOn 17 = .ok (.aload_n 0, 1) := by decide +kernel
theorem dX2_forgeriesOn_18 : decode cX2_forgeriesOn 18 = .ok (.getfield 37, 3) := by decide +kernel
theorem dX2_forgeriesOn_21 : decode cX2_forgeriesOn 21 = .ok (.iload_n 1, 1) := by decide +kernel
theorem dX2_forgeriesOn_22 : decode cX2_forgeriesOn 22 = .ok (.bipush 12, 2) := by decide +kernel
theorem dX2_forgeriesOn_24 : decode cX2_forgeriesOn 24 = .ok (.imul, 1) := by decide +kernel
theorem dX2_forgeriesOn_25 : decode cX2_forgeriesOn 25 = .ok (.iload_n 3, 1) := by decide +kernel
theorem dX2_forgeriesOn_26 : decode cX2_forgeriesOn 26 = .ok (.iadd, 1) := by decide +kernel
theorem dX2_forgeriesOn_27 : decode cX2_forgeriesOn 27 = .ok (.invokestatic 65, 3) := by decide +kernel
theorem dX2_forgeriesOn_30 : decode cX2_forgeriesOn 30 = .ok (.iadd, 1) := by decide +kernel
theorem dX2_forgeriesOn_31 : decode cX2_forgeriesOn 31 = .ok (.istore_n 2, 1) := by decide +kernel
theorem dX2_forgeriesOn_32 : decode cX2_forgeriesOn 32 = .ok (.iinc 3 1, 3) := by decide +kernel
theorem dX2_forgeriesOn_35 : decode cX2_forgeriesOn 35 = .ok (.goto (-31), 3) := by decide +kernel
theorem dX2_forgeriesOn_38 : decode cX2_forgeriesOn 38 = .ok (.iload_n 2, 1) := by decide +kernel
theorem dX2_forgeriesOn_39 : decode cX2_forgeriesOn 39 = .ok (.ireturn, 1) := by decide +kernel
set_option maxRecDepth 10000 in
theorem wX2_forgeriesOn_0 {g : zG} {I : Nat → Nat → Int32} {P : Nat → Nat → Option Nat} {r : Option Value} {h' : zH} {a0 : Nat} {x1 : Int32} (H : Zt none mX2_forgeriesOn 0 0 4 [(0, .ref a0), (1, .int x1), (2, .int 0), (3, .int 0)] [] (g, I, P) r h') : Zt none mX2_forgeriesOn 0 0 0 [(0, .ref a0), (1, .int x1)] [] (g, I, P) r h' := by
  refine z_iconst (w := 0) dX2_forgeriesOn_0 (by decide) (z_istore_n (lv' := [(2, .int 0), (0, .ref a0), (1, .int x1)]) dX2_forgeriesOn_1 (by decide) rfl (z_iconst (w := 0) dX2_forgeriesOn_2 (by decide) (z_istore_n (lv' := [(3, .int 0), (2, .int 0), (0, .ref a0), (1, .int x1)]) dX2_forgeriesOn_3 (by decide) rfl ?_)))
  exact z_less [2, 3, 1, 0] rfl H
theorem eX2_forgeriesOn {g : zG} {I : Nat → Nat → Int32} {P : Nat → Nat → Option Nat} {r : Option Value} {h' : zH} {a0 : Nat} {x1 : Int32} (H : Zt none mX2_forgeriesOn 0 0 0 [(0, .ref a0), (1, .int x1)] [] (g, I, P) r h') : Cl mX2_forgeriesOn [.ref a0, .int x1] (g, I, P) r h' := Cl.of (by decide) (Nat.le_of_ble_eq_true rfl) H
set_option maxRecDepth 10000 in
theorem wX2_forgeriesOn_4 {g : zG} {I : Nat → Nat → Int32} {P : Nat → Nat → Option Nat} {r : Option Value} {h' : zH} {a0 : Nat} {x1 : Int32} {x2 : Int32} {x3 : Int32} (H : zk g a0 2 ∧ ∃ b1, P a0 4 = some b1 ∧ ∃ (w4 : Int32), Cl mX11_got [.ref b1, .int x1] (g, I, P) (some (.int w4)) (g, I, P) ∧ ((w4 ≤ x3) → r = some (.int x2) ∧ h' = (g, I, P)) ∧ ((¬ w4 ≤ x3) → zk g a0 2 ∧ ∃ b9, P a0 10 = some b9 ∧ ∃ (w12 : Int32), Cl mX11_got [.ref b9, .int ((x1 * 12) + x3)] (g, I, P) (some (.int w12)) (g, I, P) ∧ Zt none mX2_forgeriesOn 0 0 4 [(0, .ref a0), (1, .int x1), (2, .int (x2 + w12)), (3, .int (x3 + 1))] [] (g, I, P) r h')) : Zt none mX2_forgeriesOn 0 0 4 [(0, .ref a0), (1, .int x1), (2, .int x2), (3, .int x3)] [] (g, I, P) r h' := by
  refine z_iload_n 3 dX2_forgeriesOn_4 rfl (z_aload_n 0 dX2_forgeriesOn_5 rfl rfl ?_)
  obtain ⟨oe3, b1, e3, H2⟩ := H
  refine z_getP dX2_forgeriesOn_6 wf_X2_18 (by decide) (by decide) rfl oe3 (fun q => (by cases q.symm.trans e3)) (fun j q => ?_)
  cases q.symm.trans e3
  refine z_iload_n 1 dX2_forgeriesOn_9 rfl ?_
  obtain ⟨w4, c5, H6⟩ := H2
  refine z_stat (As := [.ref b1, .int x1]) (st := [.int x3]) (r1 := (some (.int w4))) (h1 := (g, I, P)) dX2_forgeriesOn_10 kX11_got wm_X2_65 ⟨by decide, by decide⟩ rfl rfl (Nat.le_of_ble_eq_true rfl) (by decide) (by decide) c5 ?_
  refine z_icmp_ge (t := 38) dX2_forgeriesOn_13 (by decide) (fun q => ?_) (fun q => ?_)
  · have H7 := H6.1 q
    refine z_iload_n 2 dX2_forgeriesOn_38 rfl ?_
    obtain ⟨rfl, rfl⟩ := H7
    exact z_iret dX2_forgeriesOn_39 rfl (by decide) (by decide)
  · have H8 := H6.2 q
    refine z_iload_n 2 dX2_forgeriesOn_16 rfl (z_aload_n 0 dX2_forgeriesOn_17 rfl rfl ?_)
    obtain ⟨oe11, b9, e11, H10⟩ := H8
    refine z_getP dX2_forgeriesOn_18 wf_X2_37 (by decide) (by decide) rfl oe11 (fun q => (by cases q.symm.trans e11)) (fun j q => ?_)
    cases q.symm.trans e11
    refine z_iload_n 1 dX2_forgeriesOn_21 rfl (z_bipush (w := 12) dX2_forgeriesOn_22 (by decide) (z_imul dX2_forgeriesOn_24 (z_iload_n 3 dX2_forgeriesOn_25 rfl (z_iadd dX2_forgeriesOn_26 ?_))))
    obtain ⟨w12, c13, H14⟩ := H10
    refine z_stat (As := [.ref b9, .int ((x1 * 12) + x3)]) (st := [.int x2]) (r1 := (some (.int w12))) (h1 := (g, I, P)) dX2_forgeriesOn_27 kX11_got wm_X2_65 ⟨by decide, by decide⟩ rfl rfl (Nat.le_of_ble_eq_true rfl) (by decide) (by decide) c13 ?_
    refine z_iadd dX2_forgeriesOn_30 (z_istore_n (lv' := [(2, .int (x2 + w12)), (0, .ref a0), (1, .int x1), (3, .int x3)]) dX2_forgeriesOn_31 (by decide) rfl (z_iinc (y := x3 + 1) (lv' := [(3, .int (x3 + 1)), (2, .int (x2 + w12)), (0, .ref a0), (1, .int x1)]) 3 dX2_forgeriesOn_32 rfl rfl (by decide) rfl (z_goto (t := 4) dX2_forgeriesOn_35 (by decide) ?_)))
    exact z_less [2, 3, 1, 0] rfl H14
theorem dX2_look_0 : decode cX2_look 0 = .ok (.iload_n 1, 1) := by decide +kernel
theorem dX2_look_1 : decode cX2_look 1 = .ok (.ifCond .ne 8, 3) := by decide +kernel
theorem dX2_look_4 : decode cX2_look 4 = .ok (.aload_n 0, 1) := by decide +kernel
theorem dX2_look_5 : decode cX2_look 5 = .ok (.getfield 40, 3) := by decide +kernel
theorem dX2_look_8 : decode cX2_look 8 = .ok (.ireturn, 1) := by decide +kernel
theorem dX2_look_9 : decode cX2_look 9 = .ok (.iload_n 1, 1) := by decide +kernel
theorem dX2_look_10 : decode cX2_look 10 = .ok (.sipush 200, 3) := by decide +kernel
theorem dX2_look_13 : decode cX2_look 13 = .ok (.if_icmp .lt 17, 3) := by decide +kernel
theorem dX2_look_16 : decode cX2_look 16 = .ok (.aload_n 0, 1) := by decide +kernel
theorem dX2_look_17 : decode cX2_look 17 = .ok (.aload_n 0, 1) := by decide +kernel
theorem dX2_look_18 : decode cX2_look 18 = .ok (.getfield 34, 3) := by decide +kernel
theorem dX2_look_21 : decode cX2_look 21 = .ok (.iload_n 1, 1) := by decide +kernel
theorem dX2_look_22 : decode cX2_look 22 = .ok (.sipush 200, 3) := by decide +kernel
theorem dX2_look_25 : decode cX2_look 25 = .ok (.isub, 1) := by decide +kernel
theorem dX2_look_26 : decode cX2_look 26 = .ok (.invokevirtual 143, 3) := by decide +kernel
theorem dX2_look_29 : decode cX2_look 29 = .ok (.ireturn, 1) := by decide +kernel
theorem dX2_look_30 : decode cX2_look 30 = .ok (.iload_n 1, 1) := by decide +kernel
theorem dX2_look_31 : decode cX2_look 31 = .ok (.bipush 100, 2) := by decide +kernel
theorem dX2_look_33 : decode cX2_look 33 = .ok (.if_icmp .lt 16, 3) := by decide +kernel
theorem dX2_look_36 : decode cX2_look 36 = .ok (.aload_n 0, 1) := by decide +kernel
theorem dX2_look_37 : decode cX2_look 37 = .ok (.aload_n 0, 1) := by decide +kernel
theorem dX2_look_38 : decode cX2_look 38 = .ok (.getfield 31, 3) := by decide +kernel
theorem dX2_look_41 : decode cX2_look 41 = .ok (.iload_n 1, 1) := by decide +kernel
theorem dX2_look_42 : decode cX2_look 42 = .ok (.bipush 100, 2) := by decide +kernel
theorem dX2_look_44 : decode cX2_look 44 = .ok (.isub, 1) := by decide +kernel
theorem dX2_look_45 : decode cX2_look 45 = .ok (.invokevirtual 143, 3) := by decide +kernel
theorem dX2_look_48 : decode cX2_look 48 = .ok (.ireturn, 1) := by decide +kernel
theorem dX2_look_49 : decode cX2_look 49 = .ok (.iload_n 1, 1) := by decide +kernel
theorem dX2_look_50 : decode cX2_look 50 = .ok (.bipush 10, 2) := by decide +kernel
theorem dX2_look_52 : decode cX2_look 52 = .ok (.if_icmp .lt 29, 3) := by decide +kernel
theorem dX2_look_55 : decode cX2_look 55 = .ok (.aload_n 0, 1) := by decide +kernel
theorem dX2_look_56 : decode cX2_look 56 = .ok (.iload_n 1, 1) := by decide +kernel
theorem dX2_look_57 : decode cX2_look 57 = .ok (.bipush 10, 2) := by decide +kernel
theorem dX2_look_59 : decode cX2_look 59 = .ok (.irem, 1) := by decide +kernel
theorem dX2_look_60 : decode cX2_look 60 = .ok (.invokevirtual 88, 3) := by decide +kernel
theorem dX2_look_63 : decode cX2_look 63 = .ok (.ifCond .eq 18, 3) := by decide +kernel
theorem dX2_look_66 : decode cX2_look 66 = .ok (.aload_n 0, 1) := by decide +kernel
theorem dX2_look_67 : decode cX2_look 67 = .ok (.iload_n 1, 1) := by decide +kernel
theorem dX2_look_68 : decode cX2_look 68 = .ok (.bipush 10, 2) := by decide +kernel
theorem dX2_look_70 : decode cX2_look 70 = .ok (.idiv, 1) := by decide +kernel
theorem dX2_look_71 : decode cX2_look 71 = .ok (.iload_n 1, 1) := by decide +kernel
theorem dX2_look_72 : decode cX2_look 72 = .ok (.bipush 10, 2) := by decide +kernel
theorem dX2_look_74 : decode cX2_look 74 = .ok (.irem, 1) := by decide +kernel
theorem dX2_look_75 : decode cX2_look 75 = .ok (.invokevirtual 146, 3) := by decide +kernel
theorem dX2_look_78 : decode cX2_look 78 = .ok (.goto 5, 3) := by decide +kernel
theorem dX2_look_81 : decode cX2_look 81 = .ok (.bipush (-2), 2) := by decide +kernel
theorem dX2_look_83 : decode cX2_look 83 = .ok (.ireturn, 1) := by decide +kernel
set_option maxRecDepth 10000 in
theorem wX2_look_0 {g : zG} {I : Nat → Nat → Int32} {P : Nat → Nat → Option Nat} {r : Option Value} {h' : zH} {a0 : Nat} {x1 : Int32} (H : ((¬ x1 = 0) → ((x1 < 200) → ((x1 < 100) → ((x1 < 10) → r = some (.int (-2)) ∧ h' = (g, I, P)) ∧ ((¬ x1 < 10) → zk g a0 2 ∧ ∃ (w6 : Int32), Cl mX2_isStone [.ref a0, .int (x1 - x1 / 10 * 10)] (g, I, P) (some (.int w6)) (g, I, P) ∧ ((w6 = 0) → r = some (.int (-2)) ∧ h' = (g, I, P)) ∧ ((¬ w6 = 0) → zk g a0 2 ∧ ∃ (w11 : Int32), Cl mX2_lookAtStone [.ref a0, .int (x1 / 10), .int (x1 - x1 / 10 * 10)] (g, I, P) (some (.int w11)) (g, I, P) ∧ r = some (.int w11) ∧ h' = (g, I, P)))) ∧ ((¬ x1 < 100) → zk g a0 2 ∧ ∃ b15, P a0 8 = some b15 ∧ zk g a0 2 ∧ ∃ (w18 : Int32), Cl mX2_lookAtLetter [.ref a0, .ref b15, .int (x1 - 100)] (g, I, P) (some (.int w18)) (g, I, P) ∧ r = some (.int w18) ∧ h' = (g, I, P))) ∧ ((¬ x1 < 200) → zk g a0 2 ∧ ∃ b22, P a0 9 = some b22 ∧ zk g a0 2 ∧ ∃ (w25 : Int32), Cl mX2_lookAtLetter [.ref a0, .ref b22, .int (x1 - 200)] (g, I, P) (some (.int w25)) (g, I, P) ∧ r = some (.int w25) ∧ h' = (g, I, P))) ∧ ((x1 = 0) → zk g a0 2 ∧ r = some (.int (I a0 1)) ∧ h' = (g, I, P))) : Zt none mX2_look 0 0 0 [(0, .ref a0), (1, .int x1)] [] (g, I, P) r h' := by
  refine z_iload_n 1 dX2_look_0 rfl ?_
  refine z_if_ne (t := 9) dX2_look_1 (by decide) (fun q => ?_) (fun q => ?_)
  · have H1 := H.1 q
    refine z_iload_n 1 dX2_look_9 rfl (z_sipush (w := 200) dX2_look_10 (by decide) ?_)
    refine z_icmp_lt (t := 30) dX2_look_13 (by decide) (fun q => ?_) (fun q => ?_)
    · have H2 := H1.1 q
      refine z_iload_n 1 dX2_look_30 rfl (z_bipush (w := 100) dX2_look_31 (by decide) ?_)
      refine z_icmp_lt (t := 49) dX2_look_33 (by decide) (fun q => ?_) (fun q => ?_)
      · have H3 := H2.1 q
        refine z_iload_n 1 dX2_look_49 rfl (z_bipush (w := 10) dX2_look_50 (by decide) ?_)
        refine z_icmp_lt (t := 81) dX2_look_52 (by decide) (fun q => ?_) (fun q => ?_)
        · have H4 := H3.1 q
          refine z_bipush (w := (-2)) dX2_look_81 (by decide) ?_
          obtain ⟨rfl, rfl⟩ := H4
          exact z_iret dX2_look_83 rfl (by decide) (by decide)
        · have H5 := H3.2 q
          refine z_aload_n 0 dX2_look_55 rfl rfl (z_iload_n 1 dX2_look_56 rfl (z_bipush (w := 10) dX2_look_57 (by decide) (z_irem dX2_look_59 (by decide) ?_)))
          obtain ⟨oc7, w6, c7, H8⟩ := H5
          refine z_virt (As := [.int (x1 - x1 / 10 * 10)]) (st := []) (r1 := (some (.int w6))) (h1 := (g, I, P)) dX2_look_60 kX2_isStone wm_X2_88 ⟨by decide, by decide⟩ rfl rfl (Nat.le_of_ble_eq_true rfl) (by decide) (by decide) oc7 c7 ?_
          refine z_if_eq (t := 81) dX2_look_63 (by decide) (fun q => ?_) (fun q => ?_)
          · have H9 := H8.1 q
            refine z_bipush (w := (-2)) dX2_look_81 (by decide) ?_
            obtain ⟨rfl, rfl⟩ := H9
            exact z_iret dX2_look_83 rfl (by decide) (by decide)
          · have H10 := H8.2 q
            refine z_aload_n 0 dX2_look_66 rfl rfl (z_iload_n 1 dX2_look_67 rfl (z_bipush (w := 10) dX2_look_68 (by decide) (z_idiv dX2_look_70 (by decide) (z_iload_n 1 dX2_look_71 rfl (z_bipush (w := 10) dX2_look_72 (by decide) (z_irem dX2_look_74 (by decide) ?_))))))
            obtain ⟨oc12, w11, c12, H13⟩ := H10
            refine z_virt (As := [.int (x1 / 10), .int (x1 - x1 / 10 * 10)]) (st := []) (r1 := (some (.int w11))) (h1 := (g, I, P)) dX2_look_75 kX2_lookAtStone wm_X2_146 ⟨by decide, by decide⟩ rfl rfl (Nat.le_of_ble_eq_true rfl) (by decide) (by decide) oc12 c12 ?_
            refine z_goto (t := 83) dX2_look_78 (by decide) ?_
            obtain ⟨rfl, rfl⟩ := H13
            exact z_iret dX2_look_83 rfl (by decide) (by decide)
      · have H14 := H2.2 q
        refine z_aload_n 0 dX2_look_36 rfl rfl (z_aload_n 0 dX2_look_37 rfl rfl ?_)
        obtain ⟨oe17, b15, e17, H16⟩ := H14
        refine z_getP dX2_look_38 wf_X2_31 (by decide) (by decide) rfl oe17 (fun q => (by cases q.symm.trans e17)) (fun j q => ?_)
        cases q.symm.trans e17
        refine z_iload_n 1 dX2_look_41 rfl (z_bipush (w := 100) dX2_look_42 (by decide) (z_isub dX2_look_44 ?_))
        obtain ⟨oc19, w18, c19, H20⟩ := H16
        refine z_virt (As := [.ref b15, .int (x1 - 100)]) (st := []) (r1 := (some (.int w18))) (h1 := (g, I, P)) dX2_look_45 kX2_lookAtLetter wm_X2_143 ⟨by decide, by decide⟩ rfl rfl (Nat.le_of_ble_eq_true rfl) (by decide) (by decide) oc19 c19 ?_
        obtain ⟨rfl, rfl⟩ := H20
        exact z_iret dX2_look_48 rfl (by decide) (by decide)
    · have H21 := H1.2 q
      refine z_aload_n 0 dX2_look_16 rfl rfl (z_aload_n 0 dX2_look_17 rfl rfl ?_)
      obtain ⟨oe24, b22, e24, H23⟩ := H21
      refine z_getP dX2_look_18 wf_X2_34 (by decide) (by decide) rfl oe24 (fun q => (by cases q.symm.trans e24)) (fun j q => ?_)
      cases q.symm.trans e24
      refine z_iload_n 1 dX2_look_21 rfl (z_sipush (w := 200) dX2_look_22 (by decide) (z_isub dX2_look_25 ?_))
      obtain ⟨oc26, w25, c26, H27⟩ := H23
      refine z_virt (As := [.ref b22, .int (x1 - 200)]) (st := []) (r1 := (some (.int w25))) (h1 := (g, I, P)) dX2_look_26 kX2_lookAtLetter wm_X2_143 ⟨by decide, by decide⟩ rfl rfl (Nat.le_of_ble_eq_true rfl) (by decide) (by decide) oc26 c26 ?_
      obtain ⟨rfl, rfl⟩ := H27
      exact z_iret dX2_look_29 rfl (by decide) (by decide)
  · have H28 := H.2 q
    refine z_aload_n 0 dX2_look_4 rfl rfl (z_getI dX2_look_5 wf_X2_40 (by decide) (by decide) rfl H28.1 ?_)
    obtain ⟨rfl, rfl⟩ := H28.2
    exact z_iret dX2_look_8 rfl (by decide) (by decide)
theorem eX2_look {g : zG} {I : Nat → Nat → Int32} {P : Nat → Nat → Option Nat} {r : Option Value} {h' : zH} {a0 : Nat} {x1 : Int32} (H : Zt none mX2_look 0 0 0 [(0, .ref a0), (1, .int x1)] [] (g, I, P) r h') : Cl mX2_look [.ref a0, .int x1] (g, I, P) r h' := Cl.of (by decide) (Nat.le_of_ble_eq_true rfl) H
theorem dX2_lookAtLetter_0 : decode cX2_lookAtLetter 0 = .ok (.iload_n 2, 1) := by decide +kernel
theorem dX2_lookAtLetter_1 : decode cX2_lookAtLetter 1 = .ok (.bipush 12, 2) := by decide +kernel
theorem dX2_lookAtLetter_3 : decode cX2_lookAtLetter 3 = .ok (.idiv, 1) := by decide +kernel
theorem dX2_lookAtLetter_4 : decode cX2_lookAtLetter 4 = .ok (.istore_n 3, 1) := by decide +kernel
theorem dX2_lookAtLetter_5 : decode cX2_lookAtLetter 5 = .ok (.aload_n 0, 1) := by decide +kernel
theorem dX2_lookAtLetter_6 : decode cX2_lookAtLetter 6 = .ok (.iload_n 3, 1) := by decide +kernel
theorem dX2_lookAtLetter_7 : decode cX2_lookAtLetter 7 = .ok (.invokevirtual 88, 3) := by decide +kernel
theorem dX2_lookAtLetter_10 : decode cX2_lookAtLetter 10 = .ok (.ifCond .eq 26, 3) := by decide +kernel
theorem dX2_lookAtLetter_13 : decode cX2_lookAtLetter 13 = .ok (.iload_n 2, 1) := by decide +kernel
theorem dX2_lookAtLetter_14 : decode cX2_lookAtLetter 14 = .ok (.bipush 12, 2) := by decide +kernel
theorem dX2_lookAtLetter_16 : decode cX2_lookAtLetter 16 = .ok (.irem, 1) := by decide +kernel
theorem dX2_lookAtLetter_17 : decode cX2_lookAtLetter 17 = .ok (.aload_n 0, 1) := by decide +kernel
theorem dX2_lookAtLetter_18 : decode cX2_lookAtLetter 18 = .ok (.getfield 18, 3) := by decide +kernel
theorem dX2_lookAtLetter_21 : decode cX2_lookAtLetter 21 = .ok (.iload_n 3, 1) := by decide +kernel
theorem dX2_lookAtLetter_22 : decode cX2_lookAtLetter 22 = .ok (.invokestatic 65, 3) := by decide +kernel
theorem dX2_lookAtLetter_25 : decode cX2_lookAtLetter 25 = .ok (.if_icmp .ge 11, 3) := by decide +kernel
theorem dX2_lookAtLetter_28 : decode cX2_lookAtLetter 28 = .ok (.aload_n 1, 1) := by decide +kernel
theorem dX2_lookAtLetter_29 : decode cX2_lookAtLetter 29 = .ok (.iload_n 2, 1) := by decide +kernel
theorem dX2_lookAtLetter_30 : decode cX2_lookAtLetter 30 = .ok (.invokestatic 65, 3) := by decide +kernel
theorem dX2_lookAtLetter_33 : decode cX2_lookAtLetter 33 = .ok (.goto 5, 3) := by decide +kernel
theorem dX2_lookAtLetter_36 : decode cX2_lookAtLetter 36 = .ok (.bipush (-2), 2) := by decide +kernel
theorem dX2_lookAtLetter_38 : decode cX2_lookAtLetter 38 = .ok (.ireturn, 1) := by decide +kernel
set_option maxRecDepth 10000 in
theorem wX2_lookAtLetter_0 {g : zG} {I : Nat → Nat → Int32} {P : Nat → Nat → Option Nat} {r : Option Value} {h' : zH} {a0 : Nat} {a1 : Nat} {x2 : Int32} (H : zk g a0 2 ∧ ∃ (w1 : Int32), Cl mX2_isStone [.ref a0, .int (x2 / 12)] (g, I, P) (some (.int w1)) (g, I, P) ∧ ((w1 = 0) → r = some (.int (-2)) ∧ h' = (g, I, P)) ∧ ((¬ w1 = 0) → zk g a0 2 ∧ ∃ b6, P a0 4 = some b6 ∧ ∃ (w9 : Int32), Cl mX11_got [.ref b6, .int (x2 / 12)] (g, I, P) (some (.int w9)) (g, I, P) ∧ ((w9 ≤ x2 - x2 / 12 * 12) → r = some (.int (-2)) ∧ h' = (g, I, P)) ∧ ((¬ w9 ≤ x2 - x2 / 12 * 12) → ∃ (w14 : Int32), Cl mX11_got [.ref a1, .int x2] (g, I, P) (some (.int w14)) (g, I, P) ∧ r = some (.int w14) ∧ h' = (g, I, P)))) : Zt none mX2_lookAtLetter 0 0 0 [(0, .ref a0), (1, .ref a1), (2, .int x2)] [] (g, I, P) r h' := by
  refine z_iload_n 2 dX2_lookAtLetter_0 rfl (z_bipush (w := 12) dX2_lookAtLetter_1 (by decide) (z_idiv dX2_lookAtLetter_3 (by decide) (z_istore_n (lv' := [(3, .int (x2 / 12)), (0, .ref a0), (1, .ref a1), (2, .int x2)]) dX2_lookAtLetter_4 (by decide) rfl (z_aload_n 1 dX2_lookAtLetter_5 rfl rfl (z_iload_n 0 dX2_lookAtLetter_6 rfl ?_)))))
  obtain ⟨oc2, w1, c2, H3⟩ := H
  refine z_virt (As := [.int (x2 / 12)]) (st := []) (r1 := (some (.int w1))) (h1 := (g, I, P)) dX2_lookAtLetter_7 kX2_isStone wm_X2_88 ⟨by decide, by decide⟩ rfl rfl (Nat.le_of_ble_eq_true rfl) (by decide) (by decide) oc2 c2 ?_
  refine z_if_eq (t := 36) dX2_lookAtLetter_10 (by decide) (fun q => ?_) (fun q => ?_)
  · have H4 := H3.1 q
    refine z_bipush (w := (-2)) dX2_lookAtLetter_36 (by decide) ?_
    obtain ⟨rfl, rfl⟩ := H4
    exact z_iret dX2_lookAtLetter_38 rfl (by decide) (by decide)
  · have H5 := H3.2 q
    refine z_iload_n 3 dX2_lookAtLetter_13 rfl (z_bipush (w := 12) dX2_lookAtLetter_14 (by decide) (z_irem dX2_lookAtLetter_16 (by decide) (z_aload_n 1 dX2_lookAtLetter_17 rfl rfl ?_)))
    obtain ⟨oe8, b6, e8, H7⟩ := H5
    refine z_getP dX2_lookAtLetter_18 wf_X2_18 (by decide) (by decide) rfl oe8 (fun q => (by cases q.symm.trans e8)) (fun j q => ?_)
    cases q.symm.trans e8
    refine z_iload_n 0 dX2_lookAtLetter_21 rfl ?_
    obtain ⟨w9, c10, H11⟩ := H7
    refine z_stat (As := [.ref b6, .int (x2 / 12)]) (st := [.int (x2 - x2 / 12 * 12)]) (r1 := (some (.int w9))) (h1 := (g, I, P)) dX2_lookAtLetter_22 kX11_got wm_X2_65 ⟨by decide, by decide⟩ rfl rfl (Nat.le_of_ble_eq_true rfl) (by decide) (by decide) c10 ?_
    refine z_icmp_ge (t := 36) dX2_lookAtLetter_25 (by decide) (fun q => ?_) (fun q => ?_)
    · have H12 := H11.1 q
      refine z_bipush (w := (-2)) dX2_lookAtLetter_36 (by decide) ?_
      obtain ⟨rfl, rfl⟩ := H12
      exact z_iret dX2_lookAtLetter_38 rfl (by decide) (by decide)
    · have H13 := H11.2 q
      refine z_aload_n 2 dX2_lookAtLetter_28 rfl rfl (z_iload_n 3 dX2_lookAtLetter_29 rfl ?_)
      obtain ⟨w14, c15, H16⟩ := H13
      refine z_stat (As := [.ref a1, .int x2]) (st := []) (r1 := (some (.int w14))) (h1 := (g, I, P)) dX2_lookAtLetter_30 kX11_got wm_X2_65 ⟨by decide, by decide⟩ rfl rfl (Nat.le_of_ble_eq_true rfl) (by decide) (by decide) c15 ?_
      refine z_goto (t := 38) dX2_lookAtLetter_33 (by decide) ?_
      obtain ⟨rfl, rfl⟩ := H16
      exact z_iret dX2_lookAtLetter_38 rfl (by decide) (by decide)
theorem eX2_lookAtLetter {g : zG} {I : Nat → Nat → Int32} {P : Nat → Nat → Option Nat} {r : Option Value} {h' : zH} {a0 : Nat} {a1 : Nat} {x2 : Int32} (H : Zt none mX2_lookAtLetter 0 0 0 [(0, .ref a0), (1, .ref a1), (2, .int x2)] [] (g, I, P) r h') : Cl mX2_lookAtLetter [.ref a0, .ref a1, .int x2] (g, I, P) r h' := Cl.of (by decide) (Nat.le_of_ble_eq_true rfl) H
theorem dX2_lookAtStone_0 : decode cX2_lookAtStone 0 = .ok (.iload_n 1, 1) := by decide +kernel
theorem dX2_lookAtStone_1 : decode cX2_lookAtStone 1 = .ok (.tableswitch 89 1 6 #[39, 48, 54, 63, 72, 83], 39) := by decide +kernel
theorem dX2_lookAtStone_40 : decode cX2_lookAtStone 40 = .ok (.aload_n 0, 1) := by decide +kernel
theorem dX2_lookAtStone_41 : decode cX2_lookAtStone 41 = .ok (.getfield 18, 3) := by decide +kernel
theorem dX2_lookAtStone_44 : decode cX2_lookAtStone 44 = .ok (.iload_n 2, 1) := by decide +kernel
theorem dX2_lookAtStone_45 : decode cX2_lookAtStone 45 = .ok (.invokestatic 65, 3) := by decide +kernel
theorem dX2_lookAtStone_48 : decode cX2_lookAtStone 48 = .ok (.ireturn, 1) := by decide +kernel
theorem dX2_lookAtStone_49 : decode cX2_lookAtStone 49 = .ok (.aload_n 0, 1) := by decide +kernel
theorem dX2_lookAtStone_50 : decode cX2_lookAtStone 50 = .ok (.iload_n 2, 1) := by decide +kernel
theorem dX2_lookAtStone_51 : decode cX2_lookAtStone 51 = .ok (.invokevirtual 115, 3) := by decide +kernel
theorem dX2_lookAtStone_54 : decode cX2_lookAtStone 54 = .ok (.ireturn, 1) := by decide +kernel
theorem dX2_lookAtStone_55 : decode cX2_lookAtStone 55 = .ok (.aload_n 0, 1) := by decide +kernel
theorem dX2_lookAtStone_56 : decode cX2_lookAtStone 56 = .ok (.getfield 25, 3) := by decide +kernel
theorem dX2_lookAtStone_59 : decode cX2_lookAtStone 59 = .ok (.iload_n 2, 1) := by decide +kernel
theorem dX2_lookAtStone_60 : decode cX2_lookAtStone 60 = .ok (.invokestatic 65, 3) := by decide +kernel
theorem dX2_lookAtStone_63 : decode cX2_lookAtStone 63 = .ok (.ireturn, 1) := by decide +kernel
theorem dX2_lookAtStone_64 : decode cX2_lookAtStone 64 = .ok (.aload_n 0, 1) := by decide +kernel
theorem dX2_lookAtStone_65 : decode cX2_lookAtStone 65 = .ok (.getfield 28, 3) := by decide +kernel
theorem dX2_lookAtStone_68 : decode cX2_lookAtStone 68 = .ok (.iload_n 2, 1) := by decide +kernel
theorem dX2_lookAtStone_69 : decode cX2_lookAtStone 69 = .ok (.invokestatic 65, 3) := by decide +kernel
theorem dX2_lookAtStone_72 : decode cX2_lookAtStone 72 = .ok (.ireturn, 1) := by decide +kernel
theorem dX2_lookAtStone_73 : decode cX2_lookAtStone 73 = .ok (.aload_n 0, 1) := by decide +kernel
theorem dX2_lookAtStone_74 : decode cX2_lookAtStone 74 = .ok (.iload_n 2, 1) := by decide +kernel
theorem dX2_lookAtStone_75 : decode cX2_lookAtStone 75 = .ok (.aload_n 0, 1) := by decide +kernel
theorem dX2_lookAtStone_76 : decode cX2_lookAtStone 76 = .ok (.iload_n 2, 1) := by decide +kernel
theorem dX2_lookAtStone_77 : decode cX2_lookAtStone 77 = .ok (.invokevirtual 115, 3) := by decide +kernel
theorem dX2_lookAtStone_80 : decode cX2_lookAtStone 80 = .ok (.invokevirtual 118, 3) := by decide +kernel
theorem dX2_lookAtStone_83 : decode cX2_lookAtStone 83 = .ok (.ireturn, 1) := by decide +kernel
theorem dX2_lookAtStone_84 : decode cX2_lookAtStone 84 = .ok (.aload_n 0, 1) := by decide +kernel
theorem dX2_lookAtStone_85 : decode cX2_lookAtStone 85 = .ok (.iload_n 2, 1) := by decide +kernel
theorem dX2_lookAtStone_86 : decode cX2_lookAtStone 86 = .ok (.invokevirtual 149, 3) := by decide +kernel
theorem dX2_lookAtStone_89 : decode cX2_lookAtStone 89 = .ok (.ireturn, 1) := by decide +kernel
theorem dX2_lookAtStone_90 : decode cX2_lookAtStone 90 = .ok (.bipush (-2), 2) := by decide +kernel
theorem dX2_lookAtStone_92 : decode cX2_lookAtStone 92 = .ok (.ireturn, 1) := by decide +kernel
set_option maxRecDepth 10000 in
theorem wX2_lookAtStone_0 {g : zG} {I : Nat → Nat → Int32} {P : Nat → Nat → Option Nat} {r : Option Value} {h' : zH} {a0 : Nat} {x1 : Int32} {x2 : Int32} (H : ((x1 = 1) → zk g a0 2 ∧ ∃ b3, P a0 4 = some b3 ∧ ∃ (w6 : Int32), Cl mX11_got [.ref b3, .int x2] (g, I, P) (some (.int w6)) (g, I, P) ∧ r = some (.int w6) ∧ h' = (g, I, P)) ∧ ((x1 = 2) → zk g a0 2 ∧ ∃ (w11 : Int32), Cl mX2_open [.ref a0, .int x2] (g, I, P) (some (.int w11)) (g, I, P) ∧ r = some (.int w11) ∧ h' = (g, I, P)) ∧ ((x1 = 3) → zk g a0 2 ∧ ∃ b16, P a0 6 = some b16 ∧ ∃ (w19 : Int32), Cl mX11_got [.ref b16, .int x2] (g, I, P) (some (.int w19)) (g, I, P) ∧ r = some (.int w19) ∧ h' = (g, I, P)) ∧ ((x1 = 4) → zk g a0 2 ∧ ∃ b24, P a0 7 = some b24 ∧ ∃ (w27 : Int32), Cl mX11_got [.ref b24, .int x2] (g, I, P) (some (.int w27)) (g, I, P) ∧ r = some (.int w27) ∧ h' = (g, I, P)) ∧ ((x1 = 5) → zk g a0 2 ∧ ∃ (w32 : Int32), Cl mX2_open [.ref a0, .int x2] (g, I, P) (some (.int w32)) (g, I, P) ∧ zk g a0 2 ∧ ∃ (w35 : Int32), Cl mX2_fitting [.ref a0, .int x2, .int w32] (g, I, P) (some (.int w35)) (g, I, P) ∧ r = some (.int w35) ∧ h' = (g, I, P)) ∧ ((x1 = 6) → zk g a0 2 ∧ ∃ (w40 : Int32), Cl mX2_forgeriesOn [.ref a0, .int x2] (g, I, P) (some (.int w40)) (g, I, P) ∧ r = some (.int w40) ∧ h' = (g, I, P)) ∧ (¬ x1 = 1 → ¬ x1 = 2 → ¬ x1 = 3 → ¬ x1 = 4 → ¬ x1 = 5 → ¬ x1 = 6 → r = some (.int (-2)) ∧ h' = (g, I, P))) : Zt none mX2_lookAtStone 0 0 0 [(0, .ref a0), (1, .int x1), (2, .int x2)] [] (g, I, P) r h' := by
  refine z_iload_n 1 dX2_lookAtStone_0 rfl ?_
  by_cases q1 : x1 = 1
  · have H2 := H.1 q1
    have eq1 : (x1 : Int32).toInt = 1 := by rw [q1]; decide
    refine z_tableIn (off := 39) (t := 40) dX2_lookAtStone_1 (by rw [eq1]; decide) (by rw [eq1]; decide) (by rw [eq1]; rfl) (by decide) ?_
    refine z_aload_n 0 dX2_lookAtStone_40 rfl rfl ?_
    obtain ⟨oe5, b3, e5, H4⟩ := H2
    refine z_getP dX2_lookAtStone_41 wf_X2_18 (by decide) (by decide) rfl oe5 (fun q => (by cases q.symm.trans e5)) (fun j q => ?_)
    cases q.symm.trans e5
    refine z_iload_n 2 dX2_lookAtStone_44 rfl ?_
    obtain ⟨w6, c7, H8⟩ := H4
    refine z_stat (As := [.ref b3, .int x2]) (st := []) (r1 := (some (.int w6))) (h1 := (g, I, P)) dX2_lookAtStone_45 kX11_got wm_X2_65 ⟨by decide, by decide⟩ rfl rfl (Nat.le_of_ble_eq_true rfl) (by decide) (by decide) c7 ?_
    obtain ⟨rfl, rfl⟩ := H8
    exact z_iret dX2_lookAtStone_48 rfl (by decide) (by decide)
  by_cases q9 : x1 = 2
  · have H10 := H.2.1 q9
    have eq9 : (x1 : Int32).toInt = 2 := by rw [q9]; decide
    refine z_tableIn (off := 48) (t := 49) dX2_lookAtStone_1 (by rw [eq9]; decide) (by rw [eq9]; decide) (by rw [eq9]; rfl) (by decide) ?_
    refine z_aload_n 0 dX2_lookAtStone_49 rfl rfl (z_iload_n 2 dX2_lookAtStone_50 rfl ?_)
    obtain ⟨oc12, w11, c12, H13⟩ := H10
    refine z_virt (As := [.int x2]) (st := []) (r1 := (some (.int w11))) (h1 := (g, I, P)) dX2_lookAtStone_51 kX2_open wm_X2_115 ⟨by decide, by decide⟩ rfl rfl (Nat.le_of_ble_eq_true rfl) (by decide) (by decide) oc12 c12 ?_
    obtain ⟨rfl, rfl⟩ := H13
    exact z_iret dX2_lookAtStone_54 rfl (by decide) (by decide)
  by_cases q14 : x1 = 3
  · have H15 := H.2.2.1 q14
    have eq14 : (x1 : Int32).toInt = 3 := by rw [q14]; decide
    refine z_tableIn (off := 54) (t := 55) dX2_lookAtStone_1 (by rw [eq14]; decide) (by rw [eq14]; decide) (by rw [eq14]; rfl) (by decide) ?_
    refine z_aload_n 0 dX2_lookAtStone_55 rfl rfl ?_
    obtain ⟨oe18, b16, e18, H17⟩ := H15
    refine z_getP dX2_lookAtStone_56 wf_X2_25 (by decide) (by decide) rfl oe18 (fun q => (by cases q.symm.trans e18)) (fun j q => ?_)
    cases q.symm.trans e18
    refine z_iload_n 2 dX2_lookAtStone_59 rfl ?_
    obtain ⟨w19, c20, H21⟩ := H17
    refine z_stat (As := [.ref b16, .int x2]) (st := []) (r1 := (some (.int w19))) (h1 := (g, I, P)) dX2_lookAtStone_60 kX11_got wm_X2_65 ⟨by decide, by decide⟩ rfl rfl (Nat.le_of_ble_eq_true rfl) (by decide) (by decide) c20 ?_
    obtain ⟨rfl, rfl⟩ := H21
    exact z_iret dX2_lookAtStone_63 rfl (by decide) (by decide)
  by_cases q22 : x1 = 4
  · have H23 := H.2.2.2.1 q22
    have eq22 : (x1 : Int32).toInt = 4 := by rw [q22]; decide
    refine z_tableIn (off := 63) (t := 64) dX2_lookAtStone_1 (by rw [eq22]; decide) (by rw [eq22]; decide) (by rw [eq22]; rfl) (by decide) ?_
    refine z_aload_n 0 dX2_lookAtStone_64 rfl rfl ?_
    obtain ⟨oe26, b24, e26, H25⟩ := H23
    refine z_getP dX2_lookAtStone_65 wf_X2_28 (by decide) (by decide) rfl oe26 (fun q => (by cases q.symm.trans e26)) (fun j q => ?_)
    cases q.symm.trans e26
    refine z_iload_n 2 dX2_lookAtStone_68 rfl ?_
    obtain ⟨w27, c28, H29⟩ := H25
    refine z_stat (As := [.ref b24, .int x2]) (st := []) (r1 := (some (.int w27))) (h1 := (g, I, P)) dX2_lookAtStone_69 kX11_got wm_X2_65 ⟨by decide, by decide⟩ rfl rfl (Nat.le_of_ble_eq_true rfl) (by decide) (by decide) c28 ?_
    obtain ⟨rfl, rfl⟩ := H29
    exact z_iret dX2_lookAtStone_72 rfl (by decide) (by decide)
  by_cases q30 : x1 = 5
  · have H31 := H.2.2.2.2.1 q30
    have eq30 : (x1 : Int32).toInt = 5 := by rw [q30]; decide
    refine z_tableIn (off := 72) (t := 73) dX2_lookAtStone_1 (by rw [eq30]; decide) (by rw [eq30]; decide) (by rw [eq30]; rfl) (by decide) ?_
    refine z_aload_n 0 dX2_lookAtStone_73 rfl rfl (z_iload_n 2 dX2_lookAtStone_74 rfl (z_aload_n 0 dX2_lookAtStone_75 rfl rfl (z_iload_n 2 dX2_lookAtStone_76 rfl ?_)))
    obtain ⟨oc33, w32, c33, H34⟩ := H31
    refine z_virt (As := [.int x2]) (st := [.int x2, .ref a0]) (r1 := (some (.int w32))) (h1 := (g, I, P)) dX2_lookAtStone_77 kX2_open wm_X2_115 ⟨by decide, by decide⟩ rfl rfl (Nat.le_of_ble_eq_true rfl) (by decide) (by decide) oc33 c33 ?_
    obtain ⟨oc36, w35, c36, H37⟩ := H34
    refine z_virt (As := [.int x2, .int w32]) (st := []) (r1 := (some (.int w35))) (h1 := (g, I, P)) dX2_lookAtStone_80 kX2_fitting wm_X2_118 ⟨by decide, by decide⟩ rfl rfl (Nat.le_of_ble_eq_true rfl) (by decide) (by decide) oc36 c36 ?_
    obtain ⟨rfl, rfl⟩ := H37
    exact z_iret dX2_lookAtStone_83 rfl (by decide) (by decide)
  by_cases q38 : x1 = 6
  · have H39 := H.2.2.2.2.2.1 q38
    have eq38 : (x1 : Int32).toInt = 6 := by rw [q38]; decide
    refine z_tableIn (off := 83) (t := 84) dX2_lookAtStone_1 (by rw [eq38]; decide) (by rw [eq38]; decide) (by rw [eq38]; rfl) (by decide) ?_
    refine z_aload_n 0 dX2_lookAtStone_84 rfl rfl (z_iload_n 2 dX2_lookAtStone_85 rfl ?_)
    obtain ⟨oc41, w40, c41, H42⟩ := H39
    refine z_virt (As := [.int x2]) (st := []) (r1 := (some (.int w40))) (h1 := (g, I, P)) dX2_lookAtStone_86 kX2_forgeriesOn wm_X2_149 ⟨by decide, by decide⟩ rfl rfl (Nat.le_of_ble_eq_true rfl) (by decide) (by decide) oc41 c41 ?_
    obtain ⟨rfl, rfl⟩ := H42
    exact z_iret dX2_lookAtStone_89 rfl (by decide) (by decide)
  have H43 := H.2.2.2.2.2.2 q1 q9 q14 q22 q30 q38
  have nq1 := lv_neT q1 (show (1 : Int32).toInt = 1 by decide)
  have nq9 := lv_neT q9 (show (2 : Int32).toInt = 2 by decide)
  have nq14 := lv_neT q14 (show (3 : Int32).toInt = 3 by decide)
  have nq22 := lv_neT q22 (show (4 : Int32).toInt = 4 by decide)
  have nq30 := lv_neT q30 (show (5 : Int32).toInt = 5 by decide)
  have nq38 := lv_neT q38 (show (6 : Int32).toInt = 6 by decide)
  refine z_tableOut (t := 90) dX2_lookAtStone_1 (by omega) (by decide) ?_
  refine z_bipush (w := (-2)) dX2_lookAtStone_90 (by decide) ?_
  obtain ⟨rfl, rfl⟩ := H43
  exact z_iret dX2_lookAtStone_92 rfl (by decide) (by decide)
theorem eX2_lookAtStone {g : zG} {I : Nat → Nat → Int32} {P : Nat → Nat → Option Nat} {r : Option Value} {h' : zH} {a0 : Nat} {x1 : Int32} {x2 : Int32} (H : Zt none mX2_lookAtStone 0 0 0 [(0, .ref a0), (1, .int x1), (2, .int x2)] [] (g, I, P) r h') : Cl mX2_lookAtStone [.ref a0, .int x1, .int x2] (g, I, P) r h' := Cl.of (by decide) (Nat.le_of_ble_eq_true rfl) H
theorem dX2_wordiest_0 : decode cX2_wordiest 0 = .ok (.iconst (-1), 1) := by decide +kernel
theorem dX2_wordiest_1 : decode cX2_wordiest 1 = .ok (.istore_n 1, 1) := by decide +kernel
theorem dX2_wordiest_2 : decode cX2_wordiest 2 = .ok (.iconst 0, 1) := by decide +kernel
theorem dX2_wordiest_3 : decode cX2_wordiest 3 = .ok (.istore_n 2, 1) := by decide +kernel
theorem dX2_wordiest_4 : decode cX2_wordiest 4 = .ok (.iconst 0, 1) := by decide +kernel
theorem dX2_wordiest_5 : decode cX2_wordiest 5 = .ok (.istore_n 3, 1) := by decide +kernel
theorem dX2_wordiest_6 : decode cX2_wordiest 6 = .ok (.iload_n 3, 1) := by decide +kernel
theorem dX2_wordiest_7 : decode cX2_wordiest 7 = .ok (.aload_n 0, 1) := by decide +kernel
theorem dX2_wordiest_8 : decode cX2_wordiest 8 = .ok (.getfield 12, 3) := by decide +kernel
theorem dX2_wordiest_11 : decode cX2_wordiest 11 = .ok (.getfield 85, 3) := by decide +kernel
theorem dX2_wordiest_14 : decode cX2_wordiest 14 = .ok (.if_icmp .ge 32, 3) := by decide +kernel
theorem dX2_wordiest_17 : decode cX2_wordiest 17 = .ok (.aload_n 0, 1) := by decide +kernel
theorem dX2_wordiest_18 : decode cX2_wordiest 18 = .ok (.getfield 25, 3) := by decide +kernel
theorem dX2_wordiest_21 : decode cX2_wordiest 21 = .ok (.iload_n 3, 1) := by decide +kernel
theorem dX2_wordiest_22 : decode cX2_wordiest 22 = .ok (.invokestatic 65, 3) := by decide +kernel
theorem dX2_wordiest_25 : decode cX2_wordiest 25 = .ok (.iload_n 2, 1) := by decide +kernel
theorem dX2_wordiest_26 : decode cX2_wordiest 26 = .ok (.if_icmp .le 14, 3) := by decide +kernel
theorem dX2_wordiest_29 : decode cX2_wordiest 29 = .ok (.aload_n 0, 1) := by decide +kernel
theorem dX2_wordiest_30 : decode cX2_wordiest 30 = .ok (.getfield 25, 3) := by decide +kernel
theorem dX2_wordiest_33 : decode cX2_wordiest 33 = .ok (.iload_n 3, 1) := by decide +kernel
theorem dX2_wordiest_34 : decode cX2_wordiest 34 = .ok (.invokestatic 65, 3) := by decide +kernel
theorem dX2_wordiest_37 : decode cX2_wordiest 37 = .ok (.istore_n 2, 1) := by decide +kernel
theorem dX2_wordiest_38 : decode cX2_wordiest 38 = .ok (.iload_n 3, 1) := by decide +kernel
theorem dX2_wordiest_39 : decode cX2_wordiest 39 = .ok (.istore_n 1, 1) := by decide +kernel
theorem dX2_wordiest_40 : decode cX2_wordiest 40 = .ok (.iinc 3 1, 3) := by decide +kernel
theorem dX2_wordiest_43 : decode cX2_wordiest 43 = .ok (.goto (-37), 3) := by decide +kernel
theorem dX2_wordiest_46 : decode cX2_wordiest 46 = .ok (.iload_n 1, 1) := by decide +kernel
theorem dX2_wordiest_47 : decode cX2_wordiest 47 = .ok (.ireturn, 1) := by decide +kernel
set_option maxRecDepth 10000 in
theorem wX2_wordiest_0 {g : zG} {I : Nat → Nat → Int32} {P : Nat → Nat → Option Nat} {r : Option Value} {h' : zH} {a0 : Nat} (H : Zt none mX2_wordiest 0 0 6 [(0, .ref a0), (1, .int (-1)), (2, .int 0), (3, .int 0)] [] (g, I, P) r h') : Zt none mX2_wordiest 0 0 0 [(0, .ref a0)] [] (g, I, P) r h' := by
  refine z_iconst (w := (-1)) dX2_wordiest_0 (by decide) (z_istore_n (lv' := [(1, .int (-1)), (0, .ref a0)]) dX2_wordiest_1 (by decide) rfl (z_iconst (w := 0) dX2_wordiest_2 (by decide) (z_istore_n (lv' := [(2, .int 0), (1, .int (-1)), (0, .ref a0)]) dX2_wordiest_3 (by decide) rfl (z_iconst (w := 0) dX2_wordiest_4 (by decide) (z_istore_n (lv' := [(3, .int 0), (2, .int 0), (1, .int (-1)), (0, .ref a0)]) dX2_wordiest_5 (by decide) rfl ?_)))))
  exact z_less [3, 2, 1, 0] rfl H
theorem eX2_wordiest {g : zG} {I : Nat → Nat → Int32} {P : Nat → Nat → Option Nat} {r : Option Value} {h' : zH} {a0 : Nat} (H : Zt none mX2_wordiest 0 0 0 [(0, .ref a0)] [] (g, I, P) r h') : Cl mX2_wordiest [.ref a0] (g, I, P) r h' := Cl.of (by decide) (Nat.le_of_ble_eq_true rfl) H
set_option maxRecDepth 10000 in
theorem wX2_wordiest_6 {g : zG} {I : Nat → Nat → Int32} {P : Nat → Nat → Option Nat} {r : Option Value} {h' : zH} {a0 : Nat} {x1 : Int32} {x2 : Int32} {x3 : Int32} (H : zk g a0 2 ∧ ∃ b1, P a0 0 = some b1 ∧ zk g b1 3 ∧ ((I b1 0 ≤ x3) → r = some (.int x1) ∧ h' = (g, I, P)) ∧ ((¬ I b1 0 ≤ x3) → zk g a0 2 ∧ ∃ b6, P a0 6 = some b6 ∧ ∃ (w9 : Int32), Cl mX11_got [.ref b6, .int x3] (g, I, P) (some (.int w9)) (g, I, P) ∧ ((w9 ≤ x2) → Zt none mX2_wordiest 0 0 6 [(0, .ref a0), (1, .int x1), (2, .int x2), (3, .int (x3 + 1))] [] (g, I, P) r h') ∧ ((¬ w9 ≤ x2) → zk g a0 2 ∧ ∃ b14, P a0 6 = some b14 ∧ ∃ (w17 : Int32), Cl mX11_got [.ref b14, .int x3] (g, I, P) (some (.int w17)) (g, I, P) ∧ Zt none mX2_wordiest 0 0 6 [(0, .ref a0), (1, .int x3), (2, .int w17), (3, .int (x3 + 1))] [] (g, I, P) r h'))) : Zt none mX2_wordiest 0 0 6 [(0, .ref a0), (1, .int x1), (2, .int x2), (3, .int x3)] [] (g, I, P) r h' := by
  refine z_iload_n 3 dX2_wordiest_6 rfl (z_aload_n 0 dX2_wordiest_7 rfl rfl ?_)
  obtain ⟨oe3, b1, e3, H2⟩ := H
  refine z_getP dX2_wordiest_8 wf_X2_12 (by decide) (by decide) rfl oe3 (fun q => (by cases q.symm.trans e3)) (fun j q => ?_)
  cases q.symm.trans e3
  refine z_getI dX2_wordiest_11 wf_X2_85 (by decide) (by decide) rfl H2.1 ?_
  refine z_icmp_ge (t := 46) dX2_wordiest_14 (by decide) (fun q => ?_) (fun q => ?_)
  · have H4 := H2.2.1 q
    refine z_iload_n 1 dX2_wordiest_46 rfl ?_
    obtain ⟨rfl, rfl⟩ := H4
    exact z_iret dX2_wordiest_47 rfl (by decide) (by decide)
  · have H5 := H2.2.2 q
    refine z_aload_n 0 dX2_wordiest_17 rfl rfl ?_
    obtain ⟨oe8, b6, e8, H7⟩ := H5
    refine z_getP dX2_wordiest_18 wf_X2_25 (by decide) (by decide) rfl oe8 (fun q => (by cases q.symm.trans e8)) (fun j q => ?_)
    cases q.symm.trans e8
    refine z_iload_n 3 dX2_wordiest_21 rfl ?_
    obtain ⟨w9, c10, H11⟩ := H7
    refine z_stat (As := [.ref b6, .int x3]) (st := []) (r1 := (some (.int w9))) (h1 := (g, I, P)) dX2_wordiest_22 kX11_got wm_X2_65 ⟨by decide, by decide⟩ rfl rfl (Nat.le_of_ble_eq_true rfl) (by decide) (by decide) c10 ?_
    refine z_iload_n 2 dX2_wordiest_25 rfl ?_
    refine z_icmp_le (t := 40) dX2_wordiest_26 (by decide) (fun q => ?_) (fun q => ?_)
    · have H12 := H11.1 q
      refine z_iinc (y := x3 + 1) (lv' := [(3, .int (x3 + 1)), (0, .ref a0), (1, .int x1), (2, .int x2)]) 3 dX2_wordiest_40 rfl rfl (by decide) rfl (z_goto (t := 6) dX2_wordiest_43 (by decide) ?_)
      exact z_less [1, 2, 3, 0] rfl H12
    · have H13 := H11.2 q
      refine z_aload_n 0 dX2_wordiest_29 rfl rfl ?_
      obtain ⟨oe16, b14, e16, H15⟩ := H13
      refine z_getP dX2_wordiest_30 wf_X2_25 (by decide) (by decide) rfl oe16 (fun q => (by cases q.symm.trans e16)) (fun j q => ?_)
      cases q.symm.trans e16
      refine z_iload_n 3 dX2_wordiest_33 rfl ?_
      obtain ⟨w17, c18, H19⟩ := H15
      refine z_stat (As := [.ref b14, .int x3]) (st := []) (r1 := (some (.int w17))) (h1 := (g, I, P)) dX2_wordiest_34 kX11_got wm_X2_65 ⟨by decide, by decide⟩ rfl rfl (Nat.le_of_ble_eq_true rfl) (by decide) (by decide) c18 ?_
      refine z_istore_n (lv' := [(2, .int w17), (0, .ref a0), (1, .int x1), (3, .int x3)]) dX2_wordiest_37 (by decide) rfl (z_iload_n 3 dX2_wordiest_38 rfl (z_istore_n (lv' := [(1, .int x3), (2, .int w17), (0, .ref a0), (3, .int x3)]) dX2_wordiest_39 (by decide) rfl (z_iinc (y := x3 + 1) (lv' := [(3, .int (x3 + 1)), (1, .int x3), (2, .int w17), (0, .ref a0)]) 3 dX2_wordiest_40 rfl rfl (by decide) rfl (z_goto (t := 6) dX2_wordiest_43 (by decide) ?_))))
      exact z_less [3, 1, 2, 0] rfl H19
theorem dX2_feigned_0 : decode cX2_feigned 0 = .ok (.iconst 0, 1) := by decide +kernel
theorem dX2_feigned_1 : decode cX2_feigned 1 = .ok (.istore_n 1, 1) := by decide +kernel
theorem dX2_feigned_2 : decode cX2_feigned 2 = .ok (.iconst 0, 1) := by decide +kernel
theorem dX2_feigned_3 : decode cX2_feigned 3 = .ok (.istore_n 2, 1) := by decide +kernel
theorem dX2_feigned_4 : decode cX2_feigned 4 = .ok (.iload_n 2, 1) := by decide +kernel
theorem dX2_feigned_5 : decode cX2_feigned 5 = .ok (.aload_n 0, 1) := by decide +kernel
theorem dX2_feigned_6 : decode cX2_feigned 6 = .ok (.getfield 12, 3) := by decide +kernel
theorem dX2_feigned_9 : decode cX2_feigned 9 = .ok (.getfield 85, 3) := by decide +kernel
theorem dX2_feigned_12 : decode cX2_feigned 12 = .ok (.if_icmp .ge 24, 3) := by decide +kernel
theorem dX2_feigned_15 : decode cX2_feigned 15 = .ok (.aload_n 0, 1) := by decide +kernel
theorem dX2_feigned_16 : decode cX2_feigned 16 = .ok (.iload_n 2, 1) := by decide +kernel
theorem dX2_feigned_17 : decode cX2_feigned 17 = .ok (.invokevirtual 149, 3) := by decide +kernel
theorem dX2_feigned_20 : decode cX2_feigned 20 = .ok (.ifCond .le 10, 3) := by decide +kernel
theorem dX2_feigned_23 : decode cX2_feigned 23 = .ok (.iload_n 1, 1) := by decide +kernel
theorem dX2_feigned_24 : decode cX2_feigned 24 = .ok (.iload_n 2, 1) := by decide +kernel
theorem dX2_feigned_25 : decode cX2_feigned 25 = .ok (.invokestatic 108, 3) := by decide +kernel
theorem dX2_feigned_28 : decode cX2_feigned 28 = .ok (.ior, 1) := by decide +kernel
theorem dX2_feigned_29 : decode cX2_feigned 29 = .ok (.istore_n 1, 1) := by decide +kernel
theorem dX2_feigned_30 : decode cX2_feigned 30 = .ok (.iinc 2 1, 3) := by decide +kernel
theorem dX2_feigned_33 : decode cX2_feigned 33 = .ok (.goto (-29), 3) := by decide +kernel
theorem dX2_feigned_36 : decode cX2_feigned 36 = .ok (.iload_n 1, 1) := by decide +kernel
theorem dX2_feigned_37 : decode cX2_feigned 37 = .ok (.ireturn, 1) := by decide +kernel
set_option maxRecDepth 10000 in
theorem wX2_feigned_0 {g : zG} {I : Nat → Nat → Int32} {P : Nat → Nat → Option Nat} {r : Option Value} {h' : zH} {a0 : Nat} (H : Zt none mX2_feigned 0 0 4 [(0, .ref a0), (1, .int 0), (2, .int 0)] [] (g, I, P) r h') : Zt none mX2_feigned 0 0 0 [(0, .ref a0)] [] (g, I, P) r h' := by
  refine z_iconst (w := 0) dX2_feigned_0 (by decide) (z_istore_n (lv' := [(1, .int 0), (0, .ref a0)]) dX2_feigned_1 (by decide) rfl (z_iconst (w := 0) dX2_feigned_2 (by decide) (z_istore_n (lv' := [(2, .int 0), (1, .int 0), (0, .ref a0)]) dX2_feigned_3 (by decide) rfl ?_)))
  exact z_less [2, 1, 0] rfl H
theorem eX2_feigned {g : zG} {I : Nat → Nat → Int32} {P : Nat → Nat → Option Nat} {r : Option Value} {h' : zH} {a0 : Nat} (H : Zt none mX2_feigned 0 0 0 [(0, .ref a0)] [] (g, I, P) r h') : Cl mX2_feigned [.ref a0] (g, I, P) r h' := Cl.of (by decide) (Nat.le_of_ble_eq_true rfl) H
set_option maxRecDepth 10000 in
theorem wX2_feigned_4 {g : zG} {I : Nat → Nat → Int32} {P : Nat → Nat → Option Nat} {r : Option Value} {h' : zH} {a0 : Nat} {x1 : Int32} {x2 : Int32} (H : zk g a0 2 ∧ ∃ b1, P a0 0 = some b1 ∧ zk g b1 3 ∧ ((I b1 0 ≤ x2) → r = some (.int x1) ∧ h' = (g, I, P)) ∧ ((¬ I b1 0 ≤ x2) → zk g a0 2 ∧ ∃ (w6 : Int32), Cl mX2_forgeriesOn [.ref a0, .int x2] (g, I, P) (some (.int w6)) (g, I, P) ∧ ((w6 ≤ 0) → Zt none mX2_feigned 0 0 4 [(0, .ref a0), (1, .int x1), (2, .int (x2 + 1))] [] (g, I, P) r h') ∧ ((¬ w6 ≤ 0) → ∃ (w11 : Int32), Cl mX11_bit [.int x2] (g, I, P) (some (.int w11)) (g, I, P) ∧ Zt none mX2_feigned 0 0 4 [(0, .ref a0), (1, .int (x1 ||| w11)), (2, .int (x2 + 1))] [] (g, I, P) r h'))) : Zt none mX2_feigned 0 0 4 [(0, .ref a0), (1, .int x1), (2, .int x2)] [] (g, I, P) r h' := by
  refine z_iload_n 2 dX2_feigned_4 rfl (z_aload_n 0 dX2_feigned_5 rfl rfl ?_)
  obtain ⟨oe3, b1, e3, H2⟩ := H
  refine z_getP dX2_feigned_6 wf_X2_12 (by decide) (by decide) rfl oe3 (fun q => (by cases q.symm.trans e3)) (fun j q => ?_)
  cases q.symm.trans e3
  refine z_getI dX2_feigned_9 wf_X2_85 (by decide) (by decide) rfl H2.1 ?_
  refine z_icmp_ge (t := 36) dX2_feigned_12 (by decide) (fun q => ?_) (fun q => ?_)
  · have H4 := H2.2.1 q
    refine z_iload_n 1 dX2_feigned_36 rfl ?_
    obtain ⟨rfl, rfl⟩ := H4
    exact z_iret dX2_feigned_37 rfl (by decide) (by decide)
  · have H5 := H2.2.2 q
    refine z_aload_n 0 dX2_feigned_15 rfl rfl (z_iload_n 2 dX2_feigned_16 rfl ?_)
    obtain ⟨oc7, w6, c7, H8⟩ := H5
    refine z_virt (As := [.int x2]) (st := []) (r1 := (some (.int w6))) (h1 := (g, I, P)) dX2_feigned_17 kX2_forgeriesOn wm_X2_149 ⟨by decide, by decide⟩ rfl rfl (Nat.le_of_ble_eq_true rfl) (by decide) (by decide) oc7 c7 ?_
    refine z_if_le (t := 30) dX2_feigned_20 (by decide) (fun q => ?_) (fun q => ?_)
    · have H9 := H8.1 q
      refine z_iinc (y := x2 + 1) (lv' := [(2, .int (x2 + 1)), (0, .ref a0), (1, .int x1)]) 2 dX2_feigned_30 rfl rfl (by decide) rfl (z_goto (t := 4) dX2_feigned_33 (by decide) ?_)
      exact z_less [1, 2, 0] rfl H9
    · have H10 := H8.2 q
      refine z_iload_n 1 dX2_feigned_23 rfl (z_iload_n 2 dX2_feigned_24 rfl ?_)
      obtain ⟨w11, c12, H13⟩ := H10
      refine z_stat (As := [.int x2]) (st := [.int x1]) (r1 := (some (.int w11))) (h1 := (g, I, P)) dX2_feigned_25 kX11_bit wm_X2_108 ⟨by decide, by decide⟩ rfl rfl (Nat.le_of_ble_eq_true rfl) (by decide) (by decide) c12 ?_
      refine z_ior dX2_feigned_28 (z_istore_n (lv' := [(1, .int (x1 ||| w11)), (0, .ref a0), (2, .int x2)]) dX2_feigned_29 (by decide) rfl (z_iinc (y := x2 + 1) (lv' := [(2, .int (x2 + 1)), (1, .int (x1 ||| w11)), (0, .ref a0)]) 2 dX2_feigned_30 rfl rfl (by decide) rfl (z_goto (t := 4) dX2_feigned_33 (by decide) ?_)))
      exact z_less [2, 1, 0] rfl H13
