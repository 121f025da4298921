theorem dX11_got_0 : decode cX11_got 0 = .ok (.aload_n 0, 1) := by decide +kernel
theorem dX11_got_1 : decode cX11_got 1 = .ok (.ifnull 19, 3) := by decide +kernel
theorem dX11_got_4 : decode cX11_got 4 = .ok (.iload_n 1, 1) := by decide +kernel
theorem dX11_got_5 : decode cX11_got 5 = .ok (.ifCond .lt 15, 3) := by decide +kernel
theorem dX11_got_8 : decode cX11_got 8 = .ok (.iload_n 1, 1) := by decide +kernel
theorem dX11_got_9 : decode cX11_got 9 = .ok (.aload_n 0, 1) := by decide +kernel
theorem dX11_got_10 : decode cX11_got 10 = .ok (.arraylength, 1) := by decide +kernel
theorem dX11_got_11 : decode cX11_got 11 = .ok (.if_icmp .ge 9, 3) := by decide +kernel
theorem dX11_got_14 : decode cX11_got 14 = .ok (.aload_n 0, 1) := by decide +kernel
theorem dX11_got_15 : decode cX11_got 15 = .ok (.iload_n 1, 1) := by decide +kernel
theorem dX11_got_16 : decode cX11_got 16 = .ok (.iaload, 1) := by decide +kernel
theorem dX11_got_17 : decode cX11_got 17 = .ok (.goto 4, 3) := by decide +kernel
theorem dX11_got_20 : decode cX11_got 20 = .ok (.iconst 0, 1) := by decide +kernel
theorem dX11_got_21 : decode cX11_got 21 = .ok (.ireturn, 1) := by decide +kernel
set_option maxRecDepth 10000 in
theorem wX11_got_0 {g : zG} {I : Nat → Nat → Int32} {P : Nat → Nat → Option Nat} {r : Option Value} {h' : zH} {a0 : Nat} {x1 : Int32} (H : ((x1 < 0) → r = some (.int 0) ∧ h' = (g, I, P)) ∧ ((¬ x1 < 0) → zk g a0 13 ∧ ((Int32.ofNat (g.2.2 a0) ≤ x1) → r = some (.int 0) ∧ h' = (g, I, P)) ∧ ((¬ Int32.ofNat (g.2.2 a0) ≤ x1) → zk g a0 13 ∧ vp_in x1 (g.2.2 a0) ∧ r = some (.int (I a0 x1.toNatClampNeg)) ∧ h' = (g, I, P)))) : Zt none mX11_got 0 0 0 [(0, .ref a0), (1, .int x1)] [] (g, I, P) r h' := by
  refine z_aload_n 0 dX11_got_0 rfl rfl (z_ifnullR dX11_got_1 (z_iload_n 1 dX11_got_4 rfl ?_))
  refine z_if_lt (t := 20) dX11_got_5 (by decide) (fun q => ?_) (fun q => ?_)
  · have H1 := H.1 q
    refine z_iconst (w := 0) dX11_got_20 (by decide) ?_
    obtain ⟨rfl, rfl⟩ := H1
    exact z_iret dX11_got_21 rfl (by decide) (by decide)
  · have H2 := H.2 q
    refine z_iload_n 1 dX11_got_8 rfl (z_aload_n 0 dX11_got_9 rfl rfl (z_alen dX11_got_10 H2.1 (by decide) (by decide) ?_))
    refine z_icmp_ge (t := 20) dX11_got_11 (by decide) (fun q => ?_) (fun q => ?_)
    · have H3 := H2.2.1 q
      refine z_iconst (w := 0) dX11_got_20 (by decide) ?_
      obtain ⟨rfl, rfl⟩ := H3
      exact z_iret dX11_got_21 rfl (by decide) (by decide)
    · have H4 := H2.2.2 q
      refine z_aload_n 0 dX11_got_14 rfl rfl (z_iload_n 1 dX11_got_15 rfl (z_iald dX11_got_16 H4.1 H4.2.1 (z_goto (t := 21) dX11_got_17 (by decide) ?_)))
      obtain ⟨rfl, rfl⟩ := H4.2.2
      exact z_iret dX11_got_21 rfl (by decide) (by decide)
theorem eX11_got {g : zG} {I : Nat → Nat → Int32} {P : Nat → Nat → Option Nat} {r : Option Value} {h' : zH} {a0 : Nat} {x1 : Int32} (H : Zt none mX11_got 0 0 0 [(0, .ref a0), (1, .int x1)] [] (g, I, P) r h') : Cl mX11_got [.ref a0, .int x1] (g, I, P) r h' := Cl.of (by decide) (Nat.le_of_ble_eq_true rfl) H
theorem dX11_put_0 : decode cX11_put 0 = .ok (.aload_n 0, 1) := by decide +kernel
theorem dX11_put_1 : decode cX11_put 1 = .ok (.ifnull 17, 3) := by decide +kernel
theorem dX11_put_4 : decode cX11_put 4 = .ok (.iload_n 1, 1) := by decide +kernel
theorem dX11_put_5 : decode cX11_put 5 = .ok (.ifCond .lt 13, 3) := by decide +kernel
theorem dX11_put_8 : decode cX11_put 8 = .ok (.iload_n 1, 1) := by decide +kernel
theorem dX11_put_9 : decode cX11_put 9 = .ok (.aload_n 0, 1) := by decide +kernel
theorem dX11_put_10 : decode cX11_put 10 = .ok (.arraylength, 1) := by decide +kernel
theorem dX11_put_11 : decode cX11_put 11 = .ok (.if_icmp .ge 7, 3) := by decide +kernel
theorem dX11_put_14 : decode cX11_put 14 = .ok (.aload_n 0, 1) := by decide +kernel
theorem dX11_put_15 : decode cX11_put 15 = .ok (.iload_n 1, 1) := by decide +kernel
theorem dX11_put_16 : decode cX11_put 16 = .ok (.iload_n 2, 1) := by decide +kernel
theorem dX11_put_17 : decode cX11_put 17 = .ok (.iastore, 1) := by decide +kernel
theorem dX11_put_18 : decode cX11_put 18 = .ok (.return_, 1) := by decide +kernel
set_option maxRecDepth 10000 in
theorem wX11_put_0 {g : zG} {I : Nat → Nat → Int32} {P : Nat → Nat → Option Nat} {r : Option Value} {h' : zH} {a0 : Nat} {x1 : Int32} {x2 : Int32} (H : ((x1 < 0) → r = none ∧ h' = (g, I, P)) ∧ ((¬ x1 < 0) → zk g a0 13 ∧ ((Int32.ofNat (g.2.2 a0) ≤ x1) → r = none ∧ h' = (g, I, P)) ∧ ((¬ Int32.ofNat (g.2.2 a0) ≤ x1) → zk g a0 13 ∧ vp_in x1 (g.2.2 a0) ∧ r = none ∧ h' = (g, zU I a0 x1.toNatClampNeg x2, P)))) : Zt none mX11_put 0 0 0 [(0, .ref a0), (1, .int x1), (2, .int x2)] [] (g, I, P) r h' := by
  refine z_aload_n 0 dX11_put_0 rfl rfl (z_ifnullR dX11_put_1 (z_iload_n 1 dX11_put_4 rfl ?_))
  refine z_if_lt (t := 18) dX11_put_5 (by decide) (fun q => ?_) (fun q => ?_)
  · have H1 := H.1 q
    obtain ⟨rfl, rfl⟩ := H1
    exact z_vret dX11_put_18 rfl (by decide) (by decide)
  · have H2 := H.2 q
    refine z_iload_n 1 dX11_put_8 rfl (z_aload_n 0 dX11_put_9 rfl rfl (z_alen dX11_put_10 H2.1 (by decide) (by decide) ?_))
    refine z_icmp_ge (t := 18) dX11_put_11 (by decide) (fun q => ?_) (fun q => ?_)
    · have H3 := H2.2.1 q
      obtain ⟨rfl, rfl⟩ := H3
      exact z_vret dX11_put_18 rfl (by decide) (by decide)
    · have H4 := H2.2.2 q
      refine z_aload_n 0 dX11_put_14 rfl rfl (z_iload_n 1 dX11_put_15 rfl (z_iload_n 2 dX11_put_16 rfl (z_iast (g := g) (I := I) (Q := P) dX11_put_17 H4.1 H4.2.1 ?_)))
      obtain ⟨rfl, rfl⟩ := H4.2.2
      exact z_vret dX11_put_18 rfl (by decide) (by decide)
theorem eX11_put {g : zG} {I : Nat → Nat → Int32} {P : Nat → Nat → Option Nat} {r : Option Value} {h' : zH} {a0 : Nat} {x1 : Int32} {x2 : Int32} (H : Zt none mX11_put 0 0 0 [(0, .ref a0), (1, .int x1), (2, .int x2)] [] (g, I, P) r h') : Cl mX11_put [.ref a0, .int x1, .int x2] (g, I, P) r h' := Cl.of (by decide) (Nat.le_of_ble_eq_true rfl) H
theorem dX11_has_0 : decode cX11_has 0 = .ok (.iload_n 1, 1) := by decide +kernel
theorem dX11_has_1 : decode cX11_has 1 = .ok (.ifCond .lt 22, 3) := by decide +kernel
theorem dX11_has_4 : decode cX11_has 4 = .ok (.iload_n 1, 1) := by decide +kernel
theorem dX11_has_5 : decode cX11_has 5 = .ok (.bipush 31, 2) := by decide +kernel
theorem dX11_has_7 : decode cX11_has 7 = .ok (.if_icmp .ge 16, 3) := by decide +kernel
theorem dX11_has_10 : decode cX11_has 10 = .ok (.iload_n 0, 1) := by decide +kernel
theorem dX11_has_11 : decode cX11_has 11 = .ok (.iload_n 1, 1) := by decide +kernel
theorem dX11_has_12 : decode cX11_has 12 = .ok (.ishr, 1) := by decide +kernel
theorem dX11_has_13 : decode cX11_has 13 = .ok (.iconst 1, 1) := by decide +kernel
theorem dX11_has_14 : decode cX11_has 14 = .ok (.iand, 1) := by decide +kernel
theorem dX11_has_15 : decode cX11_has 15 = .ok (.iconst 1, 1) := by decide +kernel
theorem dX11_has_16 : decode cX11_has 16 = .ok (.if_icmp .ne 7, 3) := by decide +kernel
theorem dX11_has_19 : decode cX11_has 19 = .ok (.iconst 1, 1) := by decide +kernel
theorem dX11_has_20 : decode cX11_has 20 = .ok (.goto 4, 3) := by decide +kernel
theorem dX11_has_23 : decode cX11_has 23 = .ok (.iconst 0, 1) := by decide +kernel
theorem dX11_has_24 : decode cX11_has 24 = .ok (.ireturn, 1) := by decide +kernel
set_option maxRecDepth 10000 in
theorem wX11_has_0 {g : zG} {I : Nat → Nat → Int32} {P : Nat → Nat → Option Nat} {r : Option Value} {h' : zH} {x0 : Int32} {x1 : Int32} (H : ((x1 < 0) → r = some (.int 0) ∧ h' = (g, I, P)) ∧ ((¬ x1 < 0) → ((31 ≤ x1) → r = some (.int 0) ∧ h' = (g, I, P)) ∧ ((¬ 31 ≤ x1) → ((¬ ((x0 >>> (x1 &&& 31)) &&& 1) = 1) → r = some (.int 0) ∧ h' = (g, I, P)) ∧ (((x0 >>> (x1 &&& 31)) &&& 1 = 1) → r = some (.int 1) ∧ h' = (g, I, P))))) : Zt none mX11_has 0 0 0 [(0, .int x0), (1, .int x1)] [] (g, I, P) r h' := by
  refine z_iload_n 1 dX11_has_0 rfl ?_
  refine z_if_lt (t := 23) dX11_has_1 (by decide) (fun q => ?_) (fun q => ?_)
  · have H1 := H.1 q
    refine z_iconst (w := 0) dX11_has_23 (by decide) ?_
    obtain ⟨rfl, rfl⟩ := H1
    exact z_zret dX11_has_24 rfl (Or.inl rfl) (by decide) (by decide)
  · have H2 := H.2 q
    refine z_iload_n 1 dX11_has_4 rfl (z_bipush (w := 31) dX11_has_5 (by decide) ?_)
    refine z_icmp_ge (t := 23) dX11_has_7 (by decide) (fun q => ?_) (fun q => ?_)
    · have H3 := H2.1 q
      refine z_iconst (w := 0) dX11_has_23 (by decide) ?_
      obtain ⟨rfl, rfl⟩ := H3
      exact z_zret dX11_has_24 rfl (Or.inl rfl) (by decide) (by decide)
    · have H4 := H2.2 q
      refine z_iload_n 0 dX11_has_10 rfl (z_iload_n 1 dX11_has_11 rfl (z_ishr dX11_has_12 (z_iconst (w := 1) dX11_has_13 (by decide) (z_iand dX11_has_14 (z_iconst (w := 1) dX11_has_15 (by decide) ?_)))))
      refine z_icmp_ne (t := 23) dX11_has_16 (by decide) (fun q => ?_) (fun q => ?_)
      · have H5 := H4.1 q
        refine z_iconst (w := 0) dX11_has_23 (by decide) ?_
        obtain ⟨rfl, rfl⟩ := H5
        exact z_zret dX11_has_24 rfl (Or.inl rfl) (by decide) (by decide)
      · have H6 := H4.2 q
        refine z_iconst (w := 1) dX11_has_19 (by decide) (z_goto (t := 24) dX11_has_20 (by decide) ?_)
        obtain ⟨rfl, rfl⟩ := H6
        exact z_zret dX11_has_24 rfl (Or.inr rfl) (by decide) (by decide)
theorem eX11_has {g : zG} {I : Nat → Nat → Int32} {P : Nat → Nat → Option Nat} {r : Option Value} {h' : zH} {x0 : Int32} {x1 : Int32} (H : Zt none mX11_has 0 0 0 [(0, .int x0), (1, .int x1)] [] (g, I, P) r h') : Cl mX11_has [.int x0, .int x1] (g, I, P) r h' := Cl.of (by decide) (Nat.le_of_ble_eq_true rfl) H
theorem dX11_bit_0 : decode cX11_bit 0 = .ok (.iload_n 0, 1) := by decide +kernel
theorem dX11_bit_1 : decode cX11_bit 1 = .ok (.ifCond .lt 15, 3) := by decide +kernel
theorem dX11_bit_4 : decode cX11_bit 4 = .ok (.iload_n 0, 1) := by decide +kernel
theorem dX11_bit_5 : decode cX11_bit 5 = .ok (.bipush 31, 2) := by decide +kernel
theorem dX11_bit_7 : decode cX11_bit 7 = .ok (.if_icmp .ge 9, 3) := by decide +kernel
theorem dX11_bit_10 : decode cX11_bit 10 = .ok (.iconst 1, 1) := by decide +kernel
theorem dX11_bit_11 : decode cX11_bit 11 = .ok (.iload_n 0, 1) := by decide +kernel
theorem dX11_bit_12 : decode cX11_bit 12 = .ok (.ishl, 1) := by decide +kernel
theorem dX11_bit_13 : decode cX11_bit 13 = .ok (.goto 4, 3) := by decide +kernel
theorem dX11_bit_16 : decode cX11_bit 16 = .ok (.iconst 0, 1) := by decide +kernel
theorem dX11_bit_17 : decode cX11_bit 17 = .ok (.ireturn, 1) := by decide +kernel
set_option maxRecDepth 10000 in
theorem wX11_bit_0 {g : zG} {I : Nat → Nat → Int32} {P : Nat → Nat → Option Nat} {r : Option Value} {h' : zH} {x0 : Int32} (H : ((x0 < 0) → r = some (.int 0) ∧ h' = (g, I, P)) ∧ ((¬ x0 < 0) → ((31 ≤ x0) → r = some (.int 0) ∧ h' = (g, I, P)) ∧ ((¬ 31 ≤ x0) → r = some (.int ((1 : Int32) <<< (x0 &&& 31))) ∧ h' = (g, I, P)))) : Zt none mX11_bit 0 0 0 [(0, .int x0)] [] (g, I, P) r h' := by
  refine z_iload_n 0 dX11_bit_0 rfl ?_
  refine z_if_lt (t := 16) dX11_bit_1 (by decide) (fun q => ?_) (fun q => ?_)
  · have H1 := H.1 q
    refine z_iconst (w := 0) dX11_bit_16 (by decide) ?_
    obtain ⟨rfl, rfl⟩ := H1
    exact z_iret dX11_bit_17 rfl (by decide) (by decide)
  · have H2 := H.2 q
    refine z_iload_n 0 dX11_bit_4 rfl (z_bipush (w := 31) dX11_bit_5 (by decide) ?_)
    refine z_icmp_ge (t := 16) dX11_bit_7 (by decide) (fun q => ?_) (fun q => ?_)
    · have H3 := H2.1 q
      refine z_iconst (w := 0) dX11_bit_16 (by decide) ?_
      obtain ⟨rfl, rfl⟩ := H3
      exact z_iret dX11_bit_17 rfl (by decide) (by decide)
    · have H4 := H2.2 q
      refine z_iconst (w := 1) dX11_bit_10 (by decide) (z_iload_n 0 dX11_bit_11 rfl (z_ishl dX11_bit_12 (z_goto (t := 17) dX11_bit_13 (by decide) ?_)))
      obtain ⟨rfl, rfl⟩ := H4
      exact z_iret dX11_bit_17 rfl (by decide) (by decide)
theorem eX11_bit {g : zG} {I : Nat → Nat → Int32} {P : Nat → Nat → Option Nat} {r : Option Value} {h' : zH} {x0 : Int32} (H : Zt none mX11_bit 0 0 0 [(0, .int x0)] [] (g, I, P) r h') : Cl mX11_bit [.int x0] (g, I, P) r h' := Cl.of (by decide) (Nat.le_of_ble_eq_true rfl) H
theorem dX11_lowest_0 : decode cX11_lowest 0 = .ok (.iconst 0, 1) := by decide +kernel
theorem dX11_lowest_1 : decode cX11_lowest 1 = .ok (.istore_n 1, 1) := by decide +kernel
theorem dX11_lowest_2 : decode cX11_lowest 2 = .ok (.iload_n 1, 1) := by decide +kernel
theorem dX11_lowest_3 : decode cX11_lowest 3 = .ok (.bipush 31, 2) := by decide +kernel
theorem dX11_lowest_5 : decode cX11_lowest 5 = .ok (.if_icmp .ge 19, 3) := by decide +kernel
theorem dX11_lowest_8 : decode cX11_lowest 8 = .ok (.iload_n 0, 1) := by decide +kernel
theorem dX11_lowest_9 : decode cX11_lowest 9 = .ok (.iload_n 1, 1) := by decide +kernel
theorem dX11_lowest_10 : decode cX11_lowest 10 = .ok (.invokestatic 137, 3) := by decide +kernel
theorem dX11_lowest_13 : decode cX11_lowest 13 = .ok (.ifCond .eq 5, 3) := by decide +kernel
theorem dX11_lowest_16 : decode cX11_lowest 16 = .ok (.iload_n 1, 1) := by decide +kernel
theorem dX11_lowest_17 : decode cX11_lowest 17 = .ok (.ireturn, 1) := by decide +kernel
theorem dX11_lowest_18 : decode cX11_lowest 18 = .ok (.iinc 1 1, 3) := by decide +kernel
theorem dX11_lowest_21 : decode cX11_lowest 21 = .ok (.goto (-19), 3) := by decide +kernel
theorem dX11_lowest_24 : decode cX11_lowest 24 = .ok (.iconst (-1), 1) := by decide +kernel
theorem dX11_lowest_25 : decode cX11_lowest 25 = .ok (.ireturn, 1) := by decide +kernel
set_option maxRecDepth 10000 in
theorem wX11_lowest_0 {g : zG} {I : Nat → Nat → Int32} {P : Nat → Nat → Option Nat} {r : Option Value} {h' : zH} {x0 : Int32} (H : Zt none mX11_lowest 0 0 2 [(0, .int x0), (1, .int 0)] [] (g, I, P) r h') : Zt none mX11_lowest 0 0 0 [(0, .int x0)] [] (g, I, P) r h' := by
  refine z_iconst (w := 0) dX11_lowest_0 (by decide) (z_istore_n (lv' := [(1, .int 0), (0, .int x0)]) dX11_lowest_1 (by decide) rfl ?_)
  exact z_less [1, 0] rfl H
theorem eX11_lowest {g : zG} {I : Nat → Nat → Int32} {P : Nat → Nat → Option Nat} {r : Option Value} {h' : zH} {x0 : Int32} (H : Zt none mX11_lowest 0 0 0 [(0, .int x0)] [] (g, I, P) r h') : Cl mX11_lowest [.int x0] (g, I, P) r h' := Cl.of (by decide) (Nat.le_of_ble_eq_true rfl) H
set_option maxRecDepth 10000 in
theorem wX11_lowest_2 {g : zG} {I : Nat → Nat → Int32} {P : Nat → Nat → Option Nat} {r : Option Value} {h' : zH} {x0 : Int32} {x1 : Int32} (H : ((31 ≤ x1) → r = some (.int (-1)) ∧ h' = (g, I, P)) ∧ ((¬ 31 ≤ x1) → ∃ (w3 : Int32), Cl mX11_has [.int x0, .int x1] (g, I, P) (some (.int w3)) (g, I, P) ∧ ((w3 = 0) → Zt none mX11_lowest 0 0 2 [(0, .int x0), (1, .int (x1 + 1))] [] (g, I, P) r h') ∧ ((¬ w3 = 0) → r = some (.int x1) ∧ h' = (g, I, P)))) : Zt none mX11_lowest 0 0 2 [(0, .int x0), (1, .int x1)] [] (g, I, P) r h' := by
  refine z_iload_n 1 dX11_lowest_2 rfl (z_bipush (w := 31) dX11_lowest_3 (by decide) ?_)
  refine z_icmp_ge (t := 24) dX11_lowest_5 (by decide) (fun q => ?_) (fun q => ?_)
  · have H1 := H.1 q
    refine z_iconst (w := (-1)) dX11_lowest_24 (by decide) ?_
    obtain ⟨rfl, rfl⟩ := H1
    exact z_iret dX11_lowest_25 rfl (by decide) (by decide)
  · have H2 := H.2 q
    refine z_iload_n 0 dX11_lowest_8 rfl (z_iload_n 1 dX11_lowest_9 rfl ?_)
    obtain ⟨w3, c4, H5⟩ := H2
    refine z_stat (As := [.int x0, .int x1]) (st := []) (r1 := (some (.int w3))) (h1 := (g, I, P)) dX11_lowest_10 kX11_has wm_X11_137 ⟨by decide, by decide⟩ rfl rfl (Nat.le_of_ble_eq_true rfl) (by decide) (by decide) c4 ?_
    refine z_if_eq (t := 18) dX11_lowest_13 (by decide) (fun q => ?_) (fun q => ?_)
    · have H6 := H5.1 q
      refine z_iinc (y := x1 + 1) (lv' := [(1, .int (x1 + 1)), (0, .int x0)]) 1 dX11_lowest_18 rfl rfl (by decide) rfl (z_goto (t := 2) dX11_lowest_21 (by decide) ?_)
      exact z_less [1, 0] rfl H6
    · have H7 := H5.2 q
      refine z_iload_n 1 dX11_lowest_16 rfl ?_
      obtain ⟨rfl, rfl⟩ := H7
      exact z_iret dX11_lowest_17 rfl (by decide) (by decide)
theorem dX11_copyRow_0 : decode cX11_copyRow 0 = .ok (.aload_n 0, 1) := by decide +kernel
theorem dX11_copyRow_1 : decode cX11_copyRow 1 = .ok (.ifnull 21, 3) := by decide +kernel
theorem dX11_copyRow_4 : decode cX11_copyRow 4 = .ok (.aload_n 1, 1) := by decide +kernel
theorem dX11_copyRow_5 : decode cX11_copyRow 5 = .ok (.ifnull 17, 3) := by decide +kernel
theorem dX11_copyRow_8 : decode cX11_copyRow 8 = .ok (.aload_n 0, 1) := by decide +kernel
theorem dX11_copyRow_9 : decode cX11_copyRow 9 = .ok (.iconst 0, 1) := by decide +kernel
theorem dX11_copyRow_10 : decode cX11_copyRow 10 = .ok (.aload_n 1, 1) := by decide +kernel
theorem dX11_copyRow_11 : decode cX11_copyRow 11 = .ok (.iconst 0, 1) := by decide +kernel
theorem dX11_copyRow_12 : decode cX11_copyRow 12 = .ok (.aload_n 0, 1) := by decide +kernel
theorem dX11_copyRow_13 : decode cX11_copyRow 13 = .ok (.arraylength, 1) := by decide +kernel
theorem dX11_copyRow_14 : decode cX11_copyRow 14 = .ok (.aload_n 1, 1) := by decide +kernel
theorem dX11_copyRow_15 : decode cX11_copyRow 15 = .ok (.arraylength, 1) := by decide +kernel
theorem dX11_copyRow_16 : decode cX11_copyRow 16 = .ok (.invokestatic 288, 3) := by decide +kernel
theorem dX11_copyRow_19 : decode cX11_copyRow 19 = .ok (.invokestatic 293, 3) := by decide +kernel
theorem dX11_copyRow_22 : decode cX11_copyRow 22 = .ok (.return_, 1) := by decide +kernel
set_option maxRecDepth 10000 in
theorem wX11_copyRow_0 {g : zG} {I : Nat → Nat → Int32} {P : Nat → Nat → Option Nat} {r : Option Value} {h' : zH} {a0 : Nat} {a1 : Nat} (H : zk g a0 13 ∧ zk g a1 13 ∧ zk g a0 13 ∧ zk g a1 13 ∧ (¬ (0 : Int32) < 0) ∧ (¬ (0 : Int32) < 0) ∧ (¬ (zmmin (Int32.ofNat (g.2.2 a0)) (Int32.ofNat (g.2.2 a1))) < 0) ∧ ((0 : Int32).toNatClampNeg + (zmmin (Int32.ofNat (g.2.2 a0)) (Int32.ofNat (g.2.2 a1))).toNatClampNeg ≤ g.2.2 a0) ∧ ((0 : Int32).toNatClampNeg + (zmmin (Int32.ofNat (g.2.2 a0)) (Int32.ofNat (g.2.2 a1))).toNatClampNeg ≤ g.2.2 a1) ∧ r = none ∧ h' = (g, zCp I a0 (0 : Int32).toNatClampNeg a1 (0 : Int32).toNatClampNeg (zmmin (Int32.ofNat (g.2.2 a0)) (Int32.ofNat (g.2.2 a1))).toNatClampNeg, P)) : Zt none mX11_copyRow 0 0 0 [(0, .ref a0), (1, .ref a1)] [] (g, I, P) r h' := by
  refine z_aload_n 0 dX11_copyRow_0 rfl rfl (z_ifnullR dX11_copyRow_1 (z_aload_n 1 dX11_copyRow_4 rfl rfl (z_ifnullR dX11_copyRow_5 (z_aload_n 0 dX11_copyRow_8 rfl rfl (z_iconst (w := 0) dX11_copyRow_9 (by decide) (z_aload_n 1 dX11_copyRow_10 rfl rfl (z_iconst (w := 0) dX11_copyRow_11 (by decide) (z_aload_n 0 dX11_copyRow_12 rfl rfl (z_alen dX11_copyRow_13 H.1 (by decide) (by decide) (z_aload_n 1 dX11_copyRow_14 rfl rfl (z_alen dX11_copyRow_15 H.2.1 (by decide) (by decide) (z_mmin dX11_copyRow_16 wm_X11_288 (by decide) (Nat.le_of_ble_eq_true rfl) (by decide) (by decide) w_mnS w_mI w_mnC (z_copy (g := g) (I := I) (Q := P) dX11_copyRow_19 wm_X11_293 w_cpN w_cpS w_cpI (by decide) (Nat.le_of_ble_eq_true rfl) H.2.2.1 H.2.2.2.1 H.2.2.2.2.1 H.2.2.2.2.2.1 H.2.2.2.2.2.2.1 H.2.2.2.2.2.2.2.1 H.2.2.2.2.2.2.2.2.1 ?_)))))))))))))
  obtain ⟨rfl, rfl⟩ := H.2.2.2.2.2.2.2.2.2
  exact z_vret dX11_copyRow_22 rfl (by decide) (by decide)
theorem eX11_copyRow {g : zG} {I : Nat → Nat → Int32} {P : Nat → Nat → Option Nat} {r : Option Value} {h' : zH} {a0 : Nat} {a1 : Nat} (H : Zt none mX11_copyRow 0 0 0 [(0, .ref a0), (1, .ref a1)] [] (g, I, P) r h') : Cl mX11_copyRow [.ref a0, .ref a1] (g, I, P) r h' := Cl.of (by decide) (Nat.le_of_ble_eq_true rfl) H
theorem dX3_clear_0 : decode cX3_clear 0 = .ok (.aload_n 0, 1) := by decide +kernel
theorem dX3_clear_1 : decode cX3_clear 1 = .ok (.iconst 2, 1) := by decide +kernel
theorem dX3_clear_2 : decode cX3_clear 2 = .ok (.putfield 9, 3) := by decide +kernel
theorem dX3_clear_5 : decode cX3_clear 5 = .ok (.aload_n 0, 1) := by decide +kernel
theorem dX3_clear_6 : decode cX3_clear 6 = .ok (.iconst 0, 1) := by decide +kernel
theorem dX3_clear_7 : decode cX3_clear 7 = .ok (.putfield 31, 3) := by decide +kernel
theorem dX3_clear_10 : decode cX3_clear 10 = .ok (.aload_n 0, 1) := by decide +kernel
theorem dX3_clear_11 : decode cX3_clear 11 = .ok (.iconst 0, 1) := by decide +kernel
theorem dX3_clear_12 : decode cX3_clear 12 = .ok (.putfield 34, 3) := by decide +kernel
theorem dX3_clear_15 : decode cX3_clear 15 = .ok (.aload_n 0, 1) := by decide +kernel
theorem dX3_clear_16 : decode cX3_clear 16 = .ok (.iconst 0, 1) := by decide +kernel
theorem dX3_clear_17 : decode cX3_clear 17 = .ok (.putfield 38, 3) := by decide +kernel
theorem dX3_clear_20 : decode cX3_clear 20 = .ok (.aload_n 0, 1) := by decide +kernel
theorem dX3_clear_21 : decode cX3_clear 21 = .ok (.getfield 22, 3) := by decide +kernel
theorem dX3_clear_24 : decode cX3_clear 24 = .ok (.iconst 0, 1) := by decide +kernel
theorem dX3_clear_25 : decode cX3_clear 25 = .ok (.invokestatic 41, 3) := by decide +kernel
theorem dX3_clear_28 : decode cX3_clear 28 = .ok (.aload_n 0, 1) := by decide +kernel
theorem dX3_clear_29 : decode cX3_clear 29 = .ok (.getfield 28, 3) := by decide +kernel
theorem dX3_clear_32 : decode cX3_clear 32 = .ok (.iconst 0, 1) := by decide +kernel
theorem dX3_clear_33 : decode cX3_clear 33 = .ok (.invokestatic 41, 3) := by decide +kernel
theorem dX3_clear_36 : decode cX3_clear 36 = .ok (.return_, 1) := by decide +kernel
set_option maxRecDepth 10000 in
theorem wX3_clear_0 {g : zG} {I : Nat → Nat → Int32} {P : Nat → Nat → Option Nat} {r : Option Value} {h' : zH} {a0 : Nat} (H : zk g a0 3 ∧ zk g a0 3 ∧ zk g a0 3 ∧ zk g a0 3 ∧ zk g a0 3 ∧ ∃ b1, P a0 6 = some b1 ∧ ∃ (I4 : Nat → Nat → Int32), Cl mJ7_fill_53178 [.ref b1, .int 0] (g, zU (zU (zU (zU I a0 0 2) a0 1 0) a0 2 0) a0 3 0, P) none (g, I4, P) ∧ zk g a0 3 ∧ ∃ b7, P a0 8 = some b7 ∧ ∃ (I10 : Nat → Nat → Int32), Cl mJ7_fill_53178 [.ref b7, .int 0] (g, I4, P) none (g, I10, P) ∧ r = none ∧ h' = (g, I10, P)) : Zt none mX3_clear 0 0 0 [(0, .ref a0)] [] (g, I, P) r h' := by
  refine z_aload_n 0 dX3_clear_0 rfl rfl (z_iconst (w := 2) dX3_clear_1 (by decide) (z_putI (g := g) (I := I) (Q := P) dX3_clear_2 wf_X3_9 (by decide) (by decide) rfl (Or.inl rfl) (zfit_int rfl) H.1 (z_aload_n 0 dX3_clear_5 rfl rfl (z_iconst (w := 0) dX3_clear_6 (by decide) (z_putI (g := g) (I := zU I a0 0 2) (Q := P) dX3_clear_7 wf_X3_31 (by decide) (by decide) rfl (Or.inl rfl) (zfit_int rfl) H.2.1 (z_aload_n 0 dX3_clear_10 rfl rfl (z_iconst (w := 0) dX3_clear_11 (by decide) (z_putI (g := g) (I := zU (zU I a0 0 2) a0 1 0) (Q := P) dX3_clear_12 wf_X3_34 (by decide) (by decide) rfl (Or.inl rfl) (zfit_bool rfl (Or.inl rfl)) H.2.2.1 (z_aload_n 0 dX3_clear_15 rfl rfl (z_iconst (w := 0) dX3_clear_16 (by decide) (z_putI (g := g) (I := zU (zU (zU I a0 0 2) a0 1 0) a0 2 0) (Q := P) dX3_clear_17 wf_X3_38 (by decide) (by decide) rfl (Or.inl rfl) (zfit_int rfl) H.2.2.2.1 (z_aload_n 0 dX3_clear_20 rfl rfl ?_))))))))))))
  obtain ⟨oe3, b1, e3, H2⟩ := H.2.2.2.2
  refine z_getP dX3_clear_21 wf_X3_22 (by decide) (by decide) rfl oe3 (fun q => (by cases q.symm.trans e3)) (fun j q => ?_)
  cases q.symm.trans e3
  refine z_iconst (w := 0) dX3_clear_24 (by decide) ?_
  obtain ⟨I4, c5, H6⟩ := H2
  refine z_stat (As := [.ref b1, .int 0]) (st := []) (r1 := none) (h1 := (g, I4, P)) dX3_clear_25 kJ7_fill_53178 wm_X3_41 ⟨by decide, by decide⟩ rfl rfl (Nat.le_of_ble_eq_true rfl) (by decide) (by decide) c5 ?_
  refine z_aload_n 0 dX3_clear_28 rfl rfl ?_
  obtain ⟨oe9, b7, e9, H8⟩ := H6
  refine z_getP dX3_clear_29 wf_X3_28 (by decide) (by decide) rfl oe9 (fun q => (by cases q.symm.trans e9)) (fun j q => ?_)
  cases q.symm.trans e9
  refine z_iconst (w := 0) dX3_clear_32 (by decide) ?_
  obtain ⟨I10, c11, H12⟩ := H8
  refine z_stat (As := [.ref b7, .int 0]) (st := []) (r1 := none) (h1 := (g, I10, P)) dX3_clear_33 kJ7_fill_53178 wm_X3_41 ⟨by decide, by decide⟩ rfl rfl (Nat.le_of_ble_eq_true rfl) (by decide) (by decide) c11 ?_
  obtain ⟨rfl, rfl⟩ := H12
  exact z_vret dX3_clear_36 rfl (by decide) (by decide)
theorem eX3_clear {g : zG} {I : Nat → Nat → Int32} {P : Nat → Nat → Option Nat} {r : Option Value} {h' : zH} {a0 : Nat} (H : Zt none mX3_clear 0 0 0 [(0, .ref a0)] [] (g, I, P) r h') : Cl mX3_clear [.ref a0] (g, I, P) r h' := Cl.of (by decide) (Nat.le_of_ble_eq_true rfl) H
theorem dX3_copy_0 : decode cX3_copy 0 = .ok (.aload_n 0, 1) := by decide +kernel
theorem dX3_copy_1 : decode cX3_copy 1 = .ok (.ifnull 7, 3) := by decide +kernel
theorem dX3_copy_4 : decode cX3_copy 4 = .ok (.aload_n 1, 1) := by decide +kernel
theorem dX3_copy_5 : decode cX3_copy 5 = .ok (.ifnonnull 4, 3) := by decide +kernel
theorem dX3_copy_8 : decode cX3_copy 8 = .ok (.return_, 1) := by decide +kernel
theorem dX3_copy_9 : decode cX3_copy 9 = .ok (.aload_n 1, 1) := by decide +kernel
theorem dX3_copy_10 : decode cX3_copy 10 = .ok (.aload_n 0, 1) := by decide +kernel
theorem dX3_copy_11 : decode cX3_copy 11 = .ok (.getfield 9, 3) := by decide +kernel
theorem dX3_copy_14 : decode cX3_copy 14 = .ok (.putfield 9, 3) := by decide +kernel
theorem dX3_copy_17 : decode cX3_copy 17 = .ok (.aload_n 1, 1) := by decide +kernel
theorem dX3_copy_18 : decode cX3_copy 18 = .ok (.aload_n 0, 1) := by decide +kernel
theorem dX3_copy_19 : decode cX3_copy 19 = .ok (.getfield 31, 3) := by decide +kernel
theorem dX3_copy_22 : decode cX3_copy 22 = .ok (.putfield 31, 3) := by decide +kernel
theorem dX3_copy_25 : decode cX3_copy 25 = .ok (.aload_n 1, 1) := by decide +kernel
theorem dX3_copy_26 : decode cX3_copy 26 = .ok (.aload_n 0, 1) := by decide +kernel
theorem dX3_copy_27 : decode cX3_copy 27 = .ok (.getfield 34, 3) := by decide +kernel
theorem dX3_copy_30 : decode cX3_copy 30 = .ok (.putfield 34, 3) := by decide +kernel
theorem dX3_copy_33 : decode cX3_copy 33 = .ok (.aload_n 1, 1) := by decide +kernel
theorem dX3_copy_34 : decode cX3_copy 34 = .ok (.aload_n 0, 1) := by decide +kernel
theorem dX3_copy_35 : decode cX3_copy 35 = .ok (.getfield 38, 3) := by decide +kernel
theorem dX3_copy_38 : decode cX3_copy 38 = .ok (.putfield 38, 3) := by decide +kernel
theorem dX3_copy_41 : decode cX3_copy 41 = .ok (.aload_n 0, 1) := by decide +kernel
theorem dX3_copy_42 : decode cX3_copy 42 = .ok (.getfield 15, 3) := by decide +kernel
theorem dX3_copy_45 : decode cX3_copy 45 = .ok (.aload_n 1, 1) := by decide +kernel
theorem dX3_copy_46 : decode cX3_copy 46 = .ok (.getfield 15, 3) := by decide +kernel
theorem dX3_copy_49 : decode cX3_copy 49 = .ok (.invokestatic 47, 3) := by decide +kernel
theorem dX3_copy_52 : decode cX3_copy 52 = .ok (.aload_n 0, 1) := by decide +kernel
theorem dX3_copy_53 : decode cX3_copy 53 = .ok (.getfield 19, 3) := by decide +kernel
theorem dX3_copy_56 : decode cX3_copy 56 = .ok (.aload_n 1, 1) := by decide +kernel
theorem dX3_copy_57 : decode cX3_copy 57 = .ok (.getfield 19, 3) := by decide +kernel
theorem dX3_copy_60 : decode cX3_copy 60 = .ok (.invokestatic 47, 3) := by decide +kernel
theorem dX3_copy_63 : decode cX3_copy 63 = .ok (.aload_n 0, 1) := by decide +kernel
theorem dX3_copy_64 : decode cX3_copy 64 = .ok (.getfield 22, 3) := by decide +kernel
theorem dX3_copy_67 : decode cX3_copy 67 = .ok (.aload_n 1, 1) := by decide +kernel
theorem dX3_copy_68 : decode cX3_copy 68 = .ok (.getfield 22, 3) := by decide +kernel
theorem dX3_copy_71 : decode cX3_copy 71 = .ok (.invokestatic 47, 3) := by decide +kernel
theorem dX3_copy_74 : decode cX3_copy 74 = .ok (.aload_n 0, 1) := by decide +kernel
theorem dX3_copy_75 : decode cX3_copy 75 = .ok (.getfield 25, 3) := by decide +kernel
theorem dX3_copy_78 : decode cX3_copy 78 = .ok (.aload_n 1, 1) := by decide +kernel
theorem dX3_copy_79 : decode cX3_copy 79 = .ok (.getfield 25, 3) := by decide +kernel
theorem dX3_copy_82 : decode cX3_copy 82 = .ok (.invokestatic 47, 3) := by decide +kernel
theorem dX3_copy_85 : decode cX3_copy 85 = .ok (.aload_n 0, 1) := by decide +kernel
theorem dX3_copy_86 : decode cX3_copy 86 = .ok (.getfield 28, 3) := by decide +kernel
theorem dX3_copy_89 : decode cX3_copy 89 = .ok (.aload_n 1, 1) := by decide +kernel
theorem dX3_copy_90 : decode cX3_copy 90 = .ok (.getfield 28, 3) := by decide +kernel
theorem dX3_copy_93 : decode cX3_copy 93 = .ok (.invokestatic 47, 3) := by decide +kernel
theorem dX3_copy_96 : decode cX3_copy 96 = .ok (.return_, 1) := by decide +kernel
set_option maxRecDepth 10000 in
theorem wX3_copy_0 {g : zG} {I : Nat → Nat → Int32} {P : Nat → Nat → Option Nat} {r : Option Value} {h' : zH} {a0 : Nat} {a1 : Nat} (H : zk g a0 3 ∧ zk g a1 3 ∧ zk g a0 3 ∧ zk g a1 3 ∧ zk g a0 3 ∧ zk g a1 3 ∧ ((zU (zU I a1 0 (I a0 0)) a1 1 ((zU I a1 0 (I a0 0)) a0 1)) a0 2 = 0 ∨ (zU (zU I a1 0 (I a0 0)) a1 1 ((zU I a1 0 (I a0 0)) a0 1)) a0 2 = 1) ∧ zk g a0 3 ∧ zk g a1 3 ∧ zk g a0 3 ∧ ∃ b1, P a0 4 = some b1 ∧ zk g a1 3 ∧ ∃ b4, P a1 4 = some b4 ∧ ∃ (I7 : Nat → Nat → Int32), Cl mX11_copyRow [.ref b1, .ref b4] (g, zU (zU (zU (zU I a1 0 (I a0 0)) a1 1 ((zU I a1 0 (I a0 0)) a0 1)) a1 2 ((zU (zU I a1 0 (I a0 0)) a1 1 ((zU I a1 0 (I a0 0)) a0 1)) a0 2)) a1 3 ((zU (zU (zU I a1 0 (I a0 0)) a1 1 ((zU I a1 0 (I a0 0)) a0 1)) a1 2 ((zU (zU I a1 0 (I a0 0)) a1 1 ((zU I a1 0 (I a0 0)) a0 1)) a0 2)) a0 3), P) none (g, I7, P) ∧ zk g a0 3 ∧ ∃ b10, P a0 5 = some b10 ∧ zk g a1 3 ∧ ∃ b13, P a1 5 = some b13 ∧ ∃ (I16 : Nat → Nat → Int32), Cl mX11_copyRow [.ref b10, .ref b13] (g, I7, P) none (g, I16, P) ∧ zk g a0 3 ∧ ∃ b19, P a0 6 = some b19 ∧ zk g a1 3 ∧ ∃ b22, P a1 6 = some b22 ∧ ∃ (I25 : Nat → Nat → Int32), Cl mX11_copyRow [.ref b19, .ref b22] (g, I16, P) none (g, I25, P) ∧ zk g a0 3 ∧ ∃ b28, P a0 7 = some b28 ∧ zk g a1 3 ∧ ∃ b31, P a1 7 = some b31 ∧ ∃ (I34 : Nat → Nat → Int32), Cl mX11_copyRow [.ref b28, .ref b31] (g, I25, P) none (g, I34, P) ∧ zk g a0 3 ∧ ∃ b37, P a0 8 = some b37 ∧ zk g a1 3 ∧ ∃ b40, P a1 8 = some b40 ∧ ∃ (I43 : Nat → Nat → Int32), Cl mX11_copyRow [.ref b37, .ref b40] (g, I34, P) none (g, I43, P) ∧ r = none ∧ h' = (g, I43, P)) : Zt none mX3_copy 0 0 0 [(0, .ref a0), (1, .ref a1)] [] (g, I, P) r h' := by
  refine z_aload_n 0 dX3_copy_0 rfl rfl (z_ifnullR dX3_copy_1 (z_aload_n 1 dX3_copy_4 rfl rfl (z_ifnonnullR (t := 9) dX3_copy_5 (by decide) (z_aload_n 1 dX3_copy_9 rfl rfl (z_aload_n 0 dX3_copy_10 rfl rfl (z_getI dX3_copy_11 wf_X3_9 (by decide) (by decide) rfl H.1 (z_putI (g := g) (I := I) (Q := P) dX3_copy_14 wf_X3_9 (by decide) (by decide) rfl (Or.inl rfl) (zfit_int rfl) H.2.1 (z_aload_n 1 dX3_copy_17 rfl rfl (z_aload_n 0 dX3_copy_18 rfl rfl (z_getI dX3_copy_19 wf_X3_31 (by decide) (by decide) rfl H.2.2.1 (z_putI (g := g) (I := zU I a1 0 (I a0 0)) (Q := P) dX3_copy_22 wf_X3_31 (by decide) (by decide) rfl (Or.inl rfl) (zfit_int rfl) H.2.2.2.1 (z_aload_n 1 dX3_copy_25 rfl rfl (z_aload_n 0 dX3_copy_26 rfl rfl (z_getI dX3_copy_27 wf_X3_34 (by decide) (by decide) rfl H.2.2.2.2.1 (z_putI (g := g) (I := zU (zU I a1 0 (I a0 0)) a1 1 ((zU I a1 0 (I a0 0)) a0 1)) (Q := P) dX3_copy_30 wf_X3_34 (by decide) (by decide) rfl (Or.inl rfl) (zfit_bool rfl H.2.2.2.2.2.2.1) H.2.2.2.2.2.1 (z_aload_n 1 dX3_copy_33 rfl rfl (z_aload_n 0 dX3_copy_34 rfl rfl (z_getI dX3_copy_35 wf_X3_38 (by decide) (by decide) rfl H.2.2.2.2.2.2.2.1 (z_putI (g := g) (I := zU (zU (zU I a1 0 (I a0 0)) a1 1 ((zU I a1 0 (I a0 0)) a0 1)) a1 2 ((zU (zU I a1 0 (I a0 0)) a1 1 ((zU I a1 0 (I a0 0)) a0 1)) a0 2)) (Q := P) dX3_copy_38 wf_X3_38 (by decide) (by decide) rfl (Or.inl rfl) (zfit_int rfl) H.2.2.2.2.2.2.2.2.1 (z_aload_n 0 dX3_copy_41 rfl rfl ?_))))))))))))))))))))
  obtain ⟨oe3, b1, e3, H2⟩ := H.2.2.2.2.2.2.2.2.2
  refine z_getP dX3_copy_42 wf_X3_15 (by decide) (by decide) rfl oe3 (fun q => (by cases q.symm.trans e3)) (fun j q => ?_)
  cases q.symm.trans e3
  refine z_aload_n 1 dX3_copy_45 rfl rfl ?_
  obtain ⟨oe6, b4, e6, H5⟩ := H2
  refine z_getP dX3_copy_46 wf_X3_15 (by decide) (by decide) rfl oe6 (fun q => (by cases q.symm.trans e6)) (fun j q => ?_)
  cases q.symm.trans e6
  obtain ⟨I7, c8, H9⟩ := H5
  refine z_stat (As := [.ref b1, .ref b4]) (st := []) (r1 := none) (h1 := (g, I7, P)) dX3_copy_49 kX11_copyRow wm_X3_47 ⟨by decide, by decide⟩ rfl rfl (Nat.le_of_ble_eq_true rfl) (by decide) (by decide) c8 ?_
  refine z_aload_n 0 dX3_copy_52 rfl rfl ?_
  obtain ⟨oe12, b10, e12, H11⟩ := H9
  refine z_getP dX3_copy_53 wf_X3_19 (by decide) (by decide) rfl oe12 (fun q => (by cases q.symm.trans e12)) (fun j q => ?_)
  cases q.symm.trans e12
  refine z_aload_n 1 dX3_copy_56 rfl rfl ?_
  obtain ⟨oe15, b13, e15, H14⟩ := H11
  refine z_getP dX3_copy_57 wf_X3_19 (by decide) (by decide) rfl oe15 (fun q => (by cases q.symm.trans e15)) (fun j q => ?_)
  cases q.symm.trans e15
  obtain ⟨I16, c17, H18⟩ := H14
  refine z_stat (As := [.ref b10, .ref b13]) (st := []) (r1 := none) (h1 := (g, I16, P)) dX3_copy_60 kX11_copyRow wm_X3_47 ⟨by decide, by decide⟩ rfl rfl (Nat.le_of_ble_eq_true rfl) (by decide) (by decide) c17 ?_
  refine z_aload_n 0 dX3_copy_63 rfl rfl ?_
  obtain ⟨oe21, b19, e21, H20⟩ := H18
  refine z_getP dX3_copy_64 wf_X3_22 (by decide) (by decide) rfl oe21 (fun q => (by cases q.symm.trans e21)) (fun j q => ?_)
  cases q.symm.trans e21
  refine z_aload_n 1 dX3_copy_67 rfl rfl ?_
  obtain ⟨oe24, b22, e24, H23⟩ := H20
  refine z_getP dX3_copy_68 wf_X3_22 (by decide) (by decide) rfl oe24 (fun q => (by cases q.symm.trans e24)) (fun j q => ?_)
  cases q.symm.trans e24
  obtain ⟨I25, c26, H27⟩ := H23
  refine z_stat (As := [.ref b19, .ref b22]) (st := []) (r1 := none) (h1 := (g, I25, P)) dX3_copy_71 kX11_copyRow wm_X3_47 ⟨by decide, by decide⟩ rfl rfl (Nat.le_of_ble_eq_true rfl) (by decide) (by decide) c26 ?_
  refine z_aload_n 0 dX3_copy_74 rfl rfl ?_
  obtain ⟨oe30, b28, e30, H29⟩ := H27
  refine z_getP dX3_copy_75 wf_X3_25 (by decide) (by decide) rfl oe30 (fun q => (by cases q.symm.trans e30)) (fun j q => ?_)
  cases q.symm.trans e30
  refine z_aload_n 1 dX3_copy_78 rfl rfl ?_
  obtain ⟨oe33, b31, e33, H32⟩ := H29
  refine z_getP dX3_copy_79 wf_X3_25 (by decide) (by decide) rfl oe33 (fun q => (by cases q.symm.trans e33)) (fun j q => ?_)
  cases q.symm.trans e33
  obtain ⟨I34, c35, H36⟩ := H32
  refine z_stat (As := [.ref b28, .ref b31]) (st := []) (r1 := none) (h1 := (g, I34, P)) dX3_copy_82 kX11_copyRow wm_X3_47 ⟨by decide, by decide⟩ rfl rfl (Nat.le_of_ble_eq_true rfl) (by decide) (by decide) c35 ?_
  refine z_aload_n 0 dX3_copy_85 rfl rfl ?_
  obtain ⟨oe39, b37, e39, H38⟩ := H36
  refine z_getP dX3_copy_86 wf_X3_28 (by decide) (by decide) rfl oe39 (fun q => (by cases q.symm.trans e39)) (fun j q => ?_)
  cases q.symm.trans e39
  refine z_aload_n 1 dX3_copy_89 rfl rfl ?_
  obtain ⟨oe42, b40, e42, H41⟩ := H38
  refine z_getP dX3_copy_90 wf_X3_28 (by decide) (by decide) rfl oe42 (fun q => (by cases q.symm.trans e42)) (fun j q => ?_)
  cases q.symm.trans e42
  obtain ⟨I43, c44, H45⟩ := H41
  refine z_stat (As := [.ref b37, .ref b40]) (st := []) (r1 := none) (h1 := (g, I43, P)) dX3_copy_93 kX11_copyRow wm_X3_47 ⟨by decide, by decide⟩ rfl rfl (Nat.le_of_ble_eq_true rfl) (by decide) (by decide) c44 ?_
  obtain ⟨rfl, rfl⟩ := H45
  exact z_vret dX3_copy_96 rfl (by decide) (by decide)
theorem eX3_copy {g : zG} {I : Nat → Nat → Int32} {P : Nat → Nat → Option Nat} {r : Option Value} {h' : zH} {a0 : Nat} {a1 : Nat} (H : Zt none mX3_copy 0 0 0 [(0, .ref a0), (1, .ref a1)] [] (g, I, P) r h') : Cl mX3_copy [.ref a0, .ref a1] (g, I, P) r h' := Cl.of (by decide) (Nat.le_of_ble_eq_true rfl) H
theorem dX3_look_0 : decode cX3_look 0 = .ok (.iload_n 1, 1) := by decide +kernel
theorem dX3_look_1 : decode cX3_look 1 = .ok (.ifCond .ne 8, 3) := by decide +kernel
theorem dX3_look_4 : decode cX3_look 4 = .ok (.aload_n 0, 1) := by decide +kernel
theorem dX3_look_5 : decode cX3_look 5 = .ok (.getfield 9, 3) := by decide +kernel
theorem dX3_look_8 : decode cX3_look 8 = .ok (.ireturn, 1) := by decide +kernel
theorem dX3_look_9 : decode cX3_look 9 = .ok (.iload_n 1, 1) := by decide +kernel
theorem dX3_look_10 : decode cX3_look 10 = .ok (.iconst 1, 1) := by decide +kernel
theorem dX3_look_11 : decode cX3_look 11 = .ok (.if_icmp .ne 8, 3) := by decide +kernel
theorem dX3_look_14 : decode cX3_look 14 = .ok (.aload_n 0, 1) := by decide +kernel
theorem dX3_look_15 : decode cX3_look 15 = .ok (.getfield 31, 3) := by decide +kernel
theorem dX3_look_18 : decode cX3_look 18 = .ok (.ireturn, 1) := by decide +kernel
theorem dX3_look_19 : decode cX3_look 19 = .ok (.iload_n 1, 1) := by decide +kernel
theorem dX3_look_20 : decode cX3_look 20 = .ok (.bipush 100, 2) := by decide +kernel
theorem dX3_look_22 : decode cX3_look 22 = .ok (.if_icmp .lt 49, 3) := by decide +kernel
theorem dX3_look_25 : decode cX3_look 25 = .ok (.iload_n 1, 1) := by decide +kernel
theorem dX3_look_26 : decode cX3_look 26 = .ok (.bipush 100, 2) := by decide +kernel
theorem dX3_look_28 : decode cX3_look 28 = .ok (.isub, 1) := by decide +kernel
theorem dX3_look_29 : decode cX3_look 29 = .ok (.istore_n 2, 1) := by decide +kernel
theorem dX3_look_30 : decode cX3_look 30 = .ok (.iload_n 2, 1) := by decide +kernel
theorem dX3_look_31 : decode cX3_look 31 = .ok (.bipush 6, 2) := by decide +kernel
theorem dX3_look_33 : decode cX3_look 33 = .ok (.idiv, 1) := by decide +kernel
theorem dX3_look_34 : decode cX3_look 34 = .ok (.istore_n 3, 1) := by decide +kernel
theorem dX3_look_35 : decode cX3_look 35 = .ok (.iload_n 2, 1) := by decide +kernel
theorem dX3_look_36 : decode cX3_look 36 = .ok (.bipush 6, 2) := by decide +kernel
theorem dX3_look_38 : decode cX3_look 38 = .ok (.irem, 1) := by decide +kernel
theorem dX3_look_39 : decode cX3_look 39 = .ok (.istore 4, 2) := by decide +kernel
theorem dX3_look_41 : decode cX3_look 41 = .ok (.aload_n 0, 1) := by decide +kernel
theorem dX3_look_42 : decode cX3_look 42 = .ok (.iload_n 3, 1) := by decide +kernel
theorem dX3_look_43 : decode cX3_look 43 = .ok (.invokevirtual 51, 3) := by decide +kernel
theorem dX3_look_46 : decode cX3_look 46 = .ok (.ifCond .eq 23, 3) := by decide +kernel
theorem dX3_look_49 : decode cX3_look 49 = .ok (.iload 4, 2) := by decide +kernel
theorem dX3_look_51 : decode cX3_look 51 = .ok (.aload_n 0, 1) := by decide +kernel
theorem dX3_look_52 : decode cX3_look 52 = .ok (.iload_n 3, 1) := by decide +kernel
theorem dX3_look_53 : decode cX3_look 53 = .ok (.invokevirtual 55, 3) := by decide +kernel
theorem dX3_look_56 : decode cX3_look 56 = .ok (.if_icmp .ge 13, 3) := by decide +kernel
theorem dX3_look_59 : decode cX3_look 59 = .ok (.aload_n 0, 1) := by decide +kernel
theorem dX3_look_60 : decode cX3_look 60 = .ok (.iload_n 3, 1) := by decide +kernel
theorem dX3_look_61 : decode cX3_look 61 = .ok (.iload 4, 2) := by decide +kernel
theorem dX3_look_63 : decode cX3_look 63 = .ok (.invokevirtual 59, 3) := by decide +kernel
theorem dX3_look_66 : decode cX3_look 66 = .ok (.goto 4, 3) := by decide +kernel
theorem dX3_look_69 : decode cX3_look 69 = .ok (.iconst (-1), 1) := by decide +kernel
theorem dX3_look_70 : decode cX3_look 70 = .ok (.ireturn, 1) := by decide +kernel
theorem dX3_look_71 : decode cX3_look 71 = .ok (.iload_n 1, 1) := by decide +kernel
theorem dX3_look_72 : decode cX3_look 72 = .ok (.bipush 40, 2) := by decide +kernel
theorem dX3_look_74 : decode cX3_look 74 = .ok (.if_icmp .lt 21, 3) := by decide +kernel
theorem dX3_look_77 : decode cX3_look 77 = .ok (.iload_n 1, 1) := by decide +kernel
theorem dX3_look_78 : decode cX3_look 78 = .ok (.bipush 46, 2) := by decide +kernel
theorem dX3_look_80 : decode cX3_look 80 = .ok (.if_icmp .ge 15, 3) := by decide +kernel
theorem dX3_look_83 : decode cX3_look 83 = .ok (.aload_n 0, 1) := by decide +kernel
theorem dX3_look_84 : decode cX3_look 84 = .ok (.getfield 28, 3) := by decide +kernel
theorem dX3_look_87 : decode cX3_look 87 = .ok (.iload_n 1, 1) := by decide +kernel
theorem dX3_look_88 : decode cX3_look 88 = .ok (.bipush 40, 2) := by decide +kernel
theorem dX3_look_90 : decode cX3_look 90 = .ok (.isub, 1) := by decide +kernel
theorem dX3_look_91 : decode cX3_look 91 = .ok (.invokestatic 63, 3) := by decide +kernel
theorem dX3_look_94 : decode cX3_look 94 = .ok (.ireturn, 1) := by decide +kernel
theorem dX3_look_95 : decode cX3_look 95 = .ok (.iload_n 1, 1) := by decide +kernel
theorem dX3_look_96 : decode cX3_look 96 = .ok (.bipush 10, 2) := by decide +kernel
theorem dX3_look_98 : decode cX3_look 98 = .ok (.if_icmp .lt 24, 3) := by decide +kernel
theorem dX3_look_101 : decode cX3_look 101 = .ok (.iload_n 1, 1) := by decide +kernel
theorem dX3_look_102 : decode cX3_look 102 = .ok (.bipush 40, 2) := by decide +kernel
theorem dX3_look_104 : decode cX3_look 104 = .ok (.if_icmp .ge 18, 3) := by decide +kernel
theorem dX3_look_107 : decode cX3_look 107 = .ok (.aload_n 0, 1) := by decide +kernel
theorem dX3_look_108 : decode cX3_look 108 = .ok (.iload_n 1, 1) := by decide +kernel
theorem dX3_look_109 : decode cX3_look 109 = .ok (.bipush 10, 2) := by decide +kernel
theorem dX3_look_111 : decode cX3_look 111 = .ok (.idiv, 1) := by decide +kernel
theorem dX3_look_112 : decode cX3_look 112 = .ok (.iload_n 1, 1) := by decide +kernel
theorem dX3_look_113 : decode cX3_look 113 = .ok (.bipush 10, 2) := by decide +kernel
theorem dX3_look_115 : decode cX3_look 115 = .ok (.irem, 1) := by decide +kernel
theorem dX3_look_116 : decode cX3_look 116 = .ok (.invokevirtual 67, 3) := by decide +kernel
theorem dX3_look_119 : decode cX3_look 119 = .ok (.goto 4, 3) := by decide +kernel
theorem dX3_look_122 : decode cX3_look 122 = .ok (.iconst (-1), 1) := by decide +kernel
theorem dX3_look_123 : decode cX3_look 123 = .ok (.ireturn, 1) := by decide +kernel
set_option maxRecDepth 10000 in
theorem wX3_look_0 {g : zG} {I : Nat → Nat → Int32} {P : Nat → Nat → Option Nat} {r : Option Value} {h' : zH} {a0 : Nat} {x1 : Int32} (H : ((¬ x1 = 0) → ((¬ x1 = 1) → ((x1 < 100) → ((x1 < 40) → Zt none mX3_look 0 0 95 [(0, .ref a0), (1, .int x1)] [] (g, I, P) r h') ∧ ((¬ x1 < 40) → ((46 ≤ x1) → Zt none mX3_look 0 0 95 [(0, .ref a0), (1, .int x1)] [] (g, I, P) r h') ∧ ((¬ 46 ≤ x1) → zk g a0 3 ∧ ∃ b8, P a0 8 = some b8 ∧ ∃ (w11 : Int32), Cl mX11_got [.ref b8, .int (x1 - 40)] (g, I, P) (some (.int w11)) (g, I, P) ∧ r = some (.int w11) ∧ h' = (g, I, P)))) ∧ ((¬ x1 < 100) → ∀ y15 : Int32, y15 = (x1 - 100) - (x1 - 100) / 6 * 6 → zk g a0 3 ∧ ∃ (w17 : Int32), Cl mX3_hasWord [.ref a0, .int ((x1 - 100) / 6)] (g, I, P) (some (.int w17)) (g, I, P) ∧ ((w17 = 0) → r = some (.int (-1)) ∧ h' = (g, I, P)) ∧ ((¬ w17 = 0) → zk g a0 3 ∧ ∃ (w22 : Int32), Cl mX3_sizeOf [.ref a0, .int ((x1 - 100) / 6)] (g, I, P) (some (.int w22)) (g, I, P) ∧ ((w22 ≤ y15) → r = some (.int (-1)) ∧ h' = (g, I, P)) ∧ ((¬ w22 ≤ y15) → zk g a0 3 ∧ ∃ (w27 : Int32), Cl mX3_letterOf [.ref a0, .int ((x1 - 100) / 6), .int y15] (g, I, P) (some (.int w27)) (g, I, P) ∧ r = some (.int w27) ∧ h' = (g, I, P))))) ∧ ((x1 = 1) → zk g a0 3 ∧ r = some (.int (I a0 1)) ∧ h' = (g, I, P))) ∧ ((x1 = 0) → zk g a0 3 ∧ r = some (.int (I a0 0)) ∧ h' = (g, I, P))) : Zt none mX3_look 0 0 0 [(0, .ref a0), (1, .int x1)] [] (g, I, P) r h' := by
  refine z_iload_n 1 dX3_look_0 rfl ?_
  refine z_if_ne (t := 9) dX3_look_1 (by decide) (fun q => ?_) (fun q => ?_)
  · have H1 := H.1 q
    refine z_iload_n 1 dX3_look_9 rfl (z_iconst (w := 1) dX3_look_10 (by decide) ?_)
    refine z_icmp_ne (t := 19) dX3_look_11 (by decide) (fun q => ?_) (fun q => ?_)
    · have H2 := H1.1 q
      refine z_iload_n 1 dX3_look_19 rfl (z_bipush (w := 100) dX3_look_20 (by decide) ?_)
      refine z_icmp_lt (t := 71) dX3_look_22 (by decide) (fun q => ?_) (fun q => ?_)
      · have H3 := H2.1 q
        refine z_iload_n 1 dX3_look_71 rfl (z_bipush (w := 40) dX3_look_72 (by decide) ?_)
        refine z_icmp_lt (t := 95) dX3_look_74 (by decide) (fun q => ?_) (fun q => ?_)
        · have H4 := H3.1 q
          exact z_less [0, 1] rfl H4
        · have H5 := H3.2 q
          refine z_iload_n 1 dX3_look_77 rfl (z_bipush (w := 46) dX3_look_78 (by decide) ?_)
          refine z_icmp_ge (t := 95) dX3_look_80 (by decide) (fun q => ?_) (fun q => ?_)
          · have H6 := H5.1 q
            exact z_less [0, 1] rfl H6
          · have H7 := H5.2 q
            refine z_aload_n 0 dX3_look_83 rfl rfl ?_
            obtain ⟨oe10, b8, e10, H9⟩ := H7
            refine z_getP dX3_look_84 wf_X3_28 (by decide) (by decide) rfl oe10 (fun q => (by cases q.symm.trans e10)) (fun j q => ?_)
            cases q.symm.trans e10
            refine z_iload_n 1 dX3_look_87 rfl (z_bipush (w := 40) dX3_look_88 (by decide) (z_isub dX3_look_90 ?_))
            obtain ⟨w11, c12, H13⟩ := H9
            refine z_stat (As := [.ref b8, .int (x1 - 40)]) (st := []) (r1 := (some (.int w11))) (h1 := (g, I, P)) dX3_look_91 kX11_got wm_X3_63 ⟨by decide, by decide⟩ rfl rfl (Nat.le_of_ble_eq_true rfl) (by decide) (by decide) c12 ?_
            obtain ⟨rfl, rfl⟩ := H13
            exact z_iret dX3_look_94 rfl (by decide) (by decide)
      · have H14 := H2.2 q
        refine z_iload_n 1 dX3_look_25 rfl (z_bipush (w := 100) dX3_look_26 (by decide) (z_isub dX3_look_28 (z_istore_n (lv' := [(2, .int (x1 - 100)), (0, .ref a0), (1, .int x1)]) dX3_look_29 (by decide) rfl (z_iload_n 0 dX3_look_30 rfl (z_bipush (w := 6) dX3_look_31 (by decide) (z_idiv dX3_look_33 (by decide) (z_istore_n (lv' := [(3, .int ((x1 - 100) / 6)), (2, .int (x1 - 100)), (0, .ref a0), (1, .int x1)]) dX3_look_34 (by decide) rfl (z_iload_n 1 dX3_look_35 rfl (z_bipush (w := 6) dX3_look_36 (by decide) (z_irem dX3_look_38 (by decide) ?_))))))))))
        refine z_nm (fun y15 e_y15 => ?_)
        have H16 := H14 y15 e_y15
        refine z_istore (lv' := [(4, .int y15), (3, .int ((x1 - 100) / 6)), (2, .int (x1 - 100)), (0, .ref a0), (1, .int x1)]) dX3_look_39 (by decide) rfl (z_aload_n 3 dX3_look_41 rfl rfl (z_iload_n 1 dX3_look_42 rfl ?_))
        obtain ⟨oc18, w17, c18, H19⟩ := H16
        refine z_virt (As := [.int ((x1 - 100) / 6)]) (st := []) (r1 := (some (.int w17))) (h1 := (g, I, P)) dX3_look_43 kX3_hasWord wm_X3_51 ⟨by decide, by decide⟩ rfl rfl (Nat.le_of_ble_eq_true rfl) (by decide) (by decide) oc18 c18 ?_
        refine z_if_eq (t := 69) dX3_look_46 (by decide) (fun q => ?_) (fun q => ?_)
        · have H20 := H19.1 q
          refine z_iconst (w := (-1)) dX3_look_69 (by decide) ?_
          obtain ⟨rfl, rfl⟩ := H20
          exact z_iret dX3_look_70 rfl (by decide) (by decide)
        · have H21 := H19.2 q
          refine z_iload 0 dX3_look_49 rfl (z_aload_n 3 dX3_look_51 rfl rfl (z_iload_n 1 dX3_look_52 rfl ?_))
          obtain ⟨oc23, w22, c23, H24⟩ := H21
          refine z_virt (As := [.int ((x1 - 100) / 6)]) (st := [.int y15]) (r1 := (some (.int w22))) (h1 := (g, I, P)) dX3_look_53 kX3_sizeOf wm_X3_55 ⟨by decide, by decide⟩ rfl rfl (Nat.le_of_ble_eq_true rfl) (by decide) (by decide) oc23 c23 ?_
          refine z_icmp_ge (t := 69) dX3_look_56 (by decide) (fun q => ?_) (fun q => ?_)
          · have H25 := H24.1 q
            refine z_iconst (w := (-1)) dX3_look_69 (by decide) ?_
            obtain ⟨rfl, rfl⟩ := H25
            exact z_iret dX3_look_70 rfl (by decide) (by decide)
          · have H26 := H24.2 q
            refine z_aload_n 3 dX3_look_59 rfl rfl (z_iload_n 1 dX3_look_60 rfl (z_iload 0 dX3_look_61 rfl ?_))
            obtain ⟨oc28, w27, c28, H29⟩ := H26
            refine z_virt (As := [.int ((x1 - 100) / 6), .int y15]) (st := []) (r1 := (some (.int w27))) (h1 := (g, I, P)) dX3_look_63 kX3_letterOf wm_X3_59 ⟨by decide, by decide⟩ rfl rfl (Nat.le_of_ble_eq_true rfl) (by decide) (by decide) oc28 c28 ?_
            refine z_goto (t := 70) dX3_look_66 (by decide) ?_
            obtain ⟨rfl, rfl⟩ := H29
            exact z_iret dX3_look_70 rfl (by decide) (by decide)
    · have H30 := H1.2 q
      refine z_aload_n 0 dX3_look_14 rfl rfl (z_getI dX3_look_15 wf_X3_31 (by decide) (by decide) rfl H30.1 ?_)
      obtain ⟨rfl, rfl⟩ := H30.2
      exact z_iret dX3_look_18 rfl (by decide) (by decide)
  · have H31 := H.2 q
    refine z_aload_n 0 dX3_look_4 rfl rfl (z_getI dX3_look_5 wf_X3_9 (by decide) (by decide) rfl H31.1 ?_)
    obtain ⟨rfl, rfl⟩ := H31.2
    exact z_iret dX3_look_8 rfl (by decide) (by decide)
theorem eX3_look {g : zG} {I : Nat → Nat → Int32} {P : Nat → Nat → Option Nat} {r : Option Value} {h' : zH} {a0 : Nat} {x1 : Int32} (H : Zt none mX3_look 0 0 0 [(0, .ref a0), (1, .int x1)] [] (g, I, P) r h') : Cl mX3_look [.ref a0, .int x1] (g, I, P) r h' := Cl.of (by decide) (Nat.le_of_ble_eq_true rfl) H
set_option maxRecDepth 10000 in
theorem wX3_look_95 {g : zG} {I : Nat → Nat → Int32} {P : Nat → Nat → Option Nat} {r : Option Value} {h' : zH} {a0 : Nat} {x1 : Int32} (H : ((x1 < 10) → r = some (.int (-1)) ∧ h' = (g, I, P)) ∧ ((¬ x1 < 10) → ((40 ≤ x1) → r = some (.int (-1)) ∧ h' = (g, I, P)) ∧ ((¬ 40 ≤ x1) → zk g a0 3 ∧ ∃ (w5 : Int32), Cl mX3_lookAtWord [.ref a0, .int (x1 / 10), .int (x1 - x1 / 10 * 10)] (g, I, P) (some (.int w5)) (g, I, P) ∧ r = some (.int w5) ∧ h' = (g, I, P)))) : Zt none mX3_look 0 0 95 [(0, .ref a0), (1, .int x1)] [] (g, I, P) r h' := by
  refine z_iload_n 1 dX3_look_95 rfl (z_bipush (w := 10) dX3_look_96 (by decide) ?_)
  refine z_icmp_lt (t := 122) dX3_look_98 (by decide) (fun q => ?_) (fun q => ?_)
  · have H1 := H.1 q
    refine z_iconst (w := (-1)) dX3_look_122 (by decide) ?_
    obtain ⟨rfl, rfl⟩ := H1
    exact z_iret dX3_look_123 rfl (by decide) (by decide)
  · have H2 := H.2 q
    refine z_iload_n 1 dX3_look_101 rfl (z_bipush (w := 40) dX3_look_102 (by decide) ?_)
    refine z_icmp_ge (t := 122) dX3_look_104 (by decide) (fun q => ?_) (fun q => ?_)
    · have H3 := H2.1 q
      refine z_iconst (w := (-1)) dX3_look_122 (by decide) ?_
      obtain ⟨rfl, rfl⟩ := H3
      exact z_iret dX3_look_123 rfl (by decide) (by decide)
    · have H4 := H2.2 q
      refine z_aload_n 0 dX3_look_107 rfl rfl (z_iload_n 1 dX3_look_108 rfl (z_bipush (w := 10) dX3_look_109 (by decide) (z_idiv dX3_look_111 (by decide) (z_iload_n 1 dX3_look_112 rfl (z_bipush (w := 10) dX3_look_113 (by decide) (z_irem dX3_look_115 (by decide) ?_))))))
      obtain ⟨oc6, w5, c6, H7⟩ := H4
      refine z_virt (As := [.int (x1 / 10), .int (x1 - x1 / 10 * 10)]) (st := []) (r1 := (some (.int w5))) (h1 := (g, I, P)) dX3_look_116 kX3_lookAtWord wm_X3_67 ⟨by decide, by decide⟩ rfl rfl (Nat.le_of_ble_eq_true rfl) (by decide) (by decide) oc6 c6 ?_
      refine z_goto (t := 123) dX3_look_119 (by decide) ?_
      obtain ⟨rfl, rfl⟩ := H7
      exact z_iret dX3_look_123 rfl (by decide) (by decide)
theorem dX3_lookAtWord_0 : decode cX3_lookAtWord 0 = .ok (.aload_n 0, 1) := by decide +kernel
theorem dX3_lookAtWord_1 : decode cX3_lookAtWord 1 = .ok (.iload_n 2, 1) := by decide +kernel
theorem dX3_lookAtWord_2 : decode cX3_lookAtWord 2 = .ok (.invokevirtual 51, 3) := by decide +kernel
theorem dX3_lookAtWord_5 : decode cX3_lookAtWord 5 = .ok (.ifCond .ne 5, 3) := by decide +kernel
theorem dX3_lookAtWord_8 : decode cX3_lookAtWord 8 = .ok (.iconst (-1), 1) := by decide +kernel
theorem dX3_lookAtWord_9 : decode cX3_lookAtWord 9 = .ok (.ireturn, 1) := by decide +kernel
theorem dX3_lookAtWord_10 : decode cX3_lookAtWord 10 = .ok (.iload_n 1, 1) := by decide +kernel
theorem dX3_lookAtWord_11 : decode cX3_lookAtWord 11 = .ok (.tableswitch 43 1 3 #[25, 31, 37], 25) := by decide +kernel
theorem dX3_lookAtWord_36 : decode cX3_lookAtWord 36 = .ok (.aload_n 0, 1) := by decide +kernel
theorem dX3_lookAtWord_37 : decode cX3_lookAtWord 37 = .ok (.iload_n 2, 1) := by decide +kernel
theorem dX3_lookAtWord_38 : decode cX3_lookAtWord 38 = .ok (.invokevirtual 55, 3) := by decide +kernel
theorem dX3_lookAtWord_41 : decode cX3_lookAtWord 41 = .ok (.ireturn, 1) := by decide +kernel
theorem dX3_lookAtWord_42 : decode cX3_lookAtWord 42 = .ok (.aload_n 0, 1) := by decide +kernel
theorem dX3_lookAtWord_43 : decode cX3_lookAtWord 43 = .ok (.iload_n 2, 1) := by decide +kernel
theorem dX3_lookAtWord_44 : decode cX3_lookAtWord 44 = .ok (.invokevirtual 70, 3) := by decide +kernel
theorem dX3_lookAtWord_47 : decode cX3_lookAtWord 47 = .ok (.ireturn, 1) := by decide +kernel
theorem dX3_lookAtWord_48 : decode cX3_lookAtWord 48 = .ok (.aload_n 0, 1) := by decide +kernel
theorem dX3_lookAtWord_49 : decode cX3_lookAtWord 49 = .ok (.iload_n 2, 1) := by decide +kernel
theorem dX3_lookAtWord_50 : decode cX3_lookAtWord 50 = .ok (.invokevirtual 73, 3) := by decide +kernel
theorem dX3_lookAtWord_53 : decode cX3_lookAtWord 53 = .ok (.ireturn, 1) := by decide +kernel
theorem dX3_lookAtWord_54 : decode cX3_lookAtWord 54 = .ok (.iconst (-1), 1) := by decide +kernel
theorem dX3_lookAtWord_55 : decode cX3_lookAtWord 55 = .ok (.ireturn, 1) := by decide +kernel
set_option maxRecDepth 10000 in
theorem wX3_lookAtWord_0 {g : zG} {I : Nat → Nat → Int32} {P : Nat → Nat → Option Nat} {r : Option Value} {h' : zH} {a0 : Nat} {x1 : Int32} {x2 : Int32} (H : zk g a0 3 ∧ ∃ (w1 : Int32), Cl mX3_hasWord [.ref a0, .int x2] (g, I, P) (some (.int w1)) (g, I, P) ∧ ((¬ w1 = 0) → ((x1 = 1) → zk g a0 3 ∧ ∃ (w7 : Int32), Cl mX3_sizeOf [.ref a0, .int x2] (g, I, P) (some (.int w7)) (g, I, P) ∧ r = some (.int w7) ∧ h' = (g, I, P)) ∧ ((x1 = 2) → zk g a0 3 ∧ ∃ (w12 : Int32), Cl mX3_oftenOf [.ref a0, .int x2] (g, I, P) (some (.int w12)) (g, I, P) ∧ r = some (.int w12) ∧ h' = (g, I, P)) ∧ ((x1 = 3) → zk g a0 3 ∧ ∃ (w17 : Int32), Cl mX3_behind [.ref a0, .int x2] (g, I, P) (some (.int w17)) (g, I, P) ∧ r = some (.int w17) ∧ h' = (g, I, P)) ∧ (¬ x1 = 1 → ¬ x1 = 2 → ¬ x1 = 3 → r = some (.int (-1)) ∧ h' = (g, I, P))) ∧ ((w1 = 0) → r = some (.int (-1)) ∧ h' = (g, I, P))) : Zt none mX3_lookAtWord 0 0 0 [(0, .ref a0), (1, .int x1), (2, .int x2)] [] (g, I, P) r h' := by
  refine z_aload_n 0 dX3_lookAtWord_0 rfl rfl (z_iload_n 2 dX3_lookAtWord_1 rfl ?_)
  obtain ⟨oc2, w1, c2, H3⟩ := H
  refine z_virt (As := [.int x2]) (st := []) (r1 := (some (.int w1))) (h1 := (g, I, P)) dX3_lookAtWord_2 kX3_hasWord wm_X3_51 ⟨by decide, by decide⟩ rfl rfl (Nat.le_of_ble_eq_true rfl) (by decide) (by decide) oc2 c2 ?_
  refine z_if_ne (t := 10) dX3_lookAtWord_5 (by decide) (fun q => ?_) (fun q => ?_)
  · have H4 := H3.1 q
    refine z_iload_n 1 dX3_lookAtWord_10 rfl ?_
    by_cases q5 : x1 = 1
    · have H6 := H4.1 q5
      have eq5 : (x1 : Int32).toInt = 1 := by rw [q5]; decide
      refine z_tableIn (off := 25) (t := 36) dX3_lookAtWord_11 (by rw [eq5]; decide) (by rw [eq5]; decide) (by rw [eq5]; rfl) (by decide) ?_
      refine z_aload_n 0 dX3_lookAtWord_36 rfl rfl (z_iload_n 2 dX3_lookAtWord_37 rfl ?_)
      obtain ⟨oc8, w7, c8, H9⟩ := H6
      refine z_virt (As := [.int x2]) (st := []) (r1 := (some (.int w7))) (h1 := (g, I, P)) dX3_lookAtWord_38 kX3_sizeOf wm_X3_55 ⟨by decide, by decide⟩ rfl rfl (Nat.le_of_ble_eq_true rfl) (by decide) (by decide) oc8 c8 ?_
      obtain ⟨rfl, rfl⟩ := H9
      exact z_iret dX3_lookAtWord_41 rfl (by decide) (by decide)
    by_cases q10 : x1 = 2
    · have H11 := H4.2.1 q10
      have eq10 : (x1 : Int32).toInt = 2 := by rw [q10]; decide
      refine z_tableIn (off := 31) (t := 42) dX3_lookAtWord_11 (by rw [eq10]; decide) (by rw [eq10]; decide) (by rw [eq10]; rfl) (by decide) ?_
      refine z_aload_n 0 dX3_lookAtWord_42 rfl rfl (z_iload_n 2 dX3_lookAtWord_43 rfl ?_)
      obtain ⟨oc13, w12, c13, H14⟩ := H11
      refine z_virt (As := [.int x2]) (st := []) (r1 := (some (.int w12))) (h1 := (g, I, P)) dX3_lookAtWord_44 kX3_oftenOf wm_X3_70 ⟨by decide, by decide⟩ rfl rfl (Nat.le_of_ble_eq_true rfl) (by decide) (by decide) oc13 c13 ?_
      obtain ⟨rfl, rfl⟩ := H14
      exact z_iret dX3_lookAtWord_47 rfl (by decide) (by decide)
    by_cases q15 : x1 = 3
    · have H16 := H4.2.2.1 q15
      have eq15 : (x1 : Int32).toInt = 3 := by rw [q15]; decide
      refine z_tableIn (off := 37) (t := 48) dX3_lookAtWord_11 (by rw [eq15]; decide) (by rw [eq15]; decide) (by rw [eq15]; rfl) (by decide) ?_
      refine z_aload_n 0 dX3_lookAtWord_48 rfl rfl (z_iload_n 2 dX3_lookAtWord_49 rfl ?_)
      obtain ⟨oc18, w17, c18, H19⟩ := H16
      refine z_virt (As := [.int x2]) (st := []) (r1 := (some (.int w17))) (h1 := (g, I, P)) dX3_lookAtWord_50 kX3_behind wm_X3_73 ⟨by decide, by decide⟩ rfl rfl (Nat.le_of_ble_eq_true rfl) (by decide) (by decide) oc18 c18 ?_
      obtain ⟨rfl, rfl⟩ := H19
      exact z_iret dX3_lookAtWord_53 rfl (by decide) (by decide)
    have H20 := H4.2.2.2 q5 q10 q15
    have nq5 := lv_neT q5 (show (1 : Int32).toInt = 1 by decide)
    have nq10 := lv_neT q10 (show (2 : Int32).toInt = 2 by decide)
    have nq15 := lv_neT q15 (show (3 : Int32).toInt = 3 by decide)
    refine z_tableOut (t := 54) dX3_lookAtWord_11 (by omega) (by decide) ?_
    refine z_iconst (w := (-1)) dX3_lookAtWord_54 (by decide) ?_
    obtain ⟨rfl, rfl⟩ := H20
    exact z_iret dX3_lookAtWord_55 rfl (by decide) (by decide)
  · have H21 := H3.2 q
    refine z_iconst (w := (-1)) dX3_lookAtWord_8 (by decide) ?_
    obtain ⟨rfl, rfl⟩ := H21
    exact z_iret dX3_lookAtWord_9 rfl (by decide) (by decide)
theorem eX3_lookAtWord {g : zG} {I : Nat → Nat → Int32} {P : Nat → Nat → Option Nat} {r : Option Value} {h' : zH} {a0 : Nat} {x1 : Int32} {x2 : Int32} (H : Zt none mX3_lookAtWord 0 0 0 [(0, .ref a0), (1, .int x1), (2, .int x2)] [] (g, I, P) r h') : Cl mX3_lookAtWord [.ref a0, .int x1, .int x2] (g, I, P) r h' := Cl.of (by decide) (Nat.le_of_ble_eq_true rfl) H
theorem dX3_hasWord_0 : decode cX3_hasWord 0 = .ok (.iload_n 1, 1) := by decide +kernel
theorem dX3_hasWord_1 : decode cX3_hasWord 1 = .ok (.ifCond .lt 15, 3) := by decide +kernel
theorem dX3_hasWord_4 : decode cX3_hasWord 4 = .ok (.iload_n 1, 1) := by decide +kernel
theorem dX3_hasWord_5 : decode cX3_hasWord 5 = .ok (.aload_n 0, 1) := by decide +kernel
theorem dX3_hasWord_6 : decode cX3_hasWord 6 = .ok (.getfield 31, 3) := by decide +kernel
theorem dX3_hasWord_9 : decode cX3_hasWord 9 = .ok (.if_icmp .ge 7, 3) := by decide +kernel
theorem dX3_hasWord_12 : decode cX3_hasWord 12 = .ok (.iconst 1, 1) := by decide +kernel
theorem dX3_hasWord_13 : decode cX3_hasWord 13 = .ok (.goto 4, 3) := by decide +kernel
theorem dX3_hasWord_16 : decode cX3_hasWord 16 = .ok (.iconst 0, 1) := by decide +kernel
theorem dX3_hasWord_17 : decode cX3_hasWord 17 = .ok (.ireturn, 1) := by decide +kernel
set_option maxRecDepth 10000 in
theorem wX3_hasWord_0 {g : zG} {I : Nat → Nat → Int32} {P : Nat → Nat → Option Nat} {r : Option Value} {h' : zH} {a0 : Nat} {x1 : Int32} (H : ((x1 < 0) → r = some (.int 0) ∧ h' = (g, I, P)) ∧ ((¬ x1 < 0) → zk g a0 3 ∧ ((I a0 1 ≤ x1) → r = some (.int 0) ∧ h' = (g, I, P)) ∧ ((¬ I a0 1 ≤ x1) → r = some (.int 1) ∧ h' = (g, I, P)))) : Zt none mX3_hasWord 0 0 0 [(0, .ref a0), (1, .int x1)] [] (g, I, P) r h' := by
  refine z_iload_n 1 dX3_hasWord_0 rfl ?_
  refine z_if_lt (t := 16) dX3_hasWord_1 (by decide) (fun q => ?_) (fun q => ?_)
  · have H1 := H.1 q
    refine z_iconst (w := 0) dX3_hasWord_16 (by decide) ?_
    obtain ⟨rfl, rfl⟩ := H1
    exact z_zret dX3_hasWord_17 rfl (Or.inl rfl) (by decide) (by decide)
  · have H2 := H.2 q
    refine z_iload_n 1 dX3_hasWord_4 rfl (z_aload_n 0 dX3_hasWord_5 rfl rfl (z_getI dX3_hasWord_6 wf_X3_31 (by decide) (by decide) rfl H2.1 ?_))
    refine z_icmp_ge (t := 16) dX3_hasWord_9 (by decide) (fun q => ?_) (fun q => ?_)
    · have H3 := H2.2.1 q
      refine z_iconst (w := 0) dX3_hasWord_16 (by decide) ?_
      obtain ⟨rfl, rfl⟩ := H3
      exact z_zret dX3_hasWord_17 rfl (Or.inl rfl) (by decide) (by decide)
    · have H4 := H2.2.2 q
      refine z_iconst (w := 1) dX3_hasWord_12 (by decide) (z_goto (t := 17) dX3_hasWord_13 (by decide) ?_)
      obtain ⟨rfl, rfl⟩ := H4
      exact z_zret dX3_hasWord_17 rfl (Or.inr rfl) (by decide) (by decide)
theorem eX3_hasWord {g : zG} {I : Nat → Nat → Int32} {P : Nat → Nat → Option Nat} {r : Option Value} {h' : zH} {a0 : Nat} {x1 : Int32} (H : Zt none mX3_hasWord 0 0 0 [(0, .ref a0), (1, .int x1)] [] (g, I, P) r h') : Cl mX3_hasWord [.ref a0, .int x1] (g, I, P) r h' := Cl.of (by decide) (Nat.le_of_ble_eq_true rfl) H
theorem dX3_sizeOf_0 : decode cX3_sizeOf 0 = .ok (.aload_n 0, 1) := by decide +kernel
theorem dX3_sizeOf_1 : decode cX3_sizeOf 1 = .ok (.getfield 15, 3) := by decide +kernel
theorem dX3_sizeOf_4 : decode cX3_sizeOf 4 = .ok (.iload_n 1, 1) := by decide +kernel
theorem dX3_sizeOf_5 : decode cX3_sizeOf 5 = .ok (.invokestatic 63, 3) := by decide +kernel
theorem dX3_sizeOf_8 : decode cX3_sizeOf 8 = .ok (.ireturn, 1) := by decide +kernel
set_option maxRecDepth 10000 in
theorem wX3_sizeOf_0 {g : zG} {I : Nat → Nat → Int32} {P : Nat → Nat → Option Nat} {r : Option Value} {h' : zH} {a0 : Nat} {x1 : Int32} (H : zk g a0 3 ∧ ∃ b1, P a0 4 = some b1 ∧ ∃ (w4 : Int32), Cl mX11_got [.ref b1, .int x1] (g, I, P) (some (.int w4)) (g, I, P) ∧ r = some (.int w4) ∧ h' = (g, I, P)) : Zt none mX3_sizeOf 0 0 0 [(0, .ref a0), (1, .int x1)] [] (g, I, P) r h' := by
  refine z_aload_n 0 dX3_sizeOf_0 rfl rfl ?_
  obtain ⟨oe3, b1, e3, H2⟩ := H
  refine z_getP dX3_sizeOf_1 wf_X3_15 (by decide) (by decide) rfl oe3 (fun q => (by cases q.symm.trans e3)) (fun j q => ?_)
  cases q.symm.trans e3
  refine z_iload_n 1 dX3_sizeOf_4 rfl ?_
  obtain ⟨w4, c5, H6⟩ := H2
  refine z_stat (As := [.ref b1, .int x1]) (st := []) (r1 := (some (.int w4))) (h1 := (g, I, P)) dX3_sizeOf_5 kX11_got wm_X3_63 ⟨by decide, by decide⟩ rfl rfl (Nat.le_of_ble_eq_true rfl) (by decide) (by decide) c5 ?_
  obtain ⟨rfl, rfl⟩ := H6
  exact z_iret dX3_sizeOf_8 rfl (by decide) (by decide)
theorem eX3_sizeOf {g : zG} {I : Nat → Nat → Int32} {P : Nat → Nat → Option Nat} {r : Option Value} {h' : zH} {a0 : Nat} {x1 : Int32} (H : Zt none mX3_sizeOf 0 0 0 [(0, .ref a0), (1, .int x1)] [] (g, I, P) r h') : Cl mX3_sizeOf [.ref a0, .int x1] (g, I, P) r h' := Cl.of (by decide) (Nat.le_of_ble_eq_true rfl) H
theorem dX3_oftenOf_0 : decode cX3_oftenOf 0 = .ok (.aload_n 0, 1) := by decide +kernel
theorem dX3_oftenOf_1 : decode cX3_oftenOf 1 = .ok (.getfield 19, 3) := by decide +kernel
theorem dX3_oftenOf_4 : decode cX3_oftenOf 4 = .ok (.iload_n 1, 1) := by decide +kernel
theorem dX3_oftenOf_5 : decode cX3_oftenOf 5 = .ok (.invokestatic 63, 3) := by decide +kernel
theorem dX3_oftenOf_8 : decode cX3_oftenOf 8 = .ok (.ireturn, 1) := by decide +kernel
set_option maxRecDepth 10000 in
theorem wX3_oftenOf_0 {g : zG} {I : Nat → Nat → Int32} {P : Nat → Nat → Option Nat} {r : Option Value} {h' : zH} {a0 : Nat} {x1 : Int32} (H : zk g a0 3 ∧ ∃ b1, P a0 5 = some b1 ∧ ∃ (w4 : Int32), Cl mX11_got [.ref b1, .int x1] (g, I, P) (some (.int w4)) (g, I, P) ∧ r = some (.int w4) ∧ h' = (g, I, P)) : Zt none mX3_oftenOf 0 0 0 [(0, .ref a0), (1, .int x1)] [] (g, I, P) r h' := by
  refine z_aload_n 0 dX3_oftenOf_0 rfl rfl ?_
  obtain ⟨oe3, b1, e3, H2⟩ := H
  refine z_getP dX3_oftenOf_1 wf_X3_19 (by decide) (by decide) rfl oe3 (fun q => (by cases q.symm.trans e3)) (fun j q => ?_)
  cases q.symm.trans e3
  refine z_iload_n 1 dX3_oftenOf_4 rfl ?_
  obtain ⟨w4, c5, H6⟩ := H2
  refine z_stat (As := [.ref b1, .int x1]) (st := []) (r1 := (some (.int w4))) (h1 := (g, I, P)) dX3_oftenOf_5 kX11_got wm_X3_63 ⟨by decide, by decide⟩ rfl rfl (Nat.le_of_ble_eq_true rfl) (by decide) (by decide) c5 ?_
  obtain ⟨rfl, rfl⟩ := H6
  exact z_iret dX3_oftenOf_8 rfl (by decide) (by decide)
theorem eX3_oftenOf {g : zG} {I : Nat → Nat → Int32} {P : Nat → Nat → Option Nat} {r : Option Value} {h' : zH} {a0 : Nat} {x1 : Int32} (H : Zt none mX3_oftenOf 0 0 0 [(0, .ref a0), (1, .int x1)] [] (g, I, P) r h') : Cl mX3_oftenOf [.ref a0, .int x1] (g, I, P) r h' := Cl.of (by decide) (Nat.le_of_ble_eq_true rfl) H
theorem dX3_letterOf_0 : decode cX3_letterOf 0 = .ok (.aload_n 0, 1) := by decide +kernel
theorem dX3_letterOf_1 : decode cX3_letterOf 1 = .ok (.getfield 25, 3) := by decide +kernel
theorem dX3_letterOf_4 : decode cX3_letterOf 4 = .ok (.iload_n 1, 1) := by decide +kernel
theorem dX3_letterOf_5 : decode cX3_letterOf 5 = .ok (.bipush 6, 2) := by decide +kernel
theorem dX3_letterOf_7 : decode cX3_letterOf 7 = .ok (.imul, 1) := by decide +kernel
theorem dX3_letterOf_8 : decode cX3_letterOf 8 = .ok (.iload_n 2, 1) := by decide +kernel
theorem dX3_letterOf_9 : decode cX3_letterOf 9 = .ok (.iadd, 1) := by decide +kernel
theorem dX3_letterOf_10 : decode cX3_letterOf 10 = .ok (.invokestatic 63, 3) := by decide +kernel
theorem dX3_letterOf_13 : decode cX3_letterOf 13 = .ok (.ireturn, 1) := by decide +kernel
set_option maxRecDepth 10000 in
theorem wX3_letterOf_0 {g : zG} {I : Nat → Nat → Int32} {P : Nat → Nat → Option Nat} {r : Option Value} {h' : zH} {a0 : Nat} {x1 : Int32} {x2 : Int32} (H : zk g a0 3 ∧ ∃ b1, P a0 7 = some b1 ∧ ∃ (w4 : Int32), Cl mX11_got [.ref b1, .int ((x1 * 6) + x2)] (g, I, P) (some (.int w4)) (g, I, P) ∧ r = some (.int w4) ∧ h' = (g, I, P)) : Zt none mX3_letterOf 0 0 0 [(0, .ref a0), (1, .int x1), (2, .int x2)] [] (g, I, P) r h' := by
  refine z_aload_n 0 dX3_letterOf_0 rfl rfl ?_
  obtain ⟨oe3, b1, e3, H2⟩ := H
  refine z_getP dX3_letterOf_1 wf_X3_25 (by decide) (by decide) rfl oe3 (fun q => (by cases q.symm.trans e3)) (fun j q => ?_)
  cases q.symm.trans e3
  refine z_iload_n 1 dX3_letterOf_4 rfl (z_bipush (w := 6) dX3_letterOf_5 (by decide) (z_imul dX3_letterOf_7 (z_iload_n 2 dX3_letterOf_8 rfl (z_iadd dX3_letterOf_9 ?_))))
  obtain ⟨w4, c5, H6⟩ := H2
  refine z_stat (As := [.ref b1, .int ((x1 * 6) + x2)]) (st := []) (r1 := (some (.int w4))) (h1 := (g, I, P)) dX3_letterOf_10 kX11_got wm_X3_63 ⟨by decide, by decide⟩ rfl rfl (Nat.le_of_ble_eq_true rfl) (by decide) (by decide) c5 ?_
  obtain ⟨rfl, rfl⟩ := H6
  exact z_iret dX3_letterOf_13 rfl (by decide) (by decide)
theorem eX3_letterOf {g : zG} {I : Nat → Nat → Int32} {P : Nat → Nat → Option Nat} {r : Option Value} {h' : zH} {a0 : Nat} {x1 : Int32} {x2 : Int32} (H : Zt none mX3_letterOf 0 0 0 [(0, .ref a0), (1, .int x1), (2, .int x2)] [] (g, I, P) r h') : Cl mX3_letterOf [.ref a0, .int x1, .int x2] (g, I, P) r h' := Cl.of (by decide) (Nat.le_of_ble_eq_true rfl) H
theorem dX3_all_0 : decode cX3_all 0 = .ok (.iconst 1, 1) := by decide +kernel
theorem dX3_all_1 : decode cX3_all 1 = .ok (.aload_n 0, 1) := by decide +kernel
theorem dX3_all_2 : decode cX3_all 2 = .ok (.getfield 31, 3) := by decide +kernel
theorem dX3_all_5 : decode cX3_all 5 = .ok (.ishl, 1) := by decide +kernel
theorem dX3_all_6 : decode cX3_all 6 = .ok (.iconst 1, 1) := by decide +kernel
theorem dX3_all_7 : decode cX3_all 7 = .ok (.isub, 1) := by decide +kernel
theorem dX3_all_8 : decode cX3_all 8 = .ok (.ireturn, 1) := by decide +kernel
set_option maxRecDepth 10000 in
theorem wX3_all_0 {g : zG} {I : Nat → Nat → Int32} {P : Nat → Nat → Option Nat} {r : Option Value} {h' : zH} {a0 : Nat} (H : zk g a0 3 ∧ r = some (.int (((1 : Int32) <<< ((I a0 1) &&& 31)) - 1)) ∧ h' = (g, I, P)) : Zt none mX3_all 0 0 0 [(0, .ref a0)] [] (g, I, P) r h' := by
  refine z_iconst (w := 1) dX3_all_0 (by decide) (z_aload_n 0 dX3_all_1 rfl rfl (z_getI dX3_all_2 wf_X3_31 (by decide) (by decide) rfl H.1 (z_ishl dX3_all_5 (z_iconst (w := 1) dX3_all_6 (by decide) (z_isub dX3_all_7 ?_)))))
  obtain ⟨rfl, rfl⟩ := H.2
  exact z_iret dX3_all_8 rfl (by decide) (by decide)
theorem eX3_all {g : zG} {I : Nat → Nat → Int32} {P : Nat → Nat → Option Nat} {r : Option Value} {h' : zH} {a0 : Nat} (H : Zt none mX3_all 0 0 0 [(0, .ref a0)] [] (g, I, P) r h') : Cl mX3_all [.ref a0] (g, I, P) r h' := Cl.of (by decide) (Nat.le_of_ble_eq_true rfl) H
theorem dX3_behind_0 : decode cX3_behind 0 = .ok (.aload_n 0, 1) := by decide +kernel
theorem dX3_behind_1 : decode cX3_behind 1 = .ok (.getfield 34, 3) := by decide +kernel
theorem dX3_behind_4 : decode cX3_behind 4 = .ok (.ifCond .eq 19, 3) := by decide +kernel
theorem dX3_behind_7 : decode cX3_behind 7 = .ok (.iload_n 1, 1) := by decide +kernel
theorem dX3_behind_8 : decode cX3_behind 8 = .ok (.iconst (-1), 1) := by decide +kernel
theorem dX3_behind_9 : decode cX3_behind 9 = .ok (.if_icmp .eq 14, 3) := by decide +kernel
theorem dX3_behind_12 : decode cX3_behind 12 = .ok (.aload_n 0, 1) := by decide +kernel
theorem dX3_behind_13 : decode cX3_behind 13 = .ok (.getfield 22, 3) := by decide +kernel
theorem dX3_behind_16 : decode cX3_behind 16 = .ok (.iload_n 1, 1) := by decide +kernel
theorem dX3_behind_17 : decode cX3_behind 17 = .ok (.invokestatic 63, 3) := by decide +kernel
theorem dX3_behind_20 : decode cX3_behind 20 = .ok (.goto 7, 3) := by decide +kernel
theorem dX3_behind_23 : decode cX3_behind 23 = .ok (.aload_n 0, 1) := by decide +kernel
theorem dX3_behind_24 : decode cX3_behind 24 = .ok (.invokevirtual 76, 3) := by decide +kernel
theorem dX3_behind_27 : decode cX3_behind 27 = .ok (.ireturn, 1) := by decide +kernel
set_option maxRecDepth 10000 in
theorem wX3_behind_0 {g : zG} {I : Nat → Nat → Int32} {P : Nat → Nat → Option Nat} {r : Option Value} {h' : zH} {a0 : Nat} {x1 : Int32} (H : zk g a0 3 ∧ ((I a0 2 = 0) → zk g a0 3 ∧ ∃ (w2 : Int32), Cl mX3_all [.ref a0] (g, I, P) (some (.int w2)) (g, I, P) ∧ r = some (.int w2) ∧ h' = (g, I, P)) ∧ ((¬ I a0 2 = 0) → ((x1 = (-1)) → zk g a0 3 ∧ ∃ (w7 : Int32), Cl mX3_all [.ref a0] (g, I, P) (some (.int w7)) (g, I, P) ∧ r = some (.int w7) ∧ h' = (g, I, P)) ∧ ((¬ x1 = (-1)) → zk g a0 3 ∧ ∃ b11, P a0 6 = some b11 ∧ ∃ (w14 : Int32), Cl mX11_got [.ref b11, .int x1] (g, I, P) (some (.int w14)) (g, I, P) ∧ r = some (.int w14) ∧ h' = (g, I, P)))) : Zt none mX3_behind 0 0 0 [(0, .ref a0), (1, .int x1)] [] (g, I, P) r h' := by
  refine z_aload_n 0 dX3_behind_0 rfl rfl (z_getI dX3_behind_1 wf_X3_34 (by decide) (by decide) rfl H.1 ?_)
  refine z_if_eq (t := 23) dX3_behind_4 (by decide) (fun q => ?_) (fun q => ?_)
  · have H1 := H.2.1 q
    refine z_aload_n 0 dX3_behind_23 rfl rfl ?_
    obtain ⟨oc3, w2, c3, H4⟩ := H1
    refine z_virt (As := []) (st := []) (r1 := (some (.int w2))) (h1 := (g, I, P)) dX3_behind_24 kX3_all wm_X3_76 ⟨by decide, by decide⟩ rfl rfl (Nat.le_of_ble_eq_true rfl) (by decide) (by decide) oc3 c3 ?_
    obtain ⟨rfl, rfl⟩ := H4
    exact z_iret dX3_behind_27 rfl (by decide) (by decide)
  · have H5 := H.2.2 q
    refine z_iload_n 1 dX3_behind_7 rfl (z_iconst (w := (-1)) dX3_behind_8 (by decide) ?_)
    refine z_icmp_eq (t := 23) dX3_behind_9 (by decide) (fun q => ?_) (fun q => ?_)
    · have H6 := H5.1 q
      refine z_aload_n 0 dX3_behind_23 rfl rfl ?_
      obtain ⟨oc8, w7, c8, H9⟩ := H6
      refine z_virt (As := []) (st := []) (r1 := (some (.int w7))) (h1 := (g, I, P)) dX3_behind_24 kX3_all wm_X3_76 ⟨by decide, by decide⟩ rfl rfl (Nat.le_of_ble_eq_true rfl) (by decide) (by decide) oc8 c8 ?_
      obtain ⟨rfl, rfl⟩ := H9
      exact z_iret dX3_behind_27 rfl (by decide) (by decide)
    · have H10 := H5.2 q
      refine z_aload_n 0 dX3_behind_12 rfl rfl ?_
      obtain ⟨oe13, b11, e13, H12⟩ := H10
      refine z_getP dX3_behind_13 wf_X3_22 (by decide) (by decide) rfl oe13 (fun q => (by cases q.symm.trans e13)) (fun j q => ?_)
      cases q.symm.trans e13
      refine z_iload_n 1 dX3_behind_16 rfl ?_
      obtain ⟨w14, c15, H16⟩ := H12
      refine z_stat (As := [.ref b11, .int x1]) (st := []) (r1 := (some (.int w14))) (h1 := (g, I, P)) dX3_behind_17 kX11_got wm_X3_63 ⟨by decide, by decide⟩ rfl rfl (Nat.le_of_ble_eq_true rfl) (by decide) (by decide) c15 ?_
      refine z_goto (t := 27) dX3_behind_20 (by decide) ?_
      obtain ⟨rfl, rfl⟩ := H16
      exact z_iret dX3_behind_27 rfl (by decide) (by decide)
theorem eX3_behind {g : zG} {I : Nat → Nat → Int32} {P : Nat → Nat → Option Nat} {r : Option Value} {h' : zH} {a0 : Nat} {x1 : Int32} (H : Zt none mX3_behind 0 0 0 [(0, .ref a0), (1, .int x1)] [] (g, I, P) r h') : Cl mX3_behind [.ref a0, .int x1] (g, I, P) r h' := Cl.of (by decide) (Nat.le_of_ble_eq_true rfl) H
theorem dX3_oftenOfAll_0 : decode cX3_oftenOfAll 0 = .ok (.iconst 0, 1) := by decide +kernel
theorem dX3_oftenOfAll_1 : decode cX3_oftenOfAll 1 = .ok (.istore_n 2, 1) := by decide +kernel
theorem dX3_oftenOfAll_2 : decode cX3_oftenOfAll 2 = .ok (.iconst 0, 1) := by decide +kernel
theorem dX3_oftenOfAll_3 : decode cX3_oftenOfAll 3 = .ok (.istore_n 3, 1) := by decide +kernel
theorem dX3_oftenOfAll_4 : decode cX3_oftenOfAll 4 = .ok (.iload_n 3, 1) := by decide +kernel
theorem dX3_oftenOfAll_5 : decode cX3_oftenOfAll 5 = .ok (.aload_n 0, 1) := by decide +kernel
theorem dX3_oftenOfAll_6 : decode cX3_oftenOfAll 6 = .ok (.getfield 31, 3) := by decide +kernel
theorem dX3_oftenOfAll_9 : decode cX3_oftenOfAll 9 = .ok (.if_icmp .ge 25, 3) := by decide +kernel
theorem dX3_oftenOfAll_12 : decode cX3_oftenOfAll 12 = .ok (.iload_n 1, 1) := by decide +kernel
theorem dX3_oftenOfAll_13 : decode cX3_oftenOfAll 13 = .ok (.iload_n 3, 1) := by decide +kernel
theorem dX3_oftenOfAll_14 : decode cX3_oftenOfAll 14 = .ok (.invokestatic 80, 3) := by decide +kernel
theorem dX3_oftenOfAll_17 : decode cX3_oftenOfAll 17 = .ok (.ifCond .eq 11, 3) := by decide +kernel
theorem dX3_oftenOfAll_20 : decode cX3_oftenOfAll 20 = .ok (.iload_n 2, 1) := by decide +kernel
theorem dX3_oftenOfAll_21 : decode cX3_oftenOfAll 21 = .ok (.aload_n 0, 1) := by decide +kernel
theorem dX3_oftenOfAll_22 : decode cX3_oftenOfAll 22 = .ok (.iload_n 3, 1) := by decide +kernel
theorem dX3_oftenOfAll_23 : decode cX3_oftenOfAll 23 = .ok (.invokevirtual 70, 3) := by decide +kernel
theorem dX3_oftenOfAll_26 : decode cX3_oftenOfAll 26 = .ok (.iadd, 1) := by decide +kernel
theorem dX3_oftenOfAll_27 : decode cX3_oftenOfAll 27 = .ok (.istore_n 2, 1) := by decide +kernel
theorem dX3_oftenOfAll_28 : decode cX3_oftenOfAll 28 = .ok (.iinc 3 1, 3) := by decide +kernel
theorem dX3_oftenOfAll_31 : decode cX3_oftenOfAll 31 = .ok (.goto (-27), 3) := by decide +kernel
theorem dX3_oftenOfAll_34 : decode cX3_oftenOfAll 34 = .ok (.iload_n 2, 1) := by decide +kernel
theorem dX3_oftenOfAll_35 : decode cX3_oftenOfAll 35 = .ok (.ireturn, 1) := by decide +kernel
set_option maxRecDepth 10000 in
theorem wX3_oftenOfAll_0 {g : zG} {I : Nat → Nat → Int32} {P : Nat → Nat → Option Nat} {r : Option Value} {h' : zH} {a0 : Nat} {x1 : Int32} (H : Zt none mX3_oftenOfAll 0 0 4 [(0, .ref a0), (1, .int x1), (2, .int 0), (3, .int 0)] [] (g, I, P) r h') : Zt none mX3_oftenOfAll 0 0 0 [(0, .ref a0), (1, .int x1)] [] (g, I, P) r h' := by
  refine z_iconst (w := 0) dX3_oftenOfAll_0 (by decide) (z_istore_n (lv' := [(2, .int 0), (0, .ref a0), (1, .int x1)]) dX3_oftenOfAll_1 (by decide) rfl (z_iconst (w := 0) dX3_oftenOfAll_2 (by decide) (z_istore_n (lv' := [(3, .int 0), (2, .int 0), (0, .ref a0), (1, .int x1)]) dX3_oftenOfAll_3 (by decide) rfl ?_)))
  exact z_less [2, 3, 1, 0] rfl H
theorem eX3_oftenOfAll {g : zG} {I : Nat → Nat → Int32} {P : Nat → Nat → Option Nat} {r : Option Value} {h' : zH} {a0 : Nat} {x1 : Int32} (H : Zt none mX3_oftenOfAll 0 0 0 [(0, .ref a0), (1, .int x1)] [] (g, I, P) r h') : Cl mX3_oftenOfAll [.ref a0, .int x1] (g, I, P) r h' := Cl.of (by decide) (Nat.le_of_ble_eq_true rfl) H
set_option maxRecDepth 10000 in
theorem wX3_oftenOfAll_4 {g : zG} {I : Nat → Nat → Int32} {P : Nat → Nat → Option Nat} {r : Option Value} {h' : zH} {a0 : Nat} {x1 : Int32} {x2 : Int32} {x3 : Int32} (H : zk g a0 3 ∧ ((I a0 1 ≤ x3) → r = some (.int x2) ∧ h' = (g, I, P)) ∧ ((¬ I a0 1 ≤ x3) → ∃ (w3 : Int32), Cl mX11_has [.int x1, .int x3] (g, I, P) (some (.int w3)) (g, I, P) ∧ ((w3 = 0) → Zt none mX3_oftenOfAll 0 0 4 [(0, .ref a0), (1, .int x1), (2, .int x2), (3, .int (x3 + 1))] [] (g, I, P) r h') ∧ ((¬ w3 = 0) → zk g a0 3 ∧ ∃ (w8 : Int32), Cl mX3_oftenOf [.ref a0, .int x3] (g, I, P) (some (.int w8)) (g, I, P) ∧ Zt none mX3_oftenOfAll 0 0 4 [(0, .ref a0), (1, .int x1), (2, .int (x2 + w8)), (3, .int (x3 + 1))] [] (g, I, P) r h'))) : Zt none mX3_oftenOfAll 0 0 4 [(0, .ref a0), (1, .int x1), (2, .int x2), (3, .int x3)] [] (g, I, P) r h' := by
  refine z_iload_n 3 dX3_oftenOfAll_4 rfl (z_aload_n 0 dX3_oftenOfAll_5 rfl rfl (z_getI dX3_oftenOfAll_6 wf_X3_31 (by decide) (by decide) rfl H.1 ?_))
  refine z_icmp_ge (t := 34) dX3_oftenOfAll_9 (by decide) (fun q => ?_) (fun q => ?_)
  · have H1 := H.2.1 q
    refine z_iload_n 2 dX3_oftenOfAll_34 rfl ?_
    obtain ⟨rfl, rfl⟩ := H1
    exact z_iret dX3_oftenOfAll_35 rfl (by decide) (by decide)
  · have H2 := H.2.2 q
    refine z_iload_n 1 dX3_oftenOfAll_12 rfl (z_iload_n 3 dX3_oftenOfAll_13 rfl ?_)
    obtain ⟨w3, c4, H5⟩ := H2
    refine z_stat (As := [.int x1, .int x3]) (st := []) (r1 := (some (.int w3))) (h1 := (g, I, P)) dX3_oftenOfAll_14 kX11_has wm_X3_80 ⟨by decide, by decide⟩ rfl rfl (Nat.le_of_ble_eq_true rfl) (by decide) (by decide) c4 ?_
    refine z_if_eq (t := 28) dX3_oftenOfAll_17 (by decide) (fun q => ?_) (fun q => ?_)
    · have H6 := H5.1 q
      refine z_iinc (y := x3 + 1) (lv' := [(3, .int (x3 + 1)), (0, .ref a0), (1, .int x1), (2, .int x2)]) 3 dX3_oftenOfAll_28 rfl rfl (by decide) rfl (z_goto (t := 4) dX3_oftenOfAll_31 (by decide) ?_)
      exact z_less [1, 2, 3, 0] rfl H6
    · have H7 := H5.2 q
      refine z_iload_n 2 dX3_oftenOfAll_20 rfl (z_aload_n 0 dX3_oftenOfAll_21 rfl rfl (z_iload_n 3 dX3_oftenOfAll_22 rfl ?_))
      obtain ⟨oc9, w8, c9, H10⟩ := H7
      refine z_virt (As := [.int x3]) (st := [.int x2]) (r1 := (some (.int w8))) (h1 := (g, I, P)) dX3_oftenOfAll_23 kX3_oftenOf wm_X3_70 ⟨by decide, by decide⟩ rfl rfl (Nat.le_of_ble_eq_true rfl) (by decide) (by decide) oc9 c9 ?_
      refine z_iadd dX3_oftenOfAll_26 (z_istore_n (lv' := [(2, .int (x2 + w8)), (0, .ref a0), (1, .int x1), (3, .int x3)]) dX3_oftenOfAll_27 (by decide) rfl (z_iinc (y := x3 + 1) (lv' := [(3, .int (x3 + 1)), (2, .int (x2 + w8)), (0, .ref a0), (1, .int x1)]) 3 dX3_oftenOfAll_28 rfl rfl (by decide) rfl (z_goto (t := 4) dX3_oftenOfAll_31 (by decide) ?_)))
      exact z_less [2, 3, 1, 0] rfl H10
theorem dX3_beginningWith_0 : decode cX3_beginningWith 0 = .ok (.iconst 0, 1) := by decide +kernel
theorem dX3_beginningWith_1 : decode cX3_beginningWith 1 = .ok (.istore 4, 2) := by decide +kernel
theorem dX3_beginningWith_3 : decode cX3_beginningWith 3 = .ok (.iconst 0, 1) := by decide +kernel
theorem dX3_beginningWith_4 : decode cX3_beginningWith 4 = .ok (.istore 5, 2) := by decide +kernel
theorem dX3_beginningWith_6 : decode cX3_beginningWith 6 = .ok (.iload 5, 2) := by decide +kernel
theorem dX3_beginningWith_8 : decode cX3_beginningWith 8 = .ok (.aload_n 0, 1) := by decide +kernel
theorem dX3_beginningWith_9 : decode cX3_beginningWith 9 = .ok (.getfield 31, 3) := by decide +kernel
theorem dX3_beginningWith_12 : decode cX3_beginningWith 12 = .ok (.if_icmp .ge 97, 3) := by decide +kernel
theorem dX3_beginningWith_15 : decode cX3_beginningWith 15 = .ok (.iload_n 3, 1) := by decide +kernel
theorem dX3_beginningWith_16 : decode cX3_beginningWith 16 = .ok (.aload_n 0, 1) := by decide +kernel
theorem dX3_beginningWith_17 : decode cX3_beginningWith 17 = .ok (.getfield 15, 3) := by decide +kernel
theorem dX3_beginningWith_20 : decode cX3_beginningWith 20 = .ok (.iload 5, 2) := by decide +kernel
theorem dX3_beginningWith_22 : decode cX3_beginningWith 22 = .ok (.invokestatic 63, 3) := by decide +kernel
theorem dX3_beginningWith_25 : decode cX3_beginningWith 25 = .ok (.if_icmp .gt 7, 3) := by decide +kernel
theorem dX3_beginningWith_28 : decode cX3_beginningWith 28 = .ok (.iconst 1, 1) := by decide +kernel
theorem dX3_beginningWith_29 : decode cX3_beginningWith 29 = .ok (.goto 4, 3) := by decide +kernel
theorem dX3_beginningWith_32 : decode cX3_beginningWith 32 = .ok (.iconst 0, 1) := by decide +kernel
theorem dX3_beginningWith_33 : decode cX3_beginningWith 33 = .ok (.istore 6, 2) := by decide +kernel
theorem dX3_beginningWith_35 : decode cX3_beginningWith 35 = .ok (.iconst 0, 1) := by decide +kernel
theorem dX3_beginningWith_36 : decode cX3_beginningWith 36 = .ok (.istore 7, 2) := by decide +kernel
theorem dX3_beginningWith_38 : decode cX3_beginningWith 38 = .ok (.iload 7, 2) := by decide +kernel
theorem dX3_beginningWith_40 : decode cX3_beginningWith 40 = .ok (.iload_n 3, 1) := by decide +kernel
theorem dX3_beginningWith_41 : decode cX3_beginningWith 41 = .ok (.if_icmp .ge 47, 3) := by decide +kernel
theorem dX3_beginningWith_44 : decode cX3_beginningWith 44 = .ok (.iload 6, 2) := by decide +kernel
theorem dX3_beginningWith_46 : decode cX3_beginningWith 46 = .ok (.ifCond .eq 42, 3) := by decide +kernel
theorem dX3_beginningWith_49 : decode cX3_beginningWith 49 = .ok (.aload_n 0, 1) := by decide +kernel
theorem dX3_beginningWith_50 : decode cX3_beginningWith 50 = .ok (.getfield 25, 3) := by decide +kernel
theorem dX3_beginningWith_53 : decode cX3_beginningWith 53 = .ok (.iload 5, 2) := by decide +kernel
theorem dX3_beginningWith_55 : decode cX3_beginningWith 55 = .ok (.bipush 6, 2) := by decide +kernel
theorem dX3_beginningWith_57 : decode cX3_beginningWith 57 = .ok (.imul, 1) := by decide +kernel
theorem dX3_beginningWith_58 : decode cX3_beginningWith 58 = .ok (.iload 7, 2) := by decide +kernel
theorem dX3_beginningWith_60 : decode cX3_beginningWith 60 = .ok (.iadd, 1) := by decide +kernel
theorem dX3_beginningWith_61 : decode cX3_beginningWith 61 = .ok (.invokestatic 63, 3) := by decide +kernel
theorem dX3_beginningWith_64 : decode cX3_beginningWith 64 = .ok (.aload_n 1, 1) := by decide +kernel
theorem dX3_beginningWith_65 : decode cX3_beginningWith 65 = .ok (.iload_n 2, 1) := by decide +kernel
theorem dX3_beginningWith_66 : decode cX3_beginningWith 66 = .ok (.iload 7, 2) := by decide +kernel
theorem dX3_beginningWith_68 : decode cX3_beginningWith 68 = .ok (.iadd, 1) := by decide +kernel
theorem dX3_beginningWith_69 : decode cX3_beginningWith 69 = .ok (.invokestatic 63, 3) := by decide +kernel
theorem dX3_beginningWith_72 : decode cX3_beginningWith 72 = .ok (.if_icmp .ne 7, 3) := by decide +kernel
theorem dX3_beginningWith_75 : decode cX3_beginningWith 75 = .ok (.iconst 1, 1) := by decide +kernel
theorem dX3_beginningWith_76 : decode cX3_beginningWith 76 = .ok (.goto 4, 3) := by decide +kernel
theorem dX3_beginningWith_79 : decode cX3_beginningWith 79 = .ok (.iconst 0, 1) := by decide +kernel
theorem dX3_beginningWith_80 : decode cX3_beginningWith 80 = .ok (.istore 6, 2) := by decide +kernel
theorem dX3_beginningWith_82 : decode cX3_beginningWith 82 = .ok (.iinc 7 1, 3) := by decide +kernel
theorem dX3_beginningWith_85 : decode cX3_beginningWith 85 = .ok (.goto (-47), 3) := by decide +kernel
theorem dX3_beginningWith_88 : decode cX3_beginningWith 88 = .ok (.iload 6, 2) := by decide +kernel
theorem dX3_beginningWith_90 : decode cX3_beginningWith 90 = .ok (.ifCond .eq 13, 3) := by decide +kernel
theorem dX3_beginningWith_93 : decode cX3_beginningWith 93 = .ok (.iload 4, 2) := by decide +kernel
theorem dX3_beginningWith_95 : decode cX3_beginningWith 95 = .ok (.iload 5, 2) := by decide +kernel
theorem dX3_beginningWith_97 : decode cX3_beginningWith 97 = .ok (.invokestatic 84, 3) := by decide +kernel
theorem dX3_beginningWith_100 : decode cX3_beginningWith 100 = .ok (.ior, 1) := by decide +kernel
theorem dX3_beginningWith_101 : decode cX3_beginningWith 101 = .ok (.istore 4, 2) := by decide +kernel
theorem dX3_beginningWith_103 : decode cX3_beginningWith 103 = .ok (.iinc 5 1, 3) := by decide +kernel
theorem dX3_beginningWith_106 : decode cX3_beginningWith 106 = .ok (.goto (-100), 3) := by decide +kernel
theorem dX3_beginningWith_109 : decode cX3_beginningWith 109 = .ok (.iload 4, 2) := by decide +kernel
theorem dX3_beginningWith_111 : decode cX3_beginningWith 111 = .ok (.ireturn, 1) := by decide +kernel
set_option maxRecDepth 10000 in
theorem wX3_beginningWith_0 {g : zG} {I : Nat → Nat → Int32} {P : Nat → Nat → Option Nat} {r : Option Value} {h' : zH} {a0 : Nat} {a1 : Nat} {x2 : Int32} {x3 : Int32} (H : Zt none mX3_beginningWith 0 0 6 [(0, .ref a0), (1, .ref a1), (2, .int x2), (3, .int x3), (4, .int 0), (5, .int 0)] [] (g, I, P) r h') : Zt none mX3_beginningWith 0 0 0 [(0, .ref a0), (1, .ref a1), (2, .int x2), (3, .int x3)] [] (g, I, P) r h' := by
  refine z_iconst (w := 0) dX3_beginningWith_0 (by decide) (z_istore (lv' := [(4, .int 0), (0, .ref a0), (1, .ref a1), (2, .int x2), (3, .int x3)]) dX3_beginningWith_1 (by decide) rfl (z_iconst (w := 0) dX3_beginningWith_3 (by decide) (z_istore (lv' := [(5, .int 0), (4, .int 0), (0, .ref a0), (1, .ref a1), (2, .int x2), (3, .int x3)]) dX3_beginningWith_4 (by decide) rfl ?_)))
  exact z_less [2, 3, 4, 5, 1, 0] rfl H
theorem eX3_beginningWith {g : zG} {I : Nat → Nat → Int32} {P : Nat → Nat → Option Nat} {r : Option Value} {h' : zH} {a0 : Nat} {a1 : Nat} {x2 : Int32} {x3 : Int32} (H : Zt none mX3_beginningWith 0 0 0 [(0, .ref a0), (1, .ref a1), (2, .int x2), (3, .int x3)] [] (g, I, P) r h') : Cl mX3_beginningWith [.ref a0, .ref a1, .int x2, .int x3] (g, I, P) r h' := Cl.of (by decide) (Nat.le_of_ble_eq_true rfl) H
set_option maxRecDepth 10000 in
theorem wX3_beginningWith_6 {g : zG} {I : Nat → Nat → Int32} {P : Nat → Nat → Option Nat} {r : Option Value} {h' : zH} {a0 : Nat} {a1 : Nat} {x2 : Int32} {x3 : Int32} {x4 : Int32} {x5 : Int32} (H : zk g a0 3 ∧ ((I a0 1 ≤ x5) → r = some (.int x4) ∧ h' = (g, I, P)) ∧ ((¬ I a0 1 ≤ x5) → zk g a0 3 ∧ ∃ b3, P a0 4 = some b3 ∧ ∃ (w6 : Int32), Cl mX11_got [.ref b3, .int x5] (g, I, P) (some (.int w6)) (g, I, P) ∧ ((w6 < x3) → Zt none mX3_beginningWith 0 0 38 [(0, .ref a0), (1, .ref a1), (2, .int x2), (3, .int x3), (4, .int x4), (5, .int x5), (6, .int 0), (7, .int 0)] [] (g, I, P) r h') ∧ ((¬ w6 < x3) → Zt none mX3_beginningWith 0 0 38 [(0, .ref a0), (1, .ref a1), (2, .int x2), (3, .int x3), (4, .int x4), (5, .int x5), (6, .int 1), (7, .int 0)] [] (g, I, P) r h'))) : Zt none mX3_beginningWith 0 0 6 [(0, .ref a0), (1, .ref a1), (2, .int x2), (3, .int x3), (4, .int x4), (5, .int x5)] [] (g, I, P) r h' := by
  refine z_iload 5 dX3_beginningWith_6 rfl (z_aload_n 0 dX3_beginningWith_8 rfl rfl (z_getI dX3_beginningWith_9 wf_X3_31 (by decide) (by decide) rfl H.1 ?_))
  refine z_icmp_ge (t := 109) dX3_beginningWith_12 (by decide) (fun q => ?_) (fun q => ?_)
  · have H1 := H.2.1 q
    refine z_iload 4 dX3_beginningWith_109 rfl ?_
    obtain ⟨rfl, rfl⟩ := H1
    exact z_iret dX3_beginningWith_111 rfl (by decide) (by decide)
  · have H2 := H.2.2 q
    refine z_iload_n 3 dX3_beginningWith_15 rfl (z_aload_n 0 dX3_beginningWith_16 rfl rfl ?_)
    obtain ⟨oe5, b3, e5, H4⟩ := H2
    refine z_getP dX3_beginningWith_17 wf_X3_15 (by decide) (by decide) rfl oe5 (fun q => (by cases q.symm.trans e5)) (fun j q => ?_)
    cases q.symm.trans e5
    refine z_iload 5 dX3_beginningWith_20 rfl ?_
    obtain ⟨w6, c7, H8⟩ := H4
    refine z_stat (As := [.ref b3, .int x5]) (st := [.int x3]) (r1 := (some (.int w6))) (h1 := (g, I, P)) dX3_beginningWith_22 kX11_got wm_X3_63 ⟨by decide, by decide⟩ rfl rfl (Nat.le_of_ble_eq_true rfl) (by decide) (by decide) c7 ?_
    refine z_icmp_gt (t := 32) dX3_beginningWith_25 (by decide) (fun q => ?_) (fun q => ?_)
    · have H9 := H8.1 q
      refine z_iconst (w := 0) dX3_beginningWith_32 (by decide) (z_istore (lv' := [(6, .int 0), (0, .ref a0), (1, .ref a1), (2, .int x2), (3, .int x3), (4, .int x4), (5, .int x5)]) dX3_beginningWith_33 (by decide) rfl (z_iconst (w := 0) dX3_beginningWith_35 (by decide) (z_istore (lv' := [(7, .int 0), (6, .int 0), (0, .ref a0), (1, .ref a1), (2, .int x2), (3, .int x3), (4, .int x4), (5, .int x5)]) dX3_beginningWith_36 (by decide) rfl ?_)))
      exact z_less [2, 3, 4, 5, 6, 7, 1, 0] rfl H9
    · have H10 := H8.2 q
      refine z_iconst (w := 1) dX3_beginningWith_28 (by decide) (z_goto (t := 33) dX3_beginningWith_29 (by decide) (z_istore (lv' := [(6, .int 1), (0, .ref a0), (1, .ref a1), (2, .int x2), (3, .int x3), (4, .int x4), (5, .int x5)]) dX3_beginningWith_33 (by decide) rfl (z_iconst (w := 0) dX3_beginningWith_35 (by decide) (z_istore (lv' := [(7, .int 0), (6, .int 1), (0, .ref a0), (1, .ref a1), (2, .int x2), (3, .int x3), (4, .int x4), (5, .int x5)]) dX3_beginningWith_36 (by decide) rfl ?_))))
      exact z_less [2, 3, 4, 5, 6, 7, 1, 0] rfl H10
set_option maxRecDepth 10000 in
theorem wX3_beginningWith_38 {g : zG} {I : Nat → Nat → Int32} {P : Nat → Nat → Option Nat} {r : Option Value} {h' : zH} {a0 : Nat} {a1 : Nat} {x2 : Int32} {x3 : Int32} {x4 : Int32} {x5 : Int32} {x6 : Int32} {x7 : Int32} (H : ((x3 ≤ x7) → ((x6 = 0) → Zt none mX3_beginningWith 0 0 6 [(0, .ref a0), (1, .ref a1), (2, .int x2), (3, .int x3), (4, .int x4), (5, .int (x5 + 1))] [] (g, I, P) r h') ∧ ((¬ x6 = 0) → ∃ (w4 : Int32), Cl mX11_bit [.int x5] (g, I, P) (some (.int w4)) (g, I, P) ∧ Zt none mX3_beginningWith 0 0 6 [(0, .ref a0), (1, .ref a1), (2, .int x2), (3, .int x3), (4, .int (x4 ||| w4)), (5, .int (x5 + 1))] [] (g, I, P) r h')) ∧ ((¬ x3 ≤ x7) → ((x6 = 0) → ((x6 = 0) → Zt none mX3_beginningWith 0 0 6 [(0, .ref a0), (1, .ref a1), (2, .int x2), (3, .int x3), (4, .int x4), (5, .int (x5 + 1))] [] (g, I, P) r h') ∧ ((¬ x6 = 0) → ∃ (w11 : Int32), Cl mX11_bit [.int x5] (g, I, P) (some (.int w11)) (g, I, P) ∧ Zt none mX3_beginningWith 0 0 6 [(0, .ref a0), (1, .ref a1), (2, .int x2), (3, .int x3), (4, .int (x4 ||| w11)), (5, .int (x5 + 1))] [] (g, I, P) r h')) ∧ ((¬ x6 = 0) → zk g a0 3 ∧ ∃ b15, P a0 7 = some b15 ∧ ∃ (w18 : Int32), Cl mX11_got [.ref b15, .int ((x5 * 6) + x7)] (g, I, P) (some (.int w18)) (g, I, P) ∧ ∃ (w21 : Int32), Cl mX11_got [.ref a1, .int (x2 + x7)] (g, I, P) (some (.int w21)) (g, I, P) ∧ ((¬ w18 = w21) → Zt none mX3_beginningWith 0 0 38 [(0, .ref a0), (1, .ref a1), (2, .int x2), (3, .int x3), (4, .int x4), (5, .int x5), (6, .int 0), (7, .int (x7 + 1))] [] (g, I, P) r h') ∧ ((w18 = w21) → Zt none mX3_beginningWith 0 0 38 [(0, .ref a0), (1, .ref a1), (2, .int x2), (3, .int x3), (4, .int x4), (5, .int x5), (6, .int 1), (7, .int (x7 + 1))] [] (g, I, P) r h')))) : Zt none mX3_beginningWith 0 0 38 [(0, .ref a0), (1, .ref a1), (2, .int x2), (3, .int x3), (4, .int x4), (5, .int x5), (6, .int x6), (7, .int x7)] [] (g, I, P) r h' := by
  refine z_iload 7 dX3_beginningWith_38 rfl (z_iload_n 3 dX3_beginningWith_40 rfl ?_)
  refine z_icmp_ge (t := 88) dX3_beginningWith_41 (by decide) (fun q => ?_) (fun q => ?_)
  · have H1 := H.1 q
    refine z_iload 6 dX3_beginningWith_88 rfl ?_
    refine z_if_eq (t := 103) dX3_beginningWith_90 (by decide) (fun q => ?_) (fun q => ?_)
    · have H2 := H1.1 q
      refine z_iinc (y := x5 + 1) (lv' := [(5, .int (x5 + 1)), (0, .ref a0), (1, .ref a1), (2, .int x2), (3, .int x3), (4, .int x4), (6, .int x6), (7, .int x7)]) 5 dX3_beginningWith_103 rfl rfl (by decide) rfl (z_goto (t := 6) dX3_beginningWith_106 (by decide) ?_)
      exact z_less [1, 2, 3, 4, 5, 0] rfl H2
    · have H3 := H1.2 q
      refine z_iload 4 dX3_beginningWith_93 rfl (z_iload 5 dX3_beginningWith_95 rfl ?_)
      obtain ⟨w4, c5, H6⟩ := H3
      refine z_stat (As := [.int x5]) (st := [.int x4]) (r1 := (some (.int w4))) (h1 := (g, I, P)) dX3_beginningWith_97 kX11_bit wm_X3_84 ⟨by decide, by decide⟩ rfl rfl (Nat.le_of_ble_eq_true rfl) (by decide) (by decide) c5 ?_
      refine z_ior dX3_beginningWith_100 (z_istore (lv' := [(4, .int (x4 ||| w4)), (0, .ref a0), (1, .ref a1), (2, .int x2), (3, .int x3), (5, .int x5), (6, .int x6), (7, .int x7)]) dX3_beginningWith_101 (by decide) rfl (z_iinc (y := x5 + 1) (lv' := [(5, .int (x5 + 1)), (4, .int (x4 ||| w4)), (0, .ref a0), (1, .ref a1), (2, .int x2), (3, .int x3), (6, .int x6), (7, .int x7)]) 5 dX3_beginningWith_103 rfl rfl (by decide) rfl (z_goto (t := 6) dX3_beginningWith_106 (by decide) ?_)))
      exact z_less [2, 3, 4, 5, 1, 0] rfl H6
  · have H7 := H.2 q
    refine z_iload 6 dX3_beginningWith_44 rfl ?_
    refine z_if_eq (t := 88) dX3_beginningWith_46 (by decide) (fun q => ?_) (fun q => ?_)
    · have H8 := H7.1 q
      refine z_iload 6 dX3_beginningWith_88 rfl ?_
      refine z_if_eq (t := 103) dX3_beginningWith_90 (by decide) (fun q => ?_) (fun q => ?_)
      · have H9 := H8.1 q
        refine z_iinc (y := x5 + 1) (lv' := [(5, .int (x5 + 1)), (0, .ref a0), (1, .ref a1), (2, .int x2), (3, .int x3), (4, .int x4), (6, .int x6), (7, .int x7)]) 5 dX3_beginningWith_103 rfl rfl (by decide) rfl (z_goto (t := 6) dX3_beginningWith_106 (by decide) ?_)
        exact z_less [1, 2, 3, 4, 5, 0] rfl H9
      · have H10 := H8.2 q
        refine z_iload 4 dX3_beginningWith_93 rfl (z_iload 5 dX3_beginningWith_95 rfl ?_)
        obtain ⟨w11, c12, H13⟩ := H10
        refine z_stat (As := [.int x5]) (st := [.int x4]) (r1 := (some (.int w11))) (h1 := (g, I, P)) dX3_beginningWith_97 kX11_bit wm_X3_84 ⟨by decide, by decide⟩ rfl rfl (Nat.le_of_ble_eq_true rfl) (by decide) (by decide) c12 ?_
        refine z_ior dX3_beginningWith_100 (z_istore (lv' := [(4, .int (x4 ||| w11)), (0, .ref a0), (1, .ref a1), (2, .int x2), (3, .int x3), (5, .int x5), (6, .int x6), (7, .int x7)]) dX3_beginningWith_101 (by decide) rfl (z_iinc (y := x5 + 1) (lv' := [(5, .int (x5 + 1)), (4, .int (x4 ||| w11)), (0, .ref a0), (1, .ref a1), (2, .int x2), (3, .int x3), (6, .int x6), (7, .int x7)]) 5 dX3_beginningWith_103 rfl rfl (by decide) rfl (z_goto (t := 6) dX3_beginningWith_106 (by decide) ?_)))
        exact z_less [2, 3, 4, 5, 1, 0] rfl H13
    · have H14 := H7.2 q
      refine z_aload_n 0 dX3_beginningWith_49 rfl rfl ?_
      obtain ⟨oe17, b15, e17, H16⟩ := H14
      refine z_getP dX3_beginningWith_50 wf_X3_25 (by decide) (by decide) rfl oe17 (fun q => (by cases q.symm.trans e17)) (fun j q => ?_)
      cases q.symm.trans e17
      refine z_iload 5 dX3_beginningWith_53 rfl (z_bipush (w := 6) dX3_beginningWith_55 (by decide) (z_imul dX3_beginningWith_57 (z_iload 7 dX3_beginningWith_58 rfl (z_iadd dX3_beginningWith_60 ?_))))
      obtain ⟨w18, c19, H20⟩ := H16
      refine z_stat (As := [.ref b15, .int ((x5 * 6) + x7)]) (st := []) (r1 := (some (.int w18))) (h1 := (g, I, P)) dX3_beginningWith_61 kX11_got wm_X3_63 ⟨by decide, by decide⟩ rfl rfl (Nat.le_of_ble_eq_true rfl) (by decide) (by decide) c19 ?_
      refine z_aload_n 1 dX3_beginningWith_64 rfl rfl (z_iload_n 2 dX3_beginningWith_65 rfl (z_iload 7 dX3_beginningWith_66 rfl (z_iadd dX3_beginningWith_68 ?_)))
      obtain ⟨w21, c22, H23⟩ := H20
      refine z_stat (As := [.ref a1, .int (x2 + x7)]) (st := [.int w18]) (r1 := (some (.int w21))) (h1 := (g, I, P)) dX3_beginningWith_69 kX11_got wm_X3_63 ⟨by decide, by decide⟩ rfl rfl (Nat.le_of_ble_eq_true rfl) (by decide) (by decide) c22 ?_
      refine z_icmp_ne (t := 79) dX3_beginningWith_72 (by decide) (fun q => ?_) (fun q => ?_)
      · have H24 := H23.1 q
        refine z_iconst (w := 0) dX3_beginningWith_79 (by decide) (z_istore (lv' := [(6, .int 0), (0, .ref a0), (1, .ref a1), (2, .int x2), (3, .int x3), (4, .int x4), (5, .int x5), (7, .int x7)]) dX3_beginningWith_80 (by decide) rfl (z_iinc (y := x7 + 1) (lv' := [(7, .int (x7 + 1)), (6, .int 0), (0, .ref a0), (1, .ref a1), (2, .int x2), (3, .int x3), (4, .int x4), (5, .int x5)]) 7 dX3_beginningWith_82 rfl rfl (by decide) rfl (z_goto (t := 38) dX3_beginningWith_85 (by decide) ?_)))
        exact z_less [2, 3, 4, 5, 6, 7, 1, 0] rfl H24
      · have H25 := H23.2 q
        refine z_iconst (w := 1) dX3_beginningWith_75 (by decide) (z_goto (t := 80) dX3_beginningWith_76 (by decide) (z_istore (lv' := [(6, .int 1), (0, .ref a0), (1, .ref a1), (2, .int x2), (3, .int x3), (4, .int x4), (5, .int x5), (7, .int x7)]) dX3_beginningWith_80 (by decide) rfl (z_iinc (y := x7 + 1) (lv' := [(7, .int (x7 + 1)), (6, .int 1), (0, .ref a0), (1, .ref a1), (2, .int x2), (3, .int x3), (4, .int x4), (5, .int x5)]) 7 dX3_beginningWith_82 rfl rfl (by decide) rfl (z_goto (t := 38) dX3_beginningWith_85 (by decide) ?_))))
        exact z_less [2, 3, 4, 5, 6, 7, 1, 0] rfl H25
theorem dX3_changesAt_0 : decode cX3_changesAt 0 = .ok (.iconst 0, 1) := by decide +kernel
theorem dX3_changesAt_1 : decode cX3_changesAt 1 = .ok (.istore 5, 2) := by decide +kernel
theorem dX3_changesAt_3 : decode cX3_changesAt 3 = .ok (.iconst 0, 1) := by decide +kernel
theorem dX3_changesAt_4 : decode cX3_changesAt 4 = .ok (.istore 6, 2) := by decide +kernel
theorem dX3_changesAt_6 : decode cX3_changesAt 6 = .ok (.iload 6, 2) := by decide +kernel
theorem dX3_changesAt_8 : decode cX3_changesAt 8 = .ok (.iload 4, 2) := by decide +kernel
theorem dX3_changesAt_10 : decode cX3_changesAt 10 = .ok (.if_icmp .ge 30, 3) := by decide +kernel
theorem dX3_changesAt_13 : decode cX3_changesAt 13 = .ok (.aload_n 0, 1) := by decide +kernel
theorem dX3_changesAt_14 : decode cX3_changesAt 14 = .ok (.iload_n 1, 1) := by decide +kernel
theorem dX3_changesAt_15 : decode cX3_changesAt 15 = .ok (.iload 6, 2) := by decide +kernel
theorem dX3_changesAt_17 : decode cX3_changesAt 17 = .ok (.invokevirtual 59, 3) := by decide +kernel
theorem dX3_changesAt_20 : decode cX3_changesAt 20 = .ok (.aload_n 2, 1) := by decide +kernel
theorem dX3_changesAt_21 : decode cX3_changesAt 21 = .ok (.iload_n 3, 1) := by decide +kernel
theorem dX3_changesAt_22 : decode cX3_changesAt 22 = .ok (.iload 6, 2) := by decide +kernel
theorem dX3_changesAt_24 : decode cX3_changesAt 24 = .ok (.iadd, 1) := by decide +kernel
theorem dX3_changesAt_25 : decode cX3_changesAt 25 = .ok (.invokestatic 63, 3) := by decide +kernel
theorem dX3_changesAt_28 : decode cX3_changesAt 28 = .ok (.if_icmp .eq 6, 3) := by decide +kernel
theorem dX3_changesAt_31 : decode cX3_changesAt 31 = .ok (.iinc 5 1, 3) := by decide +kernel
theorem dX3_changesAt_34 : decode cX3_changesAt 34 = .ok (.iinc 6 1, 3) := by decide +kernel
theorem dX3_changesAt_37 : decode cX3_changesAt 37 = .ok (.goto (-31), 3) := by decide +kernel
theorem dX3_changesAt_40 : decode cX3_changesAt 40 = .ok (.iload 5, 2) := by decide +kernel
theorem dX3_changesAt_42 : decode cX3_changesAt 42 = .ok (.ireturn, 1) := by decide +kernel
set_option maxRecDepth 10000 in
theorem wX3_changesAt_0 {g : zG} {I : Nat → Nat → Int32} {P : Nat → Nat → Option Nat} {r : Option Value} {h' : zH} {a0 : Nat} {x1 : Int32} {a2 : Nat} {x3 : Int32} {x4 : Int32} (H : Zt none mX3_changesAt 0 0 6 [(0, .ref a0), (1, .int x1), (2, .ref a2), (3, .int x3), (4, .int x4), (5, .int 0), (6, .int 0)] [] (g, I, P) r h') : Zt none mX3_changesAt 0 0 0 [(0, .ref a0), (1, .int x1), (2, .ref a2), (3, .int x3), (4, .int x4)] [] (g, I, P) r h' := by
  refine z_iconst (w := 0) dX3_changesAt_0 (by decide) (z_istore (lv' := [(5, .int 0), (0, .ref a0), (1, .int x1), (2, .ref a2), (3, .int x3), (4, .int x4)]) dX3_changesAt_1 (by decide) rfl (z_iconst (w := 0) dX3_changesAt_3 (by decide) (z_istore (lv' := [(6, .int 0), (5, .int 0), (0, .ref a0), (1, .int x1), (2, .ref a2), (3, .int x3), (4, .int x4)]) dX3_changesAt_4 (by decide) rfl ?_)))
  exact z_less [2, 3, 4, 5, 6, 1, 0] rfl H
theorem eX3_changesAt {g : zG} {I : Nat → Nat → Int32} {P : Nat → Nat → Option Nat} {r : Option Value} {h' : zH} {a0 : Nat} {x1 : Int32} {a2 : Nat} {x3 : Int32} {x4 : Int32} (H : Zt none mX3_changesAt 0 0 0 [(0, .ref a0), (1, .int x1), (2, .ref a2), (3, .int x3), (4, .int x4)] [] (g, I, P) r h') : Cl mX3_changesAt [.ref a0, .int x1, .ref a2, .int x3, .int x4] (g, I, P) r h' := Cl.of (by decide) (Nat.le_of_ble_eq_true rfl) H
set_option maxRecDepth 10000 in
theorem wX3_changesAt_6 {g : zG} {I : Nat → Nat → Int32} {P : Nat → Nat → Option Nat} {r : Option Value} {h' : zH} {a0 : Nat} {x1 : Int32} {a2 : Nat} {x3 : Int32} {x4 : Int32} {x5 : Int32} {x6 : Int32} (H : ((x4 ≤ x6) → r = some (.int x5) ∧ h' = (g, I, P)) ∧ ((¬ x4 ≤ x6) → zk g a0 3 ∧ ∃ (w3 : Int32), Cl mX3_letterOf [.ref a0, .int x1, .int x6] (g, I, P) (some (.int w3)) (g, I, P) ∧ ∃ (w6 : Int32), Cl mX11_got [.ref a2, .int (x3 + x6)] (g, I, P) (some (.int w6)) (g, I, P) ∧ ((w3 = w6) → Zt none mX3_changesAt 0 0 6 [(0, .ref a0), (1, .int x1), (2, .ref a2), (3, .int x3), (4, .int x4), (5, .int x5), (6, .int (x6 + 1))] [] (g, I, P) r h') ∧ ((¬ w3 = w6) → Zt none mX3_changesAt 0 0 6 [(0, .ref a0), (1, .int x1), (2, .ref a2), (3, .int x3), (4, .int x4), (5, .int (x5 + 1)), (6, .int (x6 + 1))] [] (g, I, P) r h'))) : Zt none mX3_changesAt 0 0 6 [(0, .ref a0), (1, .int x1), (2, .ref a2), (3, .int x3), (4, .int x4), (5, .int x5), (6, .int x6)] [] (g, I, P) r h' := by
  refine z_iload 6 dX3_changesAt_6 rfl (z_iload 4 dX3_changesAt_8 rfl ?_)
  refine z_icmp_ge (t := 40) dX3_changesAt_10 (by decide) (fun q => ?_) (fun q => ?_)
  · have H1 := H.1 q
    refine z_iload 5 dX3_changesAt_40 rfl ?_
    obtain ⟨rfl, rfl⟩ := H1
    exact z_iret dX3_changesAt_42 rfl (by decide) (by decide)
  · have H2 := H.2 q
    refine z_aload_n 0 dX3_changesAt_13 rfl rfl (z_iload_n 1 dX3_changesAt_14 rfl (z_iload 6 dX3_changesAt_15 rfl ?_))
    obtain ⟨oc4, w3, c4, H5⟩ := H2
    refine z_virt (As := [.int x1, .int x6]) (st := []) (r1 := (some (.int w3))) (h1 := (g, I, P)) dX3_changesAt_17 kX3_letterOf wm_X3_59 ⟨by decide, by decide⟩ rfl rfl (Nat.le_of_ble_eq_true rfl) (by decide) (by decide) oc4 c4 ?_
    refine z_aload_n 2 dX3_changesAt_20 rfl rfl (z_iload_n 3 dX3_changesAt_21 rfl (z_iload 6 dX3_changesAt_22 rfl (z_iadd dX3_changesAt_24 ?_)))
    obtain ⟨w6, c7, H8⟩ := H5
    refine z_stat (As := [.ref a2, .int (x3 + x6)]) (st := [.int w3]) (r1 := (some (.int w6))) (h1 := (g, I, P)) dX3_changesAt_25 kX11_got wm_X3_63 ⟨by decide, by decide⟩ rfl rfl (Nat.le_of_ble_eq_true rfl) (by decide) (by decide) c7 ?_
    refine z_icmp_eq (t := 34) dX3_changesAt_28 (by decide) (fun q => ?_) (fun q => ?_)
    · have H9 := H8.1 q
      refine z_iinc (y := x6 + 1) (lv' := [(6, .int (x6 + 1)), (0, .ref a0), (1, .int x1), (2, .ref a2), (3, .int x3), (4, .int x4), (5, .int x5)]) 6 dX3_changesAt_34 rfl rfl (by decide) rfl (z_goto (t := 6) dX3_changesAt_37 (by decide) ?_)
      exact z_less [1, 2, 3, 4, 5, 6, 0] rfl H9
    · have H10 := H8.2 q
      refine z_iinc (y := x5 + 1) (lv' := [(5, .int (x5 + 1)), (0, .ref a0), (1, .int x1), (2, .ref a2), (3, .int x3), (4, .int x4), (6, .int x6)]) 5 dX3_changesAt_31 rfl rfl (by decide) rfl (z_iinc (y := x6 + 1) (lv' := [(6, .int (x6 + 1)), (5, .int (x5 + 1)), (0, .ref a0), (1, .int x1), (2, .ref a2), (3, .int x3), (4, .int x4)]) 6 dX3_changesAt_34 rfl rfl (by decide) rfl (z_goto (t := 6) dX3_changesAt_37 (by decide) ?_))
      exact z_less [2, 3, 4, 5, 6, 1, 0] rfl H10
theorem dX3_sameLettersAtFirst_0 : decode cX3_sameLettersAtFirst 0 = .ok (.aload_n 0, 1) := by decide +kernel
theorem dX3_sameLettersAtFirst_1 : decode cX3_sameLettersAtFirst 1 = .ok (.iload_n 1, 1) := by decide +kernel
theorem dX3_sameLettersAtFirst_2 : decode cX3_sameLettersAtFirst 2 = .ok (.invokevirtual 55, 3) := by decide +kernel
theorem dX3_sameLettersAtFirst_5 : decode cX3_sameLettersAtFirst 5 = .ok (.aload_n 0, 1) := by decide +kernel
theorem dX3_sameLettersAtFirst_6 : decode cX3_sameLettersAtFirst 6 = .ok (.iload_n 2, 1) := by decide +kernel
theorem dX3_sameLettersAtFirst_7 : decode cX3_sameLettersAtFirst 7 = .ok (.invokevirtual 55, 3) := by decide +kernel
theorem dX3_sameLettersAtFirst_10 : decode cX3_sameLettersAtFirst 10 = .ok (.invokestatic 87, 3) := by decide +kernel
theorem dX3_sameLettersAtFirst_13 : decode cX3_sameLettersAtFirst 13 = .ok (.istore_n 3, 1) := by decide +kernel
theorem dX3_sameLettersAtFirst_14 : decode cX3_sameLettersAtFirst 14 = .ok (.iconst 0, 1) := by decide +kernel
theorem dX3_sameLettersAtFirst_15 : decode cX3_sameLettersAtFirst 15 = .ok (.istore 4, 2) := by decide +kernel
theorem dX3_sameLettersAtFirst_17 : decode cX3_sameLettersAtFirst 17 = .ok (.iload 4, 2) := by decide +kernel
theorem dX3_sameLettersAtFirst_19 : decode cX3_sameLettersAtFirst 19 = .ok (.iload_n 3, 1) := by decide +kernel
theorem dX3_sameLettersAtFirst_20 : decode cX3_sameLettersAtFirst 20 = .ok (.if_icmp .ge 26, 3) := by decide +kernel
theorem dX3_sameLettersAtFirst_23 : decode cX3_sameLettersAtFirst 23 = .ok (.aload_n 0, 1) := by decide +kernel
theorem dX3_sameLettersAtFirst_24 : decode cX3_sameLettersAtFirst 24 = .ok (.iload_n 1, 1) := by decide +kernel
theorem dX3_sameLettersAtFirst_25 : decode cX3_sameLettersAtFirst 25 = .ok (.iload 4, 2) := by decide +kernel
theorem dX3_sameLettersAtFirst_27 : decode cX3_sameLettersAtFirst 27 = .ok (.invokevirtual 59, 3) := by decide +kernel
theorem dX3_sameLettersAtFirst_30 : decode cX3_sameLettersAtFirst 30 = .ok (.aload_n 0, 1) := by decide +kernel
theorem dX3_sameLettersAtFirst_31 : decode cX3_sameLettersAtFirst 31 = .ok (.iload_n 2, 1) := by decide +kernel
theorem dX3_sameLettersAtFirst_32 : decode cX3_sameLettersAtFirst 32 = .ok (.iload 4, 2) := by decide +kernel
theorem dX3_sameLettersAtFirst_34 : decode cX3_sameLettersAtFirst 34 = .ok (.invokevirtual 59, 3) := by decide +kernel
theorem dX3_sameLettersAtFirst_37 : decode cX3_sameLettersAtFirst 37 = .ok (.if_icmp .ne 9, 3) := by decide +kernel
theorem dX3_sameLettersAtFirst_40 : decode cX3_sameLettersAtFirst 40 = .ok (.iinc 4 1, 3) := by decide +kernel
theorem dX3_sameLettersAtFirst_43 : decode cX3_sameLettersAtFirst 43 = .ok (.goto (-26), 3) := by decide +kernel
theorem dX3_sameLettersAtFirst_46 : decode cX3_sameLettersAtFirst 46 = .ok (.iload 4, 2) := by decide +kernel
theorem dX3_sameLettersAtFirst_48 : decode cX3_sameLettersAtFirst 48 = .ok (.ireturn, 1) := by decide +kernel
set_option maxRecDepth 10000 in
theorem wX3_sameLettersAtFirst_0 {g : zG} {I : Nat → Nat → Int32} {P : Nat → Nat → Option Nat} {r : Option Value} {h' : zH} {a0 : Nat} {x1 : Int32} {x2 : Int32} (H : zk g a0 3 ∧ ∃ (w1 : Int32), Cl mX3_sizeOf [.ref a0, .int x1] (g, I, P) (some (.int w1)) (g, I, P) ∧ zk g a0 3 ∧ ∃ (w4 : Int32), Cl mX3_sizeOf [.ref a0, .int x2] (g, I, P) (some (.int w4)) (g, I, P) ∧ Zt none mX3_sameLettersAtFirst 0 0 17 [(0, .ref a0), (1, .int x1), (2, .int x2), (3, .int (zmmin w1 w4)), (4, .int 0)] [] (g, I, P) r h') : Zt none mX3_sameLettersAtFirst 0 0 0 [(0, .ref a0), (1, .int x1), (2, .int x2)] [] (g, I, P) r h' := by
  refine z_aload_n 0 dX3_sameLettersAtFirst_0 rfl rfl (z_iload_n 1 dX3_sameLettersAtFirst_1 rfl ?_)
  obtain ⟨oc2, w1, c2, H3⟩ := H
  refine z_virt (As := [.int x1]) (st := []) (r1 := (some (.int w1))) (h1 := (g, I, P)) dX3_sameLettersAtFirst_2 kX3_sizeOf wm_X3_55 ⟨by decide, by decide⟩ rfl rfl (Nat.le_of_ble_eq_true rfl) (by decide) (by decide) oc2 c2 ?_
  refine z_aload_n 0 dX3_sameLettersAtFirst_5 rfl rfl (z_iload_n 2 dX3_sameLettersAtFirst_6 rfl ?_)
  obtain ⟨oc5, w4, c5, H6⟩ := H3
  refine z_virt (As := [.int x2]) (st := [.int w1]) (r1 := (some (.int w4))) (h1 := (g, I, P)) dX3_sameLettersAtFirst_7 kX3_sizeOf wm_X3_55 ⟨by decide, by decide⟩ rfl rfl (Nat.le_of_ble_eq_true rfl) (by decide) (by decide) oc5 c5 ?_
  refine z_mmin dX3_sameLettersAtFirst_10 wm_X3_87 (by decide) (Nat.le_of_ble_eq_true rfl) (by decide) (by decide) w_mnS w_mI w_mnC (z_istore_n (lv' := [(3, .int (zmmin w1 w4)), (0, .ref a0), (1, .int x1), (2, .int x2)]) dX3_sameLettersAtFirst_13 (by decide) rfl (z_iconst (w := 0) dX3_sameLettersAtFirst_14 (by decide) (z_istore (lv' := [(4, .int 0), (3, .int (zmmin w1 w4)), (0, .ref a0), (1, .int x1), (2, .int x2)]) dX3_sameLettersAtFirst_15 (by decide) rfl ?_)))
  exact z_less [2, 3, 4, 1, 0] rfl H6
theorem eX3_sameLettersAtFirst {g : zG} {I : Nat → Nat → Int32} {P : Nat → Nat → Option Nat} {r : Option Value} {h' : zH} {a0 : Nat} {x1 : Int32} {x2 : Int32} (H : Zt none mX3_sameLettersAtFirst 0 0 0 [(0, .ref a0), (1, .int x1), (2, .int x2)] [] (g, I, P) r h') : Cl mX3_sameLettersAtFirst [.ref a0, .int x1, .int x2] (g, I, P) r h' := Cl.of (by decide) (Nat.le_of_ble_eq_true rfl) H
set_option maxRecDepth 10000 in
theorem wX3_sameLettersAtFirst_17 {g : zG} {I : Nat → Nat → Int32} {P : Nat → Nat → Option Nat} {r : Option Value} {h' : zH} {a0 : Nat} {x1 : Int32} {x2 : Int32} {x3 : Int32} {x4 : Int32} (H : ((x3 ≤ x4) → r = some (.int x4) ∧ h' = (g, I, P)) ∧ ((¬ x3 ≤ x4) → zk g a0 3 ∧ ∃ (w3 : Int32), Cl mX3_letterOf [.ref a0, .int x1, .int x4] (g, I, P) (some (.int w3)) (g, I, P) ∧ zk g a0 3 ∧ ∃ (w6 : Int32), Cl mX3_letterOf [.ref a0, .int x2, .int x4] (g, I, P) (some (.int w6)) (g, I, P) ∧ ((¬ w3 = w6) → r = some (.int x4) ∧ h' = (g, I, P)) ∧ ((w3 = w6) → Zt none mX3_sameLettersAtFirst 0 0 17 [(0, .ref a0), (1, .int x1), (2, .int x2), (3, .int x3), (4, .int (x4 + 1))] [] (g, I, P) r h'))) : Zt none mX3_sameLettersAtFirst 0 0 17 [(0, .ref a0), (1, .int x1), (2, .int x2), (3, .int x3), (4, .int x4)] [] (g, I, P) r h' := by
  refine z_iload 4 dX3_sameLettersAtFirst_17 rfl (z_iload_n 3 dX3_sameLettersAtFirst_19 rfl ?_)
  refine z_icmp_ge (t := 46) dX3_sameLettersAtFirst_20 (by decide) (fun q => ?_) (fun q => ?_)
  · have H1 := H.1 q
    refine z_iload 4 dX3_sameLettersAtFirst_46 rfl ?_
    obtain ⟨rfl, rfl⟩ := H1
    exact z_iret dX3_sameLettersAtFirst_48 rfl (by decide) (by decide)
  · have H2 := H.2 q
    refine z_aload_n 0 dX3_sameLettersAtFirst_23 rfl rfl (z_iload_n 1 dX3_sameLettersAtFirst_24 rfl (z_iload 4 dX3_sameLettersAtFirst_25 rfl ?_))
    obtain ⟨oc4, w3, c4, H5⟩ := H2
    refine z_virt (As := [.int x1, .int x4]) (st := []) (r1 := (some (.int w3))) (h1 := (g, I, P)) dX3_sameLettersAtFirst_27 kX3_letterOf wm_X3_59 ⟨by decide, by decide⟩ rfl rfl (Nat.le_of_ble_eq_true rfl) (by decide) (by decide) oc4 c4 ?_
    refine z_aload_n 0 dX3_sameLettersAtFirst_30 rfl rfl (z_iload_n 2 dX3_sameLettersAtFirst_31 rfl (z_iload 4 dX3_sameLettersAtFirst_32 rfl ?_))
    obtain ⟨oc7, w6, c7, H8⟩ := H5
    refine z_virt (As := [.int x2, .int x4]) (st := [.int w3]) (r1 := (some (.int w6))) (h1 := (g, I, P)) dX3_sameLettersAtFirst_34 kX3_letterOf wm_X3_59 ⟨by decide, by decide⟩ rfl rfl (Nat.le_of_ble_eq_true rfl) (by decide) (by decide) oc7 c7 ?_
    refine z_icmp_ne (t := 46) dX3_sameLettersAtFirst_37 (by decide) (fun q => ?_) (fun q => ?_)
    · have H9 := H8.1 q
      refine z_iload 4 dX3_sameLettersAtFirst_46 rfl ?_
      obtain ⟨rfl, rfl⟩ := H9
      exact z_iret dX3_sameLettersAtFirst_48 rfl (by decide) (by decide)
    · have H10 := H8.2 q
      refine z_iinc (y := x4 + 1) (lv' := [(4, .int (x4 + 1)), (0, .ref a0), (1, .int x1), (2, .int x2), (3, .int x3)]) 4 dX3_sameLettersAtFirst_40 rfl rfl (by decide) rfl (z_goto (t := 17) dX3_sameLettersAtFirst_43 (by decide) ?_)
      exact z_less [1, 2, 3, 4, 0] rfl H10
theorem dX3_isWithin_0 : decode cX3_isWithin 0 = .ok (.aload_n 0, 1) := by decide +kernel
theorem dX3_isWithin_1 : decode cX3_isWithin 1 = .ok (.iload_n 1, 1) := by decide +kernel
theorem dX3_isWithin_2 : decode cX3_isWithin 2 = .ok (.invokevirtual 55, 3) := by decide +kernel
theorem dX3_isWithin_5 : decode cX3_isWithin 5 = .ok (.aload_n 0, 1) := by decide +kernel
theorem dX3_isWithin_6 : decode cX3_isWithin 6 = .ok (.iload_n 2, 1) := by decide +kernel
theorem dX3_isWithin_7 : decode cX3_isWithin 7 = .ok (.invokevirtual 55, 3) := by decide +kernel
theorem dX3_isWithin_10 : decode cX3_isWithin 10 = .ok (.if_icmp .ge 21, 3) := by decide +kernel
theorem dX3_isWithin_13 : decode cX3_isWithin 13 = .ok (.aload_n 0, 1) := by decide +kernel
theorem dX3_isWithin_14 : decode cX3_isWithin 14 = .ok (.iload_n 1, 1) := by decide +kernel
theorem dX3_isWithin_15 : decode cX3_isWithin 15 = .ok (.iload_n 2, 1) := by decide +kernel
theorem dX3_isWithin_16 : decode cX3_isWithin 16 = .ok (.invokevirtual 92, 3) := by decide +kernel
theorem dX3_isWithin_19 : decode cX3_isWithin 19 = .ok (.aload_n 0, 1) := by decide +kernel
theorem dX3_isWithin_20 : decode cX3_isWithin 20 = .ok (.iload_n 1, 1) := by decide +kernel
theorem dX3_isWithin_21 : decode cX3_isWithin 21 = .ok (.invokevirtual 55, 3) := by decide +kernel
theorem dX3_isWithin_24 : decode cX3_isWithin 24 = .ok (.if_icmp .ne 7, 3) := by decide +kernel
theorem dX3_isWithin_27 : decode cX3_isWithin 27 = .ok (.iconst 1, 1) := by decide +kernel
theorem dX3_isWithin_28 : decode cX3_isWithin 28 = .ok (.goto 4, 3) := by decide +kernel
theorem dX3_isWithin_31 : decode cX3_isWithin 31 = .ok (.iconst 0, 1) := by decide +kernel
theorem dX3_isWithin_32 : decode cX3_isWithin 32 = .ok (.ireturn, 1) := by decide +kernel
set_option maxRecDepth 10000 in
theorem wX3_isWithin_0 {g : zG} {I : Nat → Nat → Int32} {P : Nat → Nat → Option Nat} {r : Option Value} {h' : zH} {a0 : Nat} {x1 : Int32} {x2 : Int32} (H : zk g a0 3 ∧ ∃ (w1 : Int32), Cl mX3_sizeOf [.ref a0, .int x1] (g, I, P) (some (.int w1)) (g, I, P) ∧ zk g a0 3 ∧ ∃ (w4 : Int32), Cl mX3_sizeOf [.ref a0, .int x2] (g, I, P) (some (.int w4)) (g, I, P) ∧ ((w4 ≤ w1) → r = some (.int 0) ∧ h' = (g, I, P)) ∧ ((¬ w4 ≤ w1) → zk g a0 3 ∧ ∃ (w9 : Int32), Cl mX3_sameLettersAtFirst [.ref a0, .int x1, .int x2] (g, I, P) (some (.int w9)) (g, I, P) ∧ zk g a0 3 ∧ ∃ (w12 : Int32), Cl mX3_sizeOf [.ref a0, .int x1] (g, I, P) (some (.int w12)) (g, I, P) ∧ ((¬ w9 = w12) → r = some (.int 0) ∧ h' = (g, I, P)) ∧ ((w9 = w12) → r = some (.int 1) ∧ h' = (g, I, P)))) : Zt none mX3_isWithin 0 0 0 [(0, .ref a0), (1, .int x1), (2, .int x2)] [] (g, I, P) r h' := by
  refine z_aload_n 0 dX3_isWithin_0 rfl rfl (z_iload_n 1 dX3_isWithin_1 rfl ?_)
  obtain ⟨oc2, w1, c2, H3⟩ := H
  refine z_virt (As := [.int x1]) (st := []) (r1 := (some (.int w1))) (h1 := (g, I, P)) dX3_isWithin_2 kX3_sizeOf wm_X3_55 ⟨by decide, by decide⟩ rfl rfl (Nat.le_of_ble_eq_true rfl) (by decide) (by decide) oc2 c2 ?_
  refine z_aload_n 0 dX3_isWithin_5 rfl rfl (z_iload_n 2 dX3_isWithin_6 rfl ?_)
  obtain ⟨oc5, w4, c5, H6⟩ := H3
  refine z_virt (As := [.int x2]) (st := [.int w1]) (r1 := (some (.int w4))) (h1 := (g, I, P)) dX3_isWithin_7 kX3_sizeOf wm_X3_55 ⟨by decide, by decide⟩ rfl rfl (Nat.le_of_ble_eq_true rfl) (by decide) (by decide) oc5 c5 ?_
  refine z_icmp_ge (t := 31) dX3_isWithin_10 (by decide) (fun q => ?_) (fun q => ?_)
  · have H7 := H6.1 q
    refine z_iconst (w := 0) dX3_isWithin_31 (by decide) ?_
    obtain ⟨rfl, rfl⟩ := H7
    exact z_zret dX3_isWithin_32 rfl (Or.inl rfl) (by decide) (by decide)
  · have H8 := H6.2 q
    refine z_aload_n 0 dX3_isWithin_13 rfl rfl (z_iload_n 1 dX3_isWithin_14 rfl (z_iload_n 2 dX3_isWithin_15 rfl ?_))
    obtain ⟨oc10, w9, c10, H11⟩ := H8
    refine z_virt (As := [.int x1, .int x2]) (st := []) (r1 := (some (.int w9))) (h1 := (g, I, P)) dX3_isWithin_16 kX3_sameLettersAtFirst wm_X3_92 ⟨by decide, by decide⟩ rfl rfl (Nat.le_of_ble_eq_true rfl) (by decide) (by decide) oc10 c10 ?_
    refine z_aload_n 0 dX3_isWithin_19 rfl rfl (z_iload_n 1 dX3_isWithin_20 rfl ?_)
    obtain ⟨oc13, w12, c13, H14⟩ := H11
    refine z_virt (As := [.int x1]) (st := [.int w9]) (r1 := (some (.int w12))) (h1 := (g, I, P)) dX3_isWithin_21 kX3_sizeOf wm_X3_55 ⟨by decide, by decide⟩ rfl rfl (Nat.le_of_ble_eq_true rfl) (by decide) (by decide) oc13 c13 ?_
    refine z_icmp_ne (t := 31) dX3_isWithin_24 (by decide) (fun q => ?_) (fun q => ?_)
    · have H15 := H14.1 q
      refine z_iconst (w := 0) dX3_isWithin_31 (by decide) ?_
      obtain ⟨rfl, rfl⟩ := H15
      exact z_zret dX3_isWithin_32 rfl (Or.inl rfl) (by decide) (by decide)
    · have H16 := H14.2 q
      refine z_iconst (w := 1) dX3_isWithin_27 (by decide) (z_goto (t := 32) dX3_isWithin_28 (by decide) ?_)
      obtain ⟨rfl, rfl⟩ := H16
      exact z_zret dX3_isWithin_32 rfl (Or.inr rfl) (by decide) (by decide)
theorem eX3_isWithin {g : zG} {I : Nat → Nat → Int32} {P : Nat → Nat → Option Nat} {r : Option Value} {h' : zH} {a0 : Nat} {x1 : Int32} {x2 : Int32} (H : Zt none mX3_isWithin 0 0 0 [(0, .ref a0), (1, .int x1), (2, .int x2)] [] (g, I, P) r h') : Cl mX3_isWithin [.ref a0, .int x1, .int x2] (g, I, P) r h' := Cl.of (by decide) (Nat.le_of_ble_eq_true rfl) H
theorem dX3_lettersTillSure_0 : decode cX3_lettersTillSure 0 = .ok (.iconst 0, 1) := by decide +kernel
theorem dX3_lettersTillSure_1 : decode cX3_lettersTillSure 1 = .ok (.istore_n 3, 1) := by decide +kernel
theorem dX3_lettersTillSure_2 : decode cX3_lettersTillSure 2 = .ok (.iconst 0, 1) := by decide +kernel
theorem dX3_lettersTillSure_3 : decode cX3_lettersTillSure 3 = .ok (.istore 4, 2) := by decide +kernel
theorem dX3_lettersTillSure_5 : decode cX3_lettersTillSure 5 = .ok (.iload 4, 2) := by decide +kernel
theorem dX3_lettersTillSure_7 : decode cX3_lettersTillSure 7 = .ok (.aload_n 0, 1) := by decide +kernel
theorem dX3_lettersTillSure_8 : decode cX3_lettersTillSure 8 = .ok (.getfield 31, 3) := by decide +kernel
theorem dX3_lettersTillSure_11 : decode cX3_lettersTillSure 11 = .ok (.if_icmp .ge 38, 3) := by decide +kernel
theorem dX3_lettersTillSure_14 : decode cX3_lettersTillSure 14 = .ok (.iload_n 1, 1) := by decide +kernel
theorem dX3_lettersTillSure_15 : decode cX3_lettersTillSure 15 = .ok (.iload 4, 2) := by decide +kernel
theorem dX3_lettersTillSure_17 : decode cX3_lettersTillSure 17 = .ok (.invokestatic 80, 3) := by decide +kernel
theorem dX3_lettersTillSure_20 : decode cX3_lettersTillSure 20 = .ok (.ifCond .eq 23, 3) := by decide +kernel
theorem dX3_lettersTillSure_23 : decode cX3_lettersTillSure 23 = .ok (.iload_n 3, 1) := by decide +kernel
theorem dX3_lettersTillSure_24 : decode cX3_lettersTillSure 24 = .ok (.aload_n 0, 1) := by decide +kernel
theorem dX3_lettersTillSure_25 : decode cX3_lettersTillSure 25 = .ok (.iload_n 1, 1) := by decide +kernel
theorem dX3_lettersTillSure_26 : decode cX3_lettersTillSure 26 = .ok (.iload 4, 2) := by decide +kernel
theorem dX3_lettersTillSure_28 : decode cX3_lettersTillSure 28 = .ok (.iload_n 2, 1) := by decide +kernel
theorem dX3_lettersTillSure_29 : decode cX3_lettersTillSure 29 = .ok (.invokevirtual 95, 3) := by decide +kernel
theorem dX3_lettersTillSure_32 : decode cX3_lettersTillSure 32 = .ok (.iload_n 2, 1) := by decide +kernel
theorem dX3_lettersTillSure_33 : decode cX3_lettersTillSure 33 = .ok (.isub, 1) := by decide +kernel
theorem dX3_lettersTillSure_34 : decode cX3_lettersTillSure 34 = .ok (.aload_n 0, 1) := by decide +kernel
theorem dX3_lettersTillSure_35 : decode cX3_lettersTillSure 35 = .ok (.iload 4, 2) := by decide +kernel
theorem dX3_lettersTillSure_37 : decode cX3_lettersTillSure 37 = .ok (.invokevirtual 70, 3) := by decide +kernel
theorem dX3_lettersTillSure_40 : decode cX3_lettersTillSure 40 = .ok (.imul, 1) := by decide +kernel
theorem dX3_lettersTillSure_41 : decode cX3_lettersTillSure 41 = .ok (.iadd, 1) := by decide +kernel
theorem dX3_lettersTillSure_42 : decode cX3_lettersTillSure 42 = .ok (.istore_n 3, 1) := by decide +kernel
theorem dX3_lettersTillSure_43 : decode cX3_lettersTillSure 43 = .ok (.iinc 4 1, 3) := by decide +kernel
theorem dX3_lettersTillSure_46 : decode cX3_lettersTillSure 46 = .ok (.goto (-41), 3) := by decide +kernel
theorem dX3_lettersTillSure_49 : decode cX3_lettersTillSure 49 = .ok (.iload_n 3, 1) := by decide +kernel
theorem dX3_lettersTillSure_50 : decode cX3_lettersTillSure 50 = .ok (.ireturn, 1) := by decide +kernel
set_option maxRecDepth 10000 in
theorem wX3_lettersTillSure_0 {g : zG} {I : Nat → Nat → Int32} {P : Nat → Nat → Option Nat} {r : Option Value} {h' : zH} {a0 : Nat} {x1 : Int32} {x2 : Int32} (H : Zt none mX3_lettersTillSure 0 0 5 [(0, .ref a0), (1, .int x1), (2, .int x2), (3, .int 0), (4, .int 0)] [] (g, I, P) r h') : Zt none mX3_lettersTillSure 0 0 0 [(0, .ref a0), (1, .int x1), (2, .int x2)] [] (g, I, P) r h' := by
  refine z_iconst (w := 0) dX3_lettersTillSure_0 (by decide) (z_istore_n (lv' := [(3, .int 0), (0, .ref a0), (1, .int x1), (2, .int x2)]) dX3_lettersTillSure_1 (by decide) rfl (z_iconst (w := 0) dX3_lettersTillSure_2 (by decide) (z_istore (lv' := [(4, .int 0), (3, .int 0), (0, .ref a0), (1, .int x1), (2, .int x2)]) dX3_lettersTillSure_3 (by decide) rfl ?_)))
  exact z_less [2, 3, 4, 1, 0] rfl H
theorem eX3_lettersTillSure {g : zG} {I : Nat → Nat → Int32} {P : Nat → Nat → Option Nat} {r : Option Value} {h' : zH} {a0 : Nat} {x1 : Int32} {x2 : Int32} (H : Zt none mX3_lettersTillSure 0 0 0 [(0, .ref a0), (1, .int x1), (2, .int x2)] [] (g, I, P) r h') : Cl mX3_lettersTillSure [.ref a0, .int x1, .int x2] (g, I, P) r h' := Cl.of (by decide) (Nat.le_of_ble_eq_true rfl) H
set_option maxRecDepth 10000 in
theorem wX3_lettersTillSure_5 {g : zG} {I : Nat → Nat → Int32} {P : Nat → Nat → Option Nat} {r : Option Value} {h' : zH} {a0 : Nat} {x1 : Int32} {x2 : Int32} {x3 : Int32} {x4 : Int32} (H : zk g a0 3 ∧ ((I a0 1 ≤ x4) → r = some (.int x3) ∧ h' = (g, I, P)) ∧ ((¬ I a0 1 ≤ x4) → ∃ (w3 : Int32), Cl mX11_has [.int x1, .int x4] (g, I, P) (some (.int w3)) (g, I, P) ∧ ((w3 = 0) → Zt none mX3_lettersTillSure 0 0 5 [(0, .ref a0), (1, .int x1), (2, .int x2), (3, .int x3), (4, .int (x4 + 1))] [] (g, I, P) r h') ∧ ((¬ w3 = 0) → zk g a0 3 ∧ ∃ (w8 : Int32), Cl mX3_lettersToTell [.ref a0, .int x1, .int x4, .int x2] (g, I, P) (some (.int w8)) (g, I, P) ∧ zk g a0 3 ∧ ∃ (w11 : Int32), Cl mX3_oftenOf [.ref a0, .int x4] (g, I, P) (some (.int w11)) (g, I, P) ∧ Zt none mX3_lettersTillSure 0 0 5 [(0, .ref a0), (1, .int x1), (2, .int x2), (3, .int (x3 + ((w8 - x2) * w11))), (4, .int (x4 + 1))] [] (g, I, P) r h'))) : Zt none mX3_lettersTillSure 0 0 5 [(0, .ref a0), (1, .int x1), (2, .int x2), (3, .int x3), (4, .int x4)] [] (g, I, P) r h' := by
  refine z_iload 4 dX3_lettersTillSure_5 rfl (z_aload_n 0 dX3_lettersTillSure_7 rfl rfl (z_getI dX3_lettersTillSure_8 wf_X3_31 (by decide) (by decide) rfl H.1 ?_))
  refine z_icmp_ge (t := 49) dX3_lettersTillSure_11 (by decide) (fun q => ?_) (fun q => ?_)
  · have H1 := H.2.1 q
    refine z_iload_n 3 dX3_lettersTillSure_49 rfl ?_
    obtain ⟨rfl, rfl⟩ := H1
    exact z_iret dX3_lettersTillSure_50 rfl (by decide) (by decide)
  · have H2 := H.2.2 q
    refine z_iload_n 1 dX3_lettersTillSure_14 rfl (z_iload 4 dX3_lettersTillSure_15 rfl ?_)
    obtain ⟨w3, c4, H5⟩ := H2
    refine z_stat (As := [.int x1, .int x4]) (st := []) (r1 := (some (.int w3))) (h1 := (g, I, P)) dX3_lettersTillSure_17 kX11_has wm_X3_80 ⟨by decide, by decide⟩ rfl rfl (Nat.le_of_ble_eq_true rfl) (by decide) (by decide) c4 ?_
    refine z_if_eq (t := 43) dX3_lettersTillSure_20 (by decide) (fun q => ?_) (fun q => ?_)
    · have H6 := H5.1 q
      refine z_iinc (y := x4 + 1) (lv' := [(4, .int (x4 + 1)), (0, .ref a0), (1, .int x1), (2, .int x2), (3, .int x3)]) 4 dX3_lettersTillSure_43 rfl rfl (by decide) rfl (z_goto (t := 5) dX3_lettersTillSure_46 (by decide) ?_)
      exact z_less [1, 2, 3, 4, 0] rfl H6
    · have H7 := H5.2 q
      refine z_iload_n 3 dX3_lettersTillSure_23 rfl (z_aload_n 0 dX3_lettersTillSure_24 rfl rfl (z_iload_n 1 dX3_lettersTillSure_25 rfl (z_iload 4 dX3_lettersTillSure_26 rfl (z_iload_n 2 dX3_lettersTillSure_28 rfl ?_))))
      obtain ⟨oc9, w8, c9, H10⟩ := H7
      refine z_virt (As := [.int x1, .int x4, .int x2]) (st := [.int x3]) (r1 := (some (.int w8))) (h1 := (g, I, P)) dX3_lettersTillSure_29 kX3_lettersToTell wm_X3_95 ⟨by decide, by decide⟩ rfl rfl (Nat.le_of_ble_eq_true rfl) (by decide) (by decide) oc9 c9 ?_
      refine z_iload_n 2 dX3_lettersTillSure_32 rfl (z_isub dX3_lettersTillSure_33 (z_aload_n 0 dX3_lettersTillSure_34 rfl rfl (z_iload 4 dX3_lettersTillSure_35 rfl ?_)))
      obtain ⟨oc12, w11, c12, H13⟩ := H10
      refine z_virt (As := [.int x4]) (st := [.int (w8 - x2), .int x3]) (r1 := (some (.int w11))) (h1 := (g, I, P)) dX3_lettersTillSure_37 kX3_oftenOf wm_X3_70 ⟨by decide, by decide⟩ rfl rfl (Nat.le_of_ble_eq_true rfl) (by decide) (by decide) oc12 c12 ?_
      refine z_imul dX3_lettersTillSure_40 (z_iadd dX3_lettersTillSure_41 (z_istore_n (lv' := [(3, .int (x3 + ((w8 - x2) * w11))), (0, .ref a0), (1, .int x1), (2, .int x2), (4, .int x4)]) dX3_lettersTillSure_42 (by decide) rfl (z_iinc (y := x4 + 1) (lv' := [(4, .int (x4 + 1)), (3, .int (x3 + ((w8 - x2) * w11))), (0, .ref a0), (1, .int x1), (2, .int x2)]) 4 dX3_lettersTillSure_43 rfl rfl (by decide) rfl (z_goto (t := 5) dX3_lettersTillSure_46 (by decide) ?_))))
      exact z_less [2, 3, 4, 1, 0] rfl H13
theorem dX3_lettersToTell_0 : decode cX3_lettersToTell 0 = .ok (.iload_n 3, 1) := by decide +kernel
theorem dX3_lettersToTell_1 : decode cX3_lettersToTell 1 = .ok (.istore 4, 2) := by decide +kernel
theorem dX3_lettersToTell_3 : decode cX3_lettersToTell 3 = .ok (.iconst 0, 1) := by decide +kernel
theorem dX3_lettersToTell_4 : decode cX3_lettersToTell 4 = .ok (.istore 5, 2) := by decide +kernel
theorem dX3_lettersToTell_6 : decode cX3_lettersToTell 6 = .ok (.iload 5, 2) := by decide +kernel
theorem dX3_lettersToTell_8 : decode cX3_lettersToTell 8 = .ok (.aload_n 0, 1) := by decide +kernel
theorem dX3_lettersToTell_9 : decode cX3_lettersToTell 9 = .ok (.getfield 31, 3) := by decide +kernel
theorem dX3_lettersToTell_12 : decode cX3_lettersToTell 12 = .ok (.if_icmp .ge 40, 3) := by decide +kernel
theorem dX3_lettersToTell_15 : decode cX3_lettersToTell 15 = .ok (.iload 5, 2) := by decide +kernel
theorem dX3_lettersToTell_17 : decode cX3_lettersToTell 17 = .ok (.iload_n 2, 1) := by decide +kernel
theorem dX3_lettersToTell_18 : decode cX3_lettersToTell 18 = .ok (.if_icmp .eq 28, 3) := by decide +kernel
theorem dX3_lettersToTell_21 : decode cX3_lettersToTell 21 = .ok (.iload_n 1, 1) := by decide +kernel
theorem dX3_lettersToTell_22 : decode cX3_lettersToTell 22 = .ok (.iload 5, 2) := by decide +kernel
theorem dX3_lettersToTell_24 : decode cX3_lettersToTell 24 = .ok (.invokestatic 80, 3) := by decide +kernel
theorem dX3_lettersToTell_27 : decode cX3_lettersToTell 27 = .ok (.ifCond .eq 19, 3) := by decide +kernel
theorem dX3_lettersToTell_30 : decode cX3_lettersToTell 30 = .ok (.iload 4, 2) := by decide +kernel
theorem dX3_lettersToTell_32 : decode cX3_lettersToTell 32 = .ok (.aload_n 0, 1) := by decide +kernel
theorem dX3_lettersToTell_33 : decode cX3_lettersToTell 33 = .ok (.iload 5, 2) := by decide +kernel
theorem dX3_lettersToTell_35 : decode cX3_lettersToTell 35 = .ok (.iload_n 2, 1) := by decide +kernel
theorem dX3_lettersToTell_36 : decode cX3_lettersToTell 36 = .ok (.invokevirtual 92, 3) := by decide +kernel
theorem dX3_lettersToTell_39 : decode cX3_lettersToTell 39 = .ok (.iconst 1, 1) := by decide +kernel
theorem dX3_lettersToTell_40 : decode cX3_lettersToTell 40 = .ok (.iadd, 1) := by decide +kernel
theorem dX3_lettersToTell_41 : decode cX3_lettersToTell 41 = .ok (.invokestatic 99, 3) := by decide +kernel
theorem dX3_lettersToTell_44 : decode cX3_lettersToTell 44 = .ok (.istore 4, 2) := by decide +kernel
theorem dX3_lettersToTell_46 : decode cX3_lettersToTell 46 = .ok (.iinc 5 1, 3) := by decide +kernel
theorem dX3_lettersToTell_49 : decode cX3_lettersToTell 49 = .ok (.goto (-43), 3) := by decide +kernel
theorem dX3_lettersToTell_52 : decode cX3_lettersToTell 52 = .ok (.iload 4, 2) := by decide +kernel
theorem dX3_lettersToTell_54 : decode cX3_lettersToTell 54 = .ok (.aload_n 0, 1) := by decide +kernel
theorem dX3_lettersToTell_55 : decode cX3_lettersToTell 55 = .ok (.iload_n 2, 1) := by decide +kernel
theorem dX3_lettersToTell_56 : decode cX3_lettersToTell 56 = .ok (.invokevirtual 55, 3) := by decide +kernel
theorem dX3_lettersToTell_59 : decode cX3_lettersToTell 59 = .ok (.invokestatic 87, 3) := by decide +kernel
theorem dX3_lettersToTell_62 : decode cX3_lettersToTell 62 = .ok (.ireturn, 1) := by decide +kernel
set_option maxRecDepth 10000 in
theorem wX3_lettersToTell_0 {g : zG} {I : Nat → Nat → Int32} {P : Nat → Nat → Option Nat} {r : Option Value} {h' : zH} {a0 : Nat} {x1 : Int32} {x2 : Int32} {x3 : Int32} (H : Zt none mX3_lettersToTell 0 0 6 [(0, .ref a0), (1, .int x1), (2, .int x2), (4, .int x3), (5, .int 0)] [] (g, I, P) r h') : Zt none mX3_lettersToTell 0 0 0 [(0, .ref a0), (1, .int x1), (2, .int x2), (3, .int x3)] [] (g, I, P) r h' := by
  refine z_iload_n 3 dX3_lettersToTell_0 rfl (z_istore (lv' := [(4, .int x3), (0, .ref a0), (1, .int x1), (2, .int x2), (3, .int x3)]) dX3_lettersToTell_1 (by decide) rfl (z_iconst (w := 0) dX3_lettersToTell_3 (by decide) (z_istore (lv' := [(5, .int 0), (4, .int x3), (0, .ref a0), (1, .int x1), (2, .int x2), (3, .int x3)]) dX3_lettersToTell_4 (by decide) rfl ?_)))
  exact z_less [2, 3, 4, 1, 0] rfl H
theorem eX3_lettersToTell {g : zG} {I : Nat → Nat → Int32} {P : Nat → Nat → Option Nat} {r : Option Value} {h' : zH} {a0 : Nat} {x1 : Int32} {x2 : Int32} {x3 : Int32} (H : Zt none mX3_lettersToTell 0 0 0 [(0, .ref a0), (1, .int x1), (2, .int x2), (3, .int x3)] [] (g, I, P) r h') : Cl mX3_lettersToTell [.ref a0, .int x1, .int x2, .int x3] (g, I, P) r h' := Cl.of (by decide) (Nat.le_of_ble_eq_true rfl) H
set_option maxRecDepth 10000 in
theorem wX3_lettersToTell_6 {g : zG} {I : Nat → Nat → Int32} {P : Nat → Nat → Option Nat} {r : Option Value} {h' : zH} {a0 : Nat} {x1 : Int32} {x2 : Int32} {x4 : Int32} {x5 : Int32} (H : zk g a0 3 ∧ ((I a0 1 ≤ x5) → zk g a0 3 ∧ ∃ (w2 : Int32), Cl mX3_sizeOf [.ref a0, .int x2] (g, I, P) (some (.int w2)) (g, I, P) ∧ r = some (.int (zmmin x4 w2)) ∧ h' = (g, I, P)) ∧ ((¬ I a0 1 ≤ x5) → ((x5 = x2) → Zt none mX3_lettersToTell 0 0 6 [(0, .ref a0), (1, .int x1), (2, .int x2), (4, .int x4), (5, .int (x5 + 1))] [] (g, I, P) r h') ∧ ((¬ x5 = x2) → ∃ (w8 : Int32), Cl mX11_has [.int x1, .int x5] (g, I, P) (some (.int w8)) (g, I, P) ∧ ((w8 = 0) → Zt none mX3_lettersToTell 0 0 6 [(0, .ref a0), (1, .int x1), (2, .int x2), (4, .int x4), (5, .int (x5 + 1))] [] (g, I, P) r h') ∧ ((¬ w8 = 0) → zk g a0 3 ∧ ∃ (w13 : Int32), Cl mX3_sameLettersAtFirst [.ref a0, .int x5, .int x2] (g, I, P) (some (.int w13)) (g, I, P) ∧ Zt none mX3_lettersToTell 0 0 6 [(0, .ref a0), (1, .int x1), (2, .int x2), (4, .int (zmmax x4 (w13 + 1))), (5, .int (x5 + 1))] [] (g, I, P) r h')))) : Zt none mX3_lettersToTell 0 0 6 [(0, .ref a0), (1, .int x1), (2, .int x2), (4, .int x4), (5, .int x5)] [] (g, I, P) r h' := by
  refine z_iload 4 dX3_lettersToTell_6 rfl (z_aload_n 0 dX3_lettersToTell_8 rfl rfl (z_getI dX3_lettersToTell_9 wf_X3_31 (by decide) (by decide) rfl H.1 ?_))
  refine z_icmp_ge (t := 52) dX3_lettersToTell_12 (by decide) (fun q => ?_) (fun q => ?_)
  · have H1 := H.2.1 q
    refine z_iload 3 dX3_lettersToTell_52 rfl (z_aload_n 0 dX3_lettersToTell_54 rfl rfl (z_iload_n 2 dX3_lettersToTell_55 rfl ?_))
    obtain ⟨oc3, w2, c3, H4⟩ := H1
    refine z_virt (As := [.int x2]) (st := [.int x4]) (r1 := (some (.int w2))) (h1 := (g, I, P)) dX3_lettersToTell_56 kX3_sizeOf wm_X3_55 ⟨by decide, by decide⟩ rfl rfl (Nat.le_of_ble_eq_true rfl) (by decide) (by decide) oc3 c3 ?_
    refine z_mmin dX3_lettersToTell_59 wm_X3_87 (by decide) (Nat.le_of_ble_eq_true rfl) (by decide) (by decide) w_mnS w_mI w_mnC ?_
    obtain ⟨rfl, rfl⟩ := H4
    exact z_iret dX3_lettersToTell_62 rfl (by decide) (by decide)
  · have H5 := H.2.2 q
    refine z_iload 4 dX3_lettersToTell_15 rfl (z_iload_n 2 dX3_lettersToTell_17 rfl ?_)
    refine z_icmp_eq (t := 46) dX3_lettersToTell_18 (by decide) (fun q => ?_) (fun q => ?_)
    · have H6 := H5.1 q
      refine z_iinc (y := x5 + 1) (lv' := [(5, .int (x5 + 1)), (0, .ref a0), (1, .int x1), (2, .int x2), (4, .int x4)]) 4 dX3_lettersToTell_46 rfl rfl (by decide) rfl (z_goto (t := 6) dX3_lettersToTell_49 (by decide) ?_)
      exact z_less [1, 2, 3, 4, 0] rfl H6
    · have H7 := H5.2 q
      refine z_iload_n 1 dX3_lettersToTell_21 rfl (z_iload 4 dX3_lettersToTell_22 rfl ?_)
      obtain ⟨w8, c9, H10⟩ := H7
      refine z_stat (As := [.int x1, .int x5]) (st := []) (r1 := (some (.int w8))) (h1 := (g, I, P)) dX3_lettersToTell_24 kX11_has wm_X3_80 ⟨by decide, by decide⟩ rfl rfl (Nat.le_of_ble_eq_true rfl) (by decide) (by decide) c9 ?_
      refine z_if_eq (t := 46) dX3_lettersToTell_27 (by decide) (fun q => ?_) (fun q => ?_)
      · have H11 := H10.1 q
        refine z_iinc (y := x5 + 1) (lv' := [(5, .int (x5 + 1)), (0, .ref a0), (1, .int x1), (2, .int x2), (4, .int x4)]) 4 dX3_lettersToTell_46 rfl rfl (by decide) rfl (z_goto (t := 6) dX3_lettersToTell_49 (by decide) ?_)
        exact z_less [1, 2, 3, 4, 0] rfl H11
      · have H12 := H10.2 q
        refine z_iload 3 dX3_lettersToTell_30 rfl (z_aload_n 0 dX3_lettersToTell_32 rfl rfl (z_iload 4 dX3_lettersToTell_33 rfl (z_iload_n 2 dX3_lettersToTell_35 rfl ?_)))
        obtain ⟨oc14, w13, c14, H15⟩ := H12
        refine z_virt (As := [.int x5, .int x2]) (st := [.int x4]) (r1 := (some (.int w13))) (h1 := (g, I, P)) dX3_lettersToTell_36 kX3_sameLettersAtFirst wm_X3_92 ⟨by decide, by decide⟩ rfl rfl (Nat.le_of_ble_eq_true rfl) (by decide) (by decide) oc14 c14 ?_
        refine z_iconst (w := 1) dX3_lettersToTell_39 (by decide) (z_iadd dX3_lettersToTell_40 (z_mmax dX3_lettersToTell_41 wm_X3_99 (by decide) (Nat.le_of_ble_eq_true rfl) (by decide) (by decide) w_mxS w_mI w_mxC (z_istore (lv' := [(4, .int (zmmax x4 (w13 + 1))), (0, .ref a0), (1, .int x1), (2, .int x2), (5, .int x5)]) dX3_lettersToTell_44 (by decide) rfl (z_iinc (y := x5 + 1) (lv' := [(5, .int (x5 + 1)), (4, .int (zmmax x4 (w13 + 1))), (0, .ref a0), (1, .int x1), (2, .int x2)]) 4 dX3_lettersToTell_46 rfl rfl (by decide) rfl (z_goto (t := 6) dX3_lettersToTell_49 (by decide) ?_)))))
        exact z_less [2, 3, 4, 1, 0] rfl H15
theorem dX3_soonestAnswered_0 : decode cX3_soonestAnswered 0 = .ok (.iconst (-1), 1) := by decide +kernel
theorem dX3_soonestAnswered_1 : decode cX3_soonestAnswered 1 = .ok (.istore_n 1, 1) := by decide +kernel
theorem dX3_soonestAnswered_2 : decode cX3_soonestAnswered 2 = .ok (.lconst 0, 1) := by decide +kernel
theorem dX3_soonestAnswered_3 : decode cX3_soonestAnswered 3 = .ok (.lstore_n 2, 1) := by decide +kernel
theorem dX3_soonestAnswered_4 : decode cX3_soonestAnswered 4 = .ok (.lconst 0, 1) := by decide +kernel
theorem dX3_soonestAnswered_5 : decode cX3_soonestAnswered 5 = .ok (.lstore 4, 2) := by decide +kernel
theorem dX3_soonestAnswered_7 : decode cX3_soonestAnswered 7 = .ok (.iconst 0, 1) := by decide +kernel
theorem dX3_soonestAnswered_8 : decode cX3_soonestAnswered 8 = .ok (.istore 6, 2) := by decide +kernel
theorem dX3_soonestAnswered_10 : decode cX3_soonestAnswered 10 = .ok (.iload 6, 2) := by decide +kernel
theorem dX3_soonestAnswered_12 : decode cX3_soonestAnswered 12 = .ok (.bipush 6, 2) := by decide +kernel
theorem dX3_soonestAnswered_14 : decode cX3_soonestAnswered 14 = .ok (.if_icmp .ge 74, 3) := by decide +kernel
theorem dX3_soonestAnswered_17 : decode cX3_soonestAnswered 17 = .ok (.aload_n 0, 1) := by decide +kernel
theorem dX3_soonestAnswered_18 : decode cX3_soonestAnswered 18 = .ok (.getfield 28, 3) := by decide +kernel
theorem dX3_soonestAnswered_21 : decode cX3_soonestAnswered 21 = .ok (.iload 6, 2) := by decide +kernel
theorem dX3_soonestAnswered_23 : decode cX3_soonestAnswered 23 = .ok (.invokestatic 63, 3) := by decide +kernel
theorem dX3_soonestAnswered_26 : decode cX3_soonestAnswered 26 = .ok (.istore 7, 2) := by decide +kernel
theorem dX3_soonestAnswered_28 : decode cX3_soonestAnswered 28 = .ok (.aload_n 0, 1) := by decide +kernel
theorem dX3_soonestAnswered_29 : decode cX3_soonestAnswered 29 = .ok (.iload 7, 2) := by decide +kernel
theorem dX3_soonestAnswered_31 : decode cX3_soonestAnswered 31 = .ok (.iconst 0, 1) := by decide +kernel
theorem dX3_soonestAnswered_32 : decode cX3_soonestAnswered 32 = .ok (.invokevirtual 102, 3) := by decide +kernel
theorem dX3_soonestAnswered_35 : decode cX3_soonestAnswered 35 = .ok (.i2l, 1) := by decide +kernel
theorem dX3_soonestAnswered_36 : decode cX3_soonestAnswered 36 = .ok (.lstore 8, 2) := by decide +kernel
theorem dX3_soonestAnswered_38 : decode cX3_soonestAnswered 38 = .ok (.aload_n 0, 1) := by decide +kernel
theorem dX3_soonestAnswered_39 : decode cX3_soonestAnswered 39 = .ok (.iload 7, 2) := by decide +kernel
theorem dX3_soonestAnswered_41 : decode cX3_soonestAnswered 41 = .ok (.invokevirtual 105, 3) := by decide +kernel
theorem dX3_soonestAnswered_44 : decode cX3_soonestAnswered 44 = .ok (.i2l, 1) := by decide +kernel
theorem dX3_soonestAnswered_45 : decode cX3_soonestAnswered 45 = .ok (.lstore 10, 2) := by decide +kernel
theorem dX3_soonestAnswered_47 : decode cX3_soonestAnswered 47 = .ok (.lload 10, 2) := by decide +kernel
theorem dX3_soonestAnswered_49 : decode cX3_soonestAnswered 49 = .ok (.lconst 0, 1) := by decide +kernel
theorem dX3_soonestAnswered_50 : decode cX3_soonestAnswered 50 = .ok (.lcmp, 1) := by decide +kernel
theorem dX3_soonestAnswered_51 : decode cX3_soonestAnswered 51 = .ok (.ifCond .le 31, 3) := by decide +kernel
theorem dX3_soonestAnswered_54 : decode cX3_soonestAnswered 54 = .ok (.iload_n 1, 1) := by decide +kernel
theorem dX3_soonestAnswered_55 : decode cX3_soonestAnswered 55 = .ok (.iconst (-1), 1) := by decide +kernel
theorem dX3_soonestAnswered_56 : decode cX3_soonestAnswered 56 = .ok (.if_icmp .eq 16, 3) := by decide +kernel
theorem dX3_soonestAnswered_59 : decode cX3_soonestAnswered 59 = .ok (.lload 8, 2) := by decide +kernel
theorem dX3_soonestAnswered_61 : decode cX3_soonestAnswered 61 = .ok (.lload 4, 2) := by decide +kernel
theorem dX3_soonestAnswered_63 : decode cX3_soonestAnswered 63 = .ok (.lmul, 1) := by decide +kernel
theorem dX3_soonestAnswered_64 : decode cX3_soonestAnswered 64 = .ok (.lload_n 2, 1) := by decide +kernel
theorem dX3_soonestAnswered_65 : decode cX3_soonestAnswered 65 = .ok (.lload 10, 2) := by decide +kernel
theorem dX3_soonestAnswered_67 : decode cX3_soonestAnswered 67 = .ok (.lmul, 1) := by decide +kernel
theorem dX3_soonestAnswered_68 : decode cX3_soonestAnswered 68 = .ok (.lcmp, 1) := by decide +kernel
theorem dX3_soonestAnswered_69 : decode cX3_soonestAnswered 69 = .ok (.ifCond .ge 13, 3) := by decide +kernel
theorem dX3_soonestAnswered_72 : decode cX3_soonestAnswered 72 = .ok (.iload 6, 2) := by decide +kernel
theorem dX3_soonestAnswered_74 : decode cX3_soonestAnswered 74 = .ok (.istore_n 1, 1) := by decide +kernel
theorem dX3_soonestAnswered_75 : decode cX3_soonestAnswered 75 = .ok (.lload 8, 2) := by decide +kernel
theorem dX3_soonestAnswered_77 : decode cX3_soonestAnswered 77 = .ok (.lstore_n 2, 1) := by decide +kernel
theorem dX3_soonestAnswered_78 : decode cX3_soonestAnswered 78 = .ok (.lload 10, 2) := by decide +kernel
theorem dX3_soonestAnswered_80 : decode cX3_soonestAnswered 80 = .ok (.lstore 4, 2) := by decide +kernel
theorem dX3_soonestAnswered_82 : decode cX3_soonestAnswered 82 = .ok (.iinc 6 1, 3) := by decide +kernel
theorem dX3_soonestAnswered_85 : decode cX3_soonestAnswered 85 = .ok (.goto (-75), 3) := by decide +kernel
theorem dX3_soonestAnswered_88 : decode cX3_soonestAnswered 88 = .ok (.iload_n 1, 1) := by decide +kernel
theorem dX3_soonestAnswered_89 : decode cX3_soonestAnswered 89 = .ok (.ireturn, 1) := by decide +kernel
set_option maxRecDepth 10000 in
theorem wX3_soonestAnswered_0 {g : zG} {I : Nat → Nat → Int32} {P : Nat → Nat → Option Nat} {r : Option Value} {h' : zH} {a0 : Nat} (H : Zt none mX3_soonestAnswered 0 0 10 [(0, .ref a0), (1, .int (-1)), (2, .long 0), (4, .long 0), (6, .int 0)] [] (g, I, P) r h') : Zt none mX3_soonestAnswered 0 0 0 [(0, .ref a0)] [] (g, I, P) r h' := by
  refine z_iconst (w := (-1)) dX3_soonestAnswered_0 (by decide) (z_istore_n (lv' := [(1, .int (-1)), (0, .ref a0)]) dX3_soonestAnswered_1 (by decide) rfl (z_lconst (w := 0) dX3_soonestAnswered_2 (by decide) (z_lstore_n (lv' := [(2, .long 0), (1, .int (-1)), (0, .ref a0)]) dX3_soonestAnswered_3 (by decide) rfl (z_lconst (w := 0) dX3_soonestAnswered_4 (by decide) (z_lstore (lv' := [(4, .long 0), (2, .long 0), (1, .int (-1)), (0, .ref a0)]) dX3_soonestAnswered_5 (by decide) rfl (z_iconst (w := 0) dX3_soonestAnswered_7 (by decide) (z_istore (lv' := [(6, .int 0), (4, .long 0), (2, .long 0), (1, .int (-1)), (0, .ref a0)]) dX3_soonestAnswered_8 (by decide) rfl ?_)))))))
  exact z_less [4, 3, 2, 1, 0] rfl H
theorem eX3_soonestAnswered {g : zG} {I : Nat → Nat → Int32} {P : Nat → Nat → Option Nat} {r : Option Value} {h' : zH} {a0 : Nat} (H : Zt none mX3_soonestAnswered 0 0 0 [(0, .ref a0)] [] (g, I, P) r h') : Cl mX3_soonestAnswered [.ref a0] (g, I, P) r h' := Cl.of (by decide) (Nat.le_of_ble_eq_true rfl) H
set_option maxRecDepth 10000 in
theorem wX3_soonestAnswered_10 {g : zG} {I : Nat → Nat → Int32} {P : Nat → Nat → Option Nat} {r : Option Value} {h' : zH} {a0 : Nat} {x1 : Int32} {l2 : Int64} {l4 : Int64} {x6 : Int32} (H : ((6 ≤ x6) → r = some (.int x1) ∧ h' = (g, I, P)) ∧ ((¬ 6 ≤ x6) → zk g a0 3 ∧ ∃ b3, P a0 8 = some b3 ∧ ∃ (w6 : Int32), Cl mX11_got [.ref b3, .int x6] (g, I, P) (some (.int w6)) (g, I, P) ∧ zk g a0 3 ∧ ∃ (w9 : Int32), Cl mX3_lettersTillSure [.ref a0, .int w6, .int 0] (g, I, P) (some (.int w9)) (g, I, P) ∧ zk g a0 3 ∧ ∃ (w12 : Int32), Cl mX3_oftenOfAll [.ref a0, .int w6] (g, I, P) (some (.int w12)) (g, I, P) ∧ ((lg_cmp w12.toInt64 0 ≤ 0) → Zt none mX3_soonestAnswered 0 0 10 [(0, .ref a0), (1, .int x1), (2, .long l2), (4, .long l4), (6, .int (x6 + 1))] [] (g, I, P) r h') ∧ ((¬ lg_cmp w12.toInt64 0 ≤ 0) → ((x1 = (-1)) → Zt none mX3_soonestAnswered 0 0 10 [(0, .ref a0), (1, .int x6), (2, .long w9.toInt64), (4, .long w12.toInt64), (6, .int (x6 + 1))] [] (g, I, P) r h') ∧ ((¬ x1 = (-1)) → ((0 ≤ lg_cmp (w9.toInt64 * l4) (l2 * w12.toInt64)) → Zt none mX3_soonestAnswered 0 0 10 [(0, .ref a0), (1, .int x1), (2, .long l2), (4, .long l4), (6, .int (x6 + 1))] [] (g, I, P) r h') ∧ ((¬ 0 ≤ lg_cmp (w9.toInt64 * l4) (l2 * w12.toInt64)) → Zt none mX3_soonestAnswered 0 0 10 [(0, .ref a0), (1, .int x6), (2, .long w9.toInt64), (4, .long w12.toInt64), (6, .int (x6 + 1))] [] (g, I, P) r h'))))) : Zt none mX3_soonestAnswered 0 0 10 [(0, .ref a0), (1, .int x1), (2, .long l2), (4, .long l4), (6, .int x6)] [] (g, I, P) r h' := by
  refine z_iload 4 dX3_soonestAnswered_10 rfl (z_bipush (w := 6) dX3_soonestAnswered_12 (by decide) ?_)
  refine z_icmp_ge (t := 88) dX3_soonestAnswered_14 (by decide) (fun q => ?_) (fun q => ?_)
  · have H1 := H.1 q
    refine z_iload_n 1 dX3_soonestAnswered_88 rfl ?_
    obtain ⟨rfl, rfl⟩ := H1
    exact z_iret dX3_soonestAnswered_89 rfl (by decide) (by decide)
  · have H2 := H.2 q
    refine z_aload_n 0 dX3_soonestAnswered_17 rfl rfl ?_
    obtain ⟨oe5, b3, e5, H4⟩ := H2
    refine z_getP dX3_soonestAnswered_18 wf_X3_28 (by decide) (by decide) rfl oe5 (fun q => (by cases q.symm.trans e5)) (fun j q => ?_)
    cases q.symm.trans e5
    refine z_iload 4 dX3_soonestAnswered_21 rfl ?_
    obtain ⟨w6, c7, H8⟩ := H4
    refine z_stat (As := [.ref b3, .int x6]) (st := []) (r1 := (some (.int w6))) (h1 := (g, I, P)) dX3_soonestAnswered_23 kX11_got wm_X3_63 ⟨by decide, by decide⟩ rfl rfl (Nat.le_of_ble_eq_true rfl) (by decide) (by decide) c7 ?_
    refine z_istore (lv' := [(7, .int w6), (0, .ref a0), (1, .int x1), (2, .long l2), (4, .long l4), (6, .int x6)]) dX3_soonestAnswered_26 (by decide) rfl (z_aload_n 1 dX3_soonestAnswered_28 rfl rfl (z_iload 0 dX3_soonestAnswered_29 rfl (z_iconst (w := 0) dX3_soonestAnswered_31 (by decide) ?_)))
    obtain ⟨oc10, w9, c10, H11⟩ := H8
    refine z_virt (As := [.int w6, .int 0]) (st := []) (r1 := (some (.int w9))) (h1 := (g, I, P)) dX3_soonestAnswered_32 kX3_lettersTillSure wm_X3_102 ⟨by decide, by decide⟩ rfl rfl (Nat.le_of_ble_eq_true rfl) (by decide) (by decide) oc10 c10 ?_
    refine z_i2l dX3_soonestAnswered_35 (z_lstore (lv' := [(8, .long w9.toInt64), (7, .int w6), (0, .ref a0), (1, .int x1), (2, .long l2), (4, .long l4), (6, .int x6)]) dX3_soonestAnswered_36 (by decide) rfl (z_aload_n 2 dX3_soonestAnswered_38 rfl rfl (z_iload 1 dX3_soonestAnswered_39 rfl ?_)))
    obtain ⟨oc13, w12, c13, H14⟩ := H11
    refine z_virt (As := [.int w6]) (st := []) (r1 := (some (.int w12))) (h1 := (g, I, P)) dX3_soonestAnswered_41 kX3_oftenOfAll wm_X3_105 ⟨by decide, by decide⟩ rfl rfl (Nat.le_of_ble_eq_true rfl) (by decide) (by decide) oc13 c13 ?_
    refine z_i2l dX3_soonestAnswered_44 (z_lstore (lv' := [(10, .long w12.toInt64), (8, .long w9.toInt64), (7, .int w6), (0, .ref a0), (1, .int x1), (2, .long l2), (4, .long l4), (6, .int x6)]) dX3_soonestAnswered_45 (by decide) rfl (z_lload 0 dX3_soonestAnswered_47 rfl (z_lconst (w := 0) dX3_soonestAnswered_49 (by decide) (z_lcmp dX3_soonestAnswered_50 ?_))))
    refine z_if_le (t := 82) dX3_soonestAnswered_51 (by decide) (fun q => ?_) (fun q => ?_)
    · have H15 := H14.1 q
      refine z_iinc (y := x6 + 1) (lv' := [(6, .int (x6 + 1)), (10, .long w12.toInt64), (8, .long w9.toInt64), (7, .int w6), (0, .ref a0), (1, .int x1), (2, .long l2), (4, .long l4)]) 7 dX3_soonestAnswered_82 rfl rfl (by decide) rfl (z_goto (t := 10) dX3_soonestAnswered_85 (by decide) ?_)
      exact z_less [4, 5, 6, 7, 0] rfl H15
    · have H16 := H14.2 q
      refine z_iload_n 4 dX3_soonestAnswered_54 rfl (z_iconst (w := (-1)) dX3_soonestAnswered_55 (by decide) ?_)
      refine z_icmp_eq (t := 72) dX3_soonestAnswered_56 (by decide) (fun q => ?_) (fun q => ?_)
      · have H17 := H16.1 q
        refine z_iload 7 dX3_soonestAnswered_72 rfl (z_istore_n (lv' := [(1, .int x6), (10, .long w12.toInt64), (8, .long w9.toInt64), (7, .int w6), (0, .ref a0), (2, .long l2), (4, .long l4), (6, .int x6)]) dX3_soonestAnswered_74 (by decide) rfl (z_lload 2 dX3_soonestAnswered_75 rfl (z_lstore_n (lv' := [(2, .long w9.toInt64), (1, .int x6), (10, .long w12.toInt64), (8, .long w9.toInt64), (7, .int w6), (0, .ref a0), (4, .long l4), (6, .int x6)]) dX3_soonestAnswered_77 (by decide) rfl (z_lload 2 dX3_soonestAnswered_78 rfl (z_lstore (lv' := [(4, .long w12.toInt64), (2, .long w9.toInt64), (1, .int x6), (10, .long w12.toInt64), (8, .long w9.toInt64), (7, .int w6), (0, .ref a0), (6, .int x6)]) dX3_soonestAnswered_80 (by decide) rfl (z_iinc (y := x6 + 1) (lv' := [(6, .int (x6 + 1)), (4, .long w12.toInt64), (2, .long w9.toInt64), (1, .int x6), (10, .long w12.toInt64), (8, .long w9.toInt64), (7, .int w6), (0, .ref a0)]) 7 dX3_soonestAnswered_82 rfl rfl (by decide) rfl (z_goto (t := 10) dX3_soonestAnswered_85 (by decide) ?_)))))))
        exact z_less [7, 3, 2, 1, 0] rfl H17
      · have H18 := H16.2 q
        refine z_lload 1 dX3_soonestAnswered_59 rfl (z_lload 6 dX3_soonestAnswered_61 rfl (z_lmul dX3_soonestAnswered_63 (z_lload_n 5 dX3_soonestAnswered_64 rfl (z_lload 0 dX3_soonestAnswered_65 rfl (z_lmul dX3_soonestAnswered_67 (z_lcmp dX3_soonestAnswered_68 ?_))))))
        refine z_if_ge (t := 82) dX3_soonestAnswered_69 (by decide) (fun q => ?_) (fun q => ?_)
        · have H19 := H18.1 q
          refine z_iinc (y := x6 + 1) (lv' := [(6, .int (x6 + 1)), (10, .long w12.toInt64), (8, .long w9.toInt64), (7, .int w6), (0, .ref a0), (1, .int x1), (2, .long l2), (4, .long l4)]) 7 dX3_soonestAnswered_82 rfl rfl (by decide) rfl (z_goto (t := 10) dX3_soonestAnswered_85 (by decide) ?_)
          exact z_less [4, 5, 6, 7, 0] rfl H19
        · have H20 := H18.2 q
          refine z_iload 7 dX3_soonestAnswered_72 rfl (z_istore_n (lv' := [(1, .int x6), (10, .long w12.toInt64), (8, .long w9.toInt64), (7, .int w6), (0, .ref a0), (2, .long l2), (4, .long l4), (6, .int x6)]) dX3_soonestAnswered_74 (by decide) rfl (z_lload 2 dX3_soonestAnswered_75 rfl (z_lstore_n (lv' := [(2, .long w9.toInt64), (1, .int x6), (10, .long w12.toInt64), (8, .long w9.toInt64), (7, .int w6), (0, .ref a0), (4, .long l4), (6, .int x6)]) dX3_soonestAnswered_77 (by decide) rfl (z_lload 2 dX3_soonestAnswered_78 rfl (z_lstore (lv' := [(4, .long w12.toInt64), (2, .long w9.toInt64), (1, .int x6), (10, .long w12.toInt64), (8, .long w9.toInt64), (7, .int w6), (0, .ref a0), (6, .int x6)]) dX3_soonestAnswered_80 (by decide) rfl (z_iinc (y := x6 + 1) (lv' := [(6, .int (x6 + 1)), (4, .long w12.toInt64), (2, .long w9.toInt64), (1, .int x6), (10, .long w12.toInt64), (8, .long w9.toInt64), (7, .int w6), (0, .ref a0)]) 7 dX3_soonestAnswered_82 rfl rfl (by decide) rfl (z_goto (t := 10) dX3_soonestAnswered_85 (by decide) ?_)))))))
          exact z_less [7, 3, 2, 1, 0] rfl H20
theorem dX3_wordGoingOn_0 : decode cX3_wordGoingOn 0 = .ok (.iconst 0, 1) := by decide +kernel
theorem dX3_wordGoingOn_1 : decode cX3_wordGoingOn 1 = .ok (.istore 4, 2) := by decide +kernel
theorem dX3_wordGoingOn_3 : decode cX3_wordGoingOn 3 = .ok (.iload 4, 2) := by decide +kernel
theorem dX3_wordGoingOn_5 : decode cX3_wordGoingOn 5 = .ok (.aload_n 0, 1) := by decide +kernel
theorem dX3_wordGoingOn_6 : decode cX3_wordGoingOn 6 = .ok (.getfield 31, 3) := by decide +kernel
theorem dX3_wordGoingOn_9 : decode cX3_wordGoingOn 9 = .ok (.if_icmp .ge 48, 3) := by decide +kernel
theorem dX3_wordGoingOn_12 : decode cX3_wordGoingOn 12 = .ok (.iload_n 2, 1) := by decide +kernel
theorem dX3_wordGoingOn_13 : decode cX3_wordGoingOn 13 = .ok (.aload_n 0, 1) := by decide +kernel
theorem dX3_wordGoingOn_14 : decode cX3_wordGoingOn 14 = .ok (.iload 4, 2) := by decide +kernel
theorem dX3_wordGoingOn_16 : decode cX3_wordGoingOn 16 = .ok (.invokevirtual 55, 3) := by decide +kernel
theorem dX3_wordGoingOn_19 : decode cX3_wordGoingOn 19 = .ok (.if_icmp .ge 32, 3) := by decide +kernel
theorem dX3_wordGoingOn_22 : decode cX3_wordGoingOn 22 = .ok (.aload_n 0, 1) := by decide +kernel
theorem dX3_wordGoingOn_23 : decode cX3_wordGoingOn 23 = .ok (.iload 4, 2) := by decide +kernel
theorem dX3_wordGoingOn_25 : decode cX3_wordGoingOn 25 = .ok (.iload_n 2, 1) := by decide +kernel
theorem dX3_wordGoingOn_26 : decode cX3_wordGoingOn 26 = .ok (.invokevirtual 59, 3) := by decide +kernel
theorem dX3_wordGoingOn_29 : decode cX3_wordGoingOn 29 = .ok (.iload_n 3, 1) := by decide +kernel
theorem dX3_wordGoingOn_30 : decode cX3_wordGoingOn 30 = .ok (.if_icmp .ne 21, 3) := by decide +kernel
theorem dX3_wordGoingOn_33 : decode cX3_wordGoingOn 33 = .ok (.iload_n 2, 1) := by decide +kernel
theorem dX3_wordGoingOn_34 : decode cX3_wordGoingOn 34 = .ok (.ifCond .eq 14, 3) := by decide +kernel
theorem dX3_wordGoingOn_37 : decode cX3_wordGoingOn 37 = .ok (.aload_n 0, 1) := by decide +kernel
theorem dX3_wordGoingOn_38 : decode cX3_wordGoingOn 38 = .ok (.iload 4, 2) := by decide +kernel
theorem dX3_wordGoingOn_40 : decode cX3_wordGoingOn 40 = .ok (.iload_n 1, 1) := by decide +kernel
theorem dX3_wordGoingOn_41 : decode cX3_wordGoingOn 41 = .ok (.invokevirtual 92, 3) := by decide +kernel
theorem dX3_wordGoingOn_44 : decode cX3_wordGoingOn 44 = .ok (.iload_n 2, 1) := by decide +kernel
theorem dX3_wordGoingOn_45 : decode cX3_wordGoingOn 45 = .ok (.if_icmp .lt 6, 3) := by decide +kernel
theorem dX3_wordGoingOn_48 : decode cX3_wordGoingOn 48 = .ok (.iload 4, 2) := by decide +kernel
theorem dX3_wordGoingOn_50 : decode cX3_wordGoingOn 50 = .ok (.ireturn, 1) := by decide +kernel
theorem dX3_wordGoingOn_51 : decode cX3_wordGoingOn 51 = .ok (.iinc 4 1, 3) := by decide +kernel
theorem dX3_wordGoingOn_54 : decode cX3_wordGoingOn 54 = .ok (.goto (-51), 3) := by decide +kernel
theorem dX3_wordGoingOn_57 : decode cX3_wordGoingOn 57 = .ok (.iconst (-1), 1) := by decide +kernel
theorem dX3_wordGoingOn_58 : decode cX3_wordGoingOn 58 = .ok (.ireturn, 1) := by decide +kernel
set_option maxRecDepth 10000 in
theorem wX3_wordGoingOn_0 {g : zG} {I : Nat → Nat → Int32} {P : Nat → Nat → Option Nat} {r : Option Value} {h' : zH} {a0 : Nat} {x1 : Int32} {x2 : Int32} {x3 : Int32} (H : Zt none mX3_wordGoingOn 0 0 3 [(0, .ref a0), (1, .int x1), (2, .int x2), (3, .int x3), (4, .int 0)] [] (g, I, P) r h') : Zt none mX3_wordGoingOn 0 0 0 [(0, .ref a0), (1, .int x1), (2, .int x2), (3, .int x3)] [] (g, I, P) r h' := by
  refine z_iconst (w := 0) dX3_wordGoingOn_0 (by decide) (z_istore (lv' := [(4, .int 0), (0, .ref a0), (1, .int x1), (2, .int x2), (3, .int x3)]) dX3_wordGoingOn_1 (by decide) rfl ?_)
  exact z_less [1, 2, 3, 4, 0] rfl H
theorem eX3_wordGoingOn {g : zG} {I : Nat → Nat → Int32} {P : Nat → Nat → Option Nat} {r : Option Value} {h' : zH} {a0 : Nat} {x1 : Int32} {x2 : Int32} {x3 : Int32} (H : Zt none mX3_wordGoingOn 0 0 0 [(0, .ref a0), (1, .int x1), (2, .int x2), (3, .int x3)] [] (g, I, P) r h') : Cl mX3_wordGoingOn [.ref a0, .int x1, .int x2, .int x3] (g, I, P) r h' := Cl.of (by decide) (Nat.le_of_ble_eq_true rfl) H
set_option maxRecDepth 10000 in
theorem wX3_wordGoingOn_3 {g : zG} {I : Nat → Nat → Int32} {P : Nat → Nat → Option Nat} {r : Option Value} {h' : zH} {a0 : Nat} {x1 : Int32} {x2 : Int32} {x3 : Int32} {x4 : Int32} (H : zk g a0 3 ∧ ((I a0 1 ≤ x4) → r = some (.int (-1)) ∧ h' = (g, I, P)) ∧ ((¬ I a0 1 ≤ x4) → zk g a0 3 ∧ ∃ (w3 : Int32), Cl mX3_sizeOf [.ref a0, .int x4] (g, I, P) (some (.int w3)) (g, I, P) ∧ ((w3 ≤ x2) → Zt none mX3_wordGoingOn 0 0 3 [(0, .ref a0), (1, .int x1), (2, .int x2), (3, .int x3), (4, .int (x4 + 1))] [] (g, I, P) r h') ∧ ((¬ w3 ≤ x2) → zk g a0 3 ∧ ∃ (w8 : Int32), Cl mX3_letterOf [.ref a0, .int x4, .int x2] (g, I, P) (some (.int w8)) (g, I, P) ∧ ((¬ w8 = x3) → Zt none mX3_wordGoingOn 0 0 3 [(0, .ref a0), (1, .int x1), (2, .int x2), (3, .int x3), (4, .int (x4 + 1))] [] (g, I, P) r h') ∧ ((w8 = x3) → ((x2 = 0) → r = some (.int x4) ∧ h' = (g, I, P)) ∧ ((¬ x2 = 0) → zk g a0 3 ∧ ∃ (w15 : Int32), Cl mX3_sameLettersAtFirst [.ref a0, .int x4, .int x1] (g, I, P) (some (.int w15)) (g, I, P) ∧ ((w15 < x2) → Zt none mX3_wordGoingOn 0 0 3 [(0, .ref a0), (1, .int x1), (2, .int x2), (3, .int x3), (4, .int (x4 + 1))] [] (g, I, P) r h') ∧ ((¬ w15 < x2) → r = some (.int x4) ∧ h' = (g, I, P))))))) : Zt none mX3_wordGoingOn 0 0 3 [(0, .ref a0), (1, .int x1), (2, .int x2), (3, .int x3), (4, .int x4)] [] (g, I, P) r h' := by
  refine z_iload 4 dX3_wordGoingOn_3 rfl (z_aload_n 0 dX3_wordGoingOn_5 rfl rfl (z_getI dX3_wordGoingOn_6 wf_X3_31 (by decide) (by decide) rfl H.1 ?_))
  refine z_icmp_ge (t := 57) dX3_wordGoingOn_9 (by decide) (fun q => ?_) (fun q => ?_)
  · have H1 := H.2.1 q
    refine z_iconst (w := (-1)) dX3_wordGoingOn_57 (by decide) ?_
    obtain ⟨rfl, rfl⟩ := H1
    exact z_iret dX3_wordGoingOn_58 rfl (by decide) (by decide)
  · have H2 := H.2.2 q
    refine z_iload_n 2 dX3_wordGoingOn_12 rfl (z_aload_n 0 dX3_wordGoingOn_13 rfl rfl (z_iload 4 dX3_wordGoingOn_14 rfl ?_))
    obtain ⟨oc4, w3, c4, H5⟩ := H2
    refine z_virt (As := [.int x4]) (st := [.int x2]) (r1 := (some (.int w3))) (h1 := (g, I, P)) dX3_wordGoingOn_16 kX3_sizeOf wm_X3_55 ⟨by decide, by decide⟩ rfl rfl (Nat.le_of_ble_eq_true rfl) (by decide) (by decide) oc4 c4 ?_
    refine z_icmp_ge (t := 51) dX3_wordGoingOn_19 (by decide) (fun q => ?_) (fun q => ?_)
    · have H6 := H5.1 q
      refine z_iinc (y := x4 + 1) (lv' := [(4, .int (x4 + 1)), (0, .ref a0), (1, .int x1), (2, .int x2), (3, .int x3)]) 4 dX3_wordGoingOn_51 rfl rfl (by decide) rfl (z_goto (t := 3) dX3_wordGoingOn_54 (by decide) ?_)
      exact z_less [1, 2, 3, 4, 0] rfl H6
    · have H7 := H5.2 q
      refine z_aload_n 0 dX3_wordGoingOn_22 rfl rfl (z_iload 4 dX3_wordGoingOn_23 rfl (z_iload_n 2 dX3_wordGoingOn_25 rfl ?_))
      obtain ⟨oc9, w8, c9, H10⟩ := H7
      refine z_virt (As := [.int x4, .int x2]) (st := []) (r1 := (some (.int w8))) (h1 := (g, I, P)) dX3_wordGoingOn_26 kX3_letterOf wm_X3_59 ⟨by decide, by decide⟩ rfl rfl (Nat.le_of_ble_eq_true rfl) (by decide) (by decide) oc9 c9 ?_
      refine z_iload_n 3 dX3_wordGoingOn_29 rfl ?_
      refine z_icmp_ne (t := 51) dX3_wordGoingOn_30 (by decide) (fun q => ?_) (fun q => ?_)
      · have H11 := H10.1 q
        refine z_iinc (y := x4 + 1) (lv' := [(4, .int (x4 + 1)), (0, .ref a0), (1, .int x1), (2, .int x2), (3, .int x3)]) 4 dX3_wordGoingOn_51 rfl rfl (by decide) rfl (z_goto (t := 3) dX3_wordGoingOn_54 (by decide) ?_)
        exact z_less [1, 2, 3, 4, 0] rfl H11
      · have H12 := H10.2 q
        refine z_iload_n 2 dX3_wordGoingOn_33 rfl ?_
        refine z_if_eq (t := 48) dX3_wordGoingOn_34 (by decide) (fun q => ?_) (fun q => ?_)
        · have H13 := H12.1 q
          refine z_iload 4 dX3_wordGoingOn_48 rfl ?_
          obtain ⟨rfl, rfl⟩ := H13
          exact z_iret dX3_wordGoingOn_50 rfl (by decide) (by decide)
        · have H14 := H12.2 q
          refine z_aload_n 0 dX3_wordGoingOn_37 rfl rfl (z_iload 4 dX3_wordGoingOn_38 rfl (z_iload_n 1 dX3_wordGoingOn_40 rfl ?_))
          obtain ⟨oc16, w15, c16, H17⟩ := H14
          refine z_virt (As := [.int x4, .int x1]) (st := []) (r1 := (some (.int w15))) (h1 := (g, I, P)) dX3_wordGoingOn_41 kX3_sameLettersAtFirst wm_X3_92 ⟨by decide, by decide⟩ rfl rfl (Nat.le_of_ble_eq_true rfl) (by decide) (by decide) oc16 c16 ?_
          refine z_iload_n 2 dX3_wordGoingOn_44 rfl ?_
          refine z_icmp_lt (t := 51) dX3_wordGoingOn_45 (by decide) (fun q => ?_) (fun q => ?_)
          · have H18 := H17.1 q
            refine z_iinc (y := x4 + 1) (lv' := [(4, .int (x4 + 1)), (0, .ref a0), (1, .int x1), (2, .int x2), (3, .int x3)]) 4 dX3_wordGoingOn_51 rfl rfl (by decide) rfl (z_goto (t := 3) dX3_wordGoingOn_54 (by decide) ?_)
            exact z_less [1, 2, 3, 4, 0] rfl H18
          · have H19 := H17.2 q
            refine z_iload 4 dX3_wordGoingOn_48 rfl ?_
            obtain ⟨rfl, rfl⟩ := H19
            exact z_iret dX3_wordGoingOn_50 rfl (by decide) (by decide)
theorem dX3_isWhole_0 : decode cX3_isWhole 0 = .ok (.iconst 0, 1) := by decide +kernel
theorem dX3_isWhole_1 : decode cX3_isWhole 1 = .ok (.istore_n 3, 1) := by decide +kernel
theorem dX3_isWhole_2 : decode cX3_isWhole 2 = .ok (.iload_n 3, 1) := by decide +kernel
theorem dX3_isWhole_3 : decode cX3_isWhole 3 = .ok (.aload_n 0, 1) := by decide +kernel
theorem dX3_isWhole_4 : decode cX3_isWhole 4 = .ok (.getfield 31, 3) := by decide +kernel
theorem dX3_isWhole_7 : decode cX3_isWhole 7 = .ok (.if_icmp .ge 30, 3) := by decide +kernel
theorem dX3_isWhole_10 : decode cX3_isWhole 10 = .ok (.aload_n 0, 1) := by decide +kernel
theorem dX3_isWhole_11 : decode cX3_isWhole 11 = .ok (.iload_n 3, 1) := by decide +kernel
theorem dX3_isWhole_12 : decode cX3_isWhole 12 = .ok (.invokevirtual 55, 3) := by decide +kernel
theorem dX3_isWhole_15 : decode cX3_isWhole 15 = .ok (.iload_n 2, 1) := by decide +kernel
theorem dX3_isWhole_16 : decode cX3_isWhole 16 = .ok (.if_icmp .ne 15, 3) := by decide +kernel
theorem dX3_isWhole_19 : decode cX3_isWhole 19 = .ok (.aload_n 0, 1) := by decide +kernel
theorem dX3_isWhole_20 : decode cX3_isWhole 20 = .ok (.iload_n 3, 1) := by decide +kernel
theorem dX3_isWhole_21 : decode cX3_isWhole 21 = .ok (.iload_n 1, 1) := by decide +kernel
theorem dX3_isWhole_22 : decode cX3_isWhole 22 = .ok (.invokevirtual 92, 3) := by decide +kernel
theorem dX3_isWhole_25 : decode cX3_isWhole 25 = .ok (.iload_n 2, 1) := by decide +kernel
theorem dX3_isWhole_26 : decode cX3_isWhole 26 = .ok (.if_icmp .ne 5, 3) := by decide +kernel
theorem dX3_isWhole_29 : decode cX3_isWhole 29 = .ok (.iconst 1, 1) := by decide +kernel
theorem dX3_isWhole_30 : decode cX3_isWhole 30 = .ok (.ireturn, 1) := by decide +kernel
theorem dX3_isWhole_31 : decode cX3_isWhole 31 = .ok (.iinc 3 1, 3) := by decide +kernel
theorem dX3_isWhole_34 : decode cX3_isWhole 34 = .ok (.goto (-32), 3) := by decide +kernel
theorem dX3_isWhole_37 : decode cX3_isWhole 37 = .ok (.iconst 0, 1) := by decide +kernel
theorem dX3_isWhole_38 : decode cX3_isWhole 38 = .ok (.ireturn, 1) := by decide +kernel
set_option maxRecDepth 10000 in
theorem wX3_isWhole_0 {g : zG} {I : Nat → Nat → Int32} {P : Nat → Nat → Option Nat} {r : Option Value} {h' : zH} {a0 : Nat} {x1 : Int32} {x2 : Int32} (H : Zt none mX3_isWhole 0 0 2 [(0, .ref a0), (1, .int x1), (2, .int x2), (3, .int 0)] [] (g, I, P) r h') : Zt none mX3_isWhole 0 0 0 [(0, .ref a0), (1, .int x1), (2, .int x2)] [] (g, I, P) r h' := by
  refine z_iconst (w := 0) dX3_isWhole_0 (by decide) (z_istore_n (lv' := [(3, .int 0), (0, .ref a0), (1, .int x1), (2, .int x2)]) dX3_isWhole_1 (by decide) rfl ?_)
  exact z_less [1, 2, 3, 0] rfl H
theorem eX3_isWhole {g : zG} {I : Nat → Nat → Int32} {P : Nat → Nat → Option Nat} {r : Option Value} {h' : zH} {a0 : Nat} {x1 : Int32} {x2 : Int32} (H : Zt none mX3_isWhole 0 0 0 [(0, .ref a0), (1, .int x1), (2, .int x2)] [] (g, I, P) r h') : Cl mX3_isWhole [.ref a0, .int x1, .int x2] (g, I, P) r h' := Cl.of (by decide) (Nat.le_of_ble_eq_true rfl) H
set_option maxRecDepth 10000 in
theorem wX3_isWhole_2 {g : zG} {I : Nat → Nat → Int32} {P : Nat → Nat → Option Nat} {r : Option Value} {h' : zH} {a0 : Nat} {x1 : Int32} {x2 : Int32} {x3 : Int32} (H : zk g a0 3 ∧ ((I a0 1 ≤ x3) → r = some (.int 0) ∧ h' = (g, I, P)) ∧ ((¬ I a0 1 ≤ x3) → zk g a0 3 ∧ ∃ (w3 : Int32), Cl mX3_sizeOf [.ref a0, .int x3] (g, I, P) (some (.int w3)) (g, I, P) ∧ ((¬ w3 = x2) → Zt none mX3_isWhole 0 0 2 [(0, .ref a0), (1, .int x1), (2, .int x2), (3, .int (x3 + 1))] [] (g, I, P) r h') ∧ ((w3 = x2) → zk g a0 3 ∧ ∃ (w8 : Int32), Cl mX3_sameLettersAtFirst [.ref a0, .int x3, .int x1] (g, I, P) (some (.int w8)) (g, I, P) ∧ ((¬ w8 = x2) → Zt none mX3_isWhole 0 0 2 [(0, .ref a0), (1, .int x1), (2, .int x2), (3, .int (x3 + 1))] [] (g, I, P) r h') ∧ ((w8 = x2) → r = some (.int 1) ∧ h' = (g, I, P))))) : Zt none mX3_isWhole 0 0 2 [(0, .ref a0), (1, .int x1), (2, .int x2), (3, .int x3)] [] (g, I, P) r h' := by
  refine z_iload_n 3 dX3_isWhole_2 rfl (z_aload_n 0 dX3_isWhole_3 rfl rfl (z_getI dX3_isWhole_4 wf_X3_31 (by decide) (by decide) rfl H.1 ?_))
  refine z_icmp_ge (t := 37) dX3_isWhole_7 (by decide) (fun q => ?_) (fun q => ?_)
  · have H1 := H.2.1 q
    refine z_iconst (w := 0) dX3_isWhole_37 (by decide) ?_
    obtain ⟨rfl, rfl⟩ := H1
    exact z_zret dX3_isWhole_38 rfl (Or.inl rfl) (by decide) (by decide)
  · have H2 := H.2.2 q
    refine z_aload_n 0 dX3_isWhole_10 rfl rfl (z_iload_n 3 dX3_isWhole_11 rfl ?_)
    obtain ⟨oc4, w3, c4, H5⟩ := H2
    refine z_virt (As := [.int x3]) (st := []) (r1 := (some (.int w3))) (h1 := (g, I, P)) dX3_isWhole_12 kX3_sizeOf wm_X3_55 ⟨by decide, by decide⟩ rfl rfl (Nat.le_of_ble_eq_true rfl) (by decide) (by decide) oc4 c4 ?_
    refine z_iload_n 2 dX3_isWhole_15 rfl ?_
    refine z_icmp_ne (t := 31) dX3_isWhole_16 (by decide) (fun q => ?_) (fun q => ?_)
    · have H6 := H5.1 q
      refine z_iinc (y := x3 + 1) (lv' := [(3, .int (x3 + 1)), (0, .ref a0), (1, .int x1), (2, .int x2)]) 3 dX3_isWhole_31 rfl rfl (by decide) rfl (z_goto (t := 2) dX3_isWhole_34 (by decide) ?_)
      exact z_less [1, 2, 3, 0] rfl H6
    · have H7 := H5.2 q
      refine z_aload_n 0 dX3_isWhole_19 rfl rfl (z_iload_n 3 dX3_isWhole_20 rfl (z_iload_n 1 dX3_isWhole_21 rfl ?_))
      obtain ⟨oc9, w8, c9, H10⟩ := H7
      refine z_virt (As := [.int x3, .int x1]) (st := []) (r1 := (some (.int w8))) (h1 := (g, I, P)) dX3_isWhole_22 kX3_sameLettersAtFirst wm_X3_92 ⟨by decide, by decide⟩ rfl rfl (Nat.le_of_ble_eq_true rfl) (by decide) (by decide) oc9 c9 ?_
      refine z_iload_n 2 dX3_isWhole_25 rfl ?_
      refine z_icmp_ne (t := 31) dX3_isWhole_26 (by decide) (fun q => ?_) (fun q => ?_)
      · have H11 := H10.1 q
        refine z_iinc (y := x3 + 1) (lv' := [(3, .int (x3 + 1)), (0, .ref a0), (1, .int x1), (2, .int x2)]) 3 dX3_isWhole_31 rfl rfl (by decide) rfl (z_goto (t := 2) dX3_isWhole_34 (by decide) ?_)
        exact z_less [1, 2, 3, 0] rfl H11
      · have H12 := H10.2 q
        refine z_iconst (w := 1) dX3_isWhole_29 (by decide) ?_
        obtain ⟨rfl, rfl⟩ := H12
        exact z_zret dX3_isWhole_30 rfl (Or.inr rfl) (by decide) (by decide)
theorem dX3_unlikeBeginnings_0 : decode cX3_unlikeBeginnings 0 = .ok (.iconst 0, 1) := by decide +kernel
theorem dX3_unlikeBeginnings_1 : decode cX3_unlikeBeginnings 1 = .ok (.istore_n 1, 1) := by decide +kernel
theorem dX3_unlikeBeginnings_2 : decode cX3_unlikeBeginnings 2 = .ok (.iconst 0, 1) := by decide +kernel
theorem dX3_unlikeBeginnings_3 : decode cX3_unlikeBeginnings 3 = .ok (.istore_n 2, 1) := by decide +kernel
theorem dX3_unlikeBeginnings_4 : decode cX3_unlikeBeginnings 4 = .ok (.iload_n 2, 1) := by decide +kernel
theorem dX3_unlikeBeginnings_5 : decode cX3_unlikeBeginnings 5 = .ok (.aload_n 0, 1) := by decide +kernel
theorem dX3_unlikeBeginnings_6 : decode cX3_unlikeBeginnings 6 = .ok (.getfield 31, 3) := by decide +kernel
theorem dX3_unlikeBeginnings_9 : decode cX3_unlikeBeginnings 9 = .ok (.if_icmp .ge 48, 3) := by decide +kernel
theorem dX3_unlikeBeginnings_12 : decode cX3_unlikeBeginnings 12 = .ok (.iconst 0, 1) := by decide +kernel
theorem dX3_unlikeBeginnings_13 : decode cX3_unlikeBeginnings 13 = .ok (.istore_n 3, 1) := by decide +kernel
theorem dX3_unlikeBeginnings_14 : decode cX3_unlikeBeginnings 14 = .ok (.iconst 0, 1) := by decide +kernel
theorem dX3_unlikeBeginnings_15 : decode cX3_unlikeBeginnings 15 = .ok (.istore 4, 2) := by decide +kernel
theorem dX3_unlikeBeginnings_17 : decode cX3_unlikeBeginnings 17 = .ok (.iload 4, 2) := by decide +kernel
theorem dX3_unlikeBeginnings_19 : decode cX3_unlikeBeginnings 19 = .ok (.iload_n 2, 1) := by decide +kernel
theorem dX3_unlikeBeginnings_20 : decode cX3_unlikeBeginnings 20 = .ok (.if_icmp .ge 21, 3) := by decide +kernel
theorem dX3_unlikeBeginnings_23 : decode cX3_unlikeBeginnings 23 = .ok (.iload_n 3, 1) := by decide +kernel
theorem dX3_unlikeBeginnings_24 : decode cX3_unlikeBeginnings 24 = .ok (.aload_n 0, 1) := by decide +kernel
theorem dX3_unlikeBeginnings_25 : decode cX3_unlikeBeginnings 25 = .ok (.iload 4, 2) := by decide +kernel
theorem dX3_unlikeBeginnings_27 : decode cX3_unlikeBeginnings 27 = .ok (.iload_n 2, 1) := by decide +kernel
theorem dX3_unlikeBeginnings_28 : decode cX3_unlikeBeginnings 28 = .ok (.invokevirtual 92, 3) := by decide +kernel
theorem dX3_unlikeBeginnings_31 : decode cX3_unlikeBeginnings 31 = .ok (.invokestatic 99, 3) := by decide +kernel
theorem dX3_unlikeBeginnings_34 : decode cX3_unlikeBeginnings 34 = .ok (.istore_n 3, 1) := by decide +kernel
theorem dX3_unlikeBeginnings_35 : decode cX3_unlikeBeginnings 35 = .ok (.iinc 4 1, 3) := by decide +kernel
theorem dX3_unlikeBeginnings_38 : decode cX3_unlikeBeginnings 38 = .ok (.goto (-21), 3) := by decide +kernel
theorem dX3_unlikeBeginnings_41 : decode cX3_unlikeBeginnings 41 = .ok (.iload_n 1, 1) := by decide +kernel
theorem dX3_unlikeBeginnings_42 : decode cX3_unlikeBeginnings 42 = .ok (.aload_n 0, 1) := by decide +kernel
theorem dX3_unlikeBeginnings_43 : decode cX3_unlikeBeginnings 43 = .ok (.iload_n 2, 1) := by decide +kernel
theorem dX3_unlikeBeginnings_44 : decode cX3_unlikeBeginnings 44 = .ok (.invokevirtual 55, 3) := by decide +kernel
theorem dX3_unlikeBeginnings_47 : decode cX3_unlikeBeginnings 47 = .ok (.iload_n 3, 1) := by decide +kernel
theorem dX3_unlikeBeginnings_48 : decode cX3_unlikeBeginnings 48 = .ok (.isub, 1) := by decide +kernel
theorem dX3_unlikeBeginnings_49 : decode cX3_unlikeBeginnings 49 = .ok (.iadd, 1) := by decide +kernel
theorem dX3_unlikeBeginnings_50 : decode cX3_unlikeBeginnings 50 = .ok (.istore_n 1, 1) := by decide +kernel
theorem dX3_unlikeBeginnings_51 : decode cX3_unlikeBeginnings 51 = .ok (.iinc 2 1, 3) := by decide +kernel
theorem dX3_unlikeBeginnings_54 : decode cX3_unlikeBeginnings 54 = .ok (.goto (-50), 3) := by decide +kernel
theorem dX3_unlikeBeginnings_57 : decode cX3_unlikeBeginnings 57 = .ok (.iload_n 1, 1) := by decide +kernel
theorem dX3_unlikeBeginnings_58 : decode cX3_unlikeBeginnings 58 = .ok (.ireturn, 1) := by decide +kernel
set_option maxRecDepth 10000 in
theorem wX3_unlikeBeginnings_0 {g : zG} {I : Nat → Nat → Int32} {P : Nat → Nat → Option Nat} {r : Option Value} {h' : zH} {a0 : Nat} (H : Zt none mX3_unlikeBeginnings 0 0 4 [(0, .ref a0), (1, .int 0), (2, .int 0)] [] (g, I, P) r h') : Zt none mX3_unlikeBeginnings 0 0 0 [(0, .ref a0)] [] (g, I, P) r h' := by
  refine z_iconst (w := 0) dX3_unlikeBeginnings_0 (by decide) (z_istore_n (lv' := [(1, .int 0), (0, .ref a0)]) dX3_unlikeBeginnings_1 (by decide) rfl (z_iconst (w := 0) dX3_unlikeBeginnings_2 (by decide) (z_istore_n (lv' := [(2, .int 0), (1, .int 0), (0, .ref a0)]) dX3_unlikeBeginnings_3 (by decide) rfl ?_)))
  exact z_less [2, 1, 0] rfl H
theorem eX3_unlikeBeginnings {g : zG} {I : Nat → Nat → Int32} {P : Nat → Nat → Option Nat} {r : Option Value} {h' : zH} {a0 : Nat} (H : Zt none mX3_unlikeBeginnings 0 0 0 [(0, .ref a0)] [] (g, I, P) r h') : Cl mX3_unlikeBeginnings [.ref a0] (g, I, P) r h' := Cl.of (by decide) (Nat.le_of_ble_eq_true rfl) H
set_option maxRecDepth 10000 in
theorem wX3_unlikeBeginnings_4 {g : zG} {I : Nat → Nat → Int32} {P : Nat → Nat → Option Nat} {r : Option Value} {h' : zH} {a0 : Nat} {x1 : Int32} {x2 : Int32} (H : zk g a0 3 ∧ ((I a0 1 ≤ x2) → r = some (.int x1) ∧ h' = (g, I, P)) ∧ ((¬ I a0 1 ≤ x2) → Zt none mX3_unlikeBeginnings 0 0 17 [(0, .ref a0), (1, .int x1), (2, .int x2), (3, .int 0), (4, .int 0)] [] (g, I, P) r h')) : Zt none mX3_unlikeBeginnings 0 0 4 [(0, .ref a0), (1, .int x1), (2, .int x2)] [] (g, I, P) r h' := by
  refine z_iload_n 2 dX3_unlikeBeginnings_4 rfl (z_aload_n 0 dX3_unlikeBeginnings_5 rfl rfl (z_getI dX3_unlikeBeginnings_6 wf_X3_31 (by decide) (by decide) rfl H.1 ?_))
  refine z_icmp_ge (t := 57) dX3_unlikeBeginnings_9 (by decide) (fun q => ?_) (fun q => ?_)
  · have H1 := H.2.1 q
    refine z_iload_n 1 dX3_unlikeBeginnings_57 rfl ?_
    obtain ⟨rfl, rfl⟩ := H1
    exact z_iret dX3_unlikeBeginnings_58 rfl (by decide) (by decide)
  · have H2 := H.2.2 q
    refine z_iconst (w := 0) dX3_unlikeBeginnings_12 (by decide) (z_istore_n (lv' := [(3, .int 0), (0, .ref a0), (1, .int x1), (2, .int x2)]) dX3_unlikeBeginnings_13 (by decide) rfl (z_iconst (w := 0) dX3_unlikeBeginnings_14 (by decide) (z_istore (lv' := [(4, .int 0), (3, .int 0), (0, .ref a0), (1, .int x1), (2, .int x2)]) dX3_unlikeBeginnings_15 (by decide) rfl ?_)))
    exact z_less [2, 3, 4, 1, 0] rfl H2
set_option maxRecDepth 10000 in
theorem wX3_unlikeBeginnings_17 {g : zG} {I : Nat → Nat → Int32} {P : Nat → Nat → Option Nat} {r : Option Value} {h' : zH} {a0 : Nat} {x1 : Int32} {x2 : Int32} {x3 : Int32} {x4 : Int32} (H : ((x2 ≤ x4) → zk g a0 3 ∧ ∃ (w2 : Int32), Cl mX3_sizeOf [.ref a0, .int x2] (g, I, P) (some (.int w2)) (g, I, P) ∧ Zt none mX3_unlikeBeginnings 0 0 4 [(0, .ref a0), (1, .int (x1 + (w2 - x3))), (2, .int (x2 + 1))] [] (g, I, P) r h') ∧ ((¬ x2 ≤ x4) → zk g a0 3 ∧ ∃ (w6 : Int32), Cl mX3_sameLettersAtFirst [.ref a0, .int x4, .int x2] (g, I, P) (some (.int w6)) (g, I, P) ∧ Zt none mX3_unlikeBeginnings 0 0 17 [(0, .ref a0), (1, .int x1), (2, .int x2), (3, .int (zmmax x3 w6)), (4, .int (x4 + 1))] [] (g, I, P) r h')) : Zt none mX3_unlikeBeginnings 0 0 17 [(0, .ref a0), (1, .int x1), (2, .int x2), (3, .int x3), (4, .int x4)] [] (g, I, P) r h' := by
  refine z_iload 4 dX3_unlikeBeginnings_17 rfl (z_iload_n 2 dX3_unlikeBeginnings_19 rfl ?_)
  refine z_icmp_ge (t := 41) dX3_unlikeBeginnings_20 (by decide) (fun q => ?_) (fun q => ?_)
  · have H1 := H.1 q
    refine z_iload_n 1 dX3_unlikeBeginnings_41 rfl (z_aload_n 0 dX3_unlikeBeginnings_42 rfl rfl (z_iload_n 2 dX3_unlikeBeginnings_43 rfl ?_))
    obtain ⟨oc3, w2, c3, H4⟩ := H1
    refine z_virt (As := [.int x2]) (st := [.int x1]) (r1 := (some (.int w2))) (h1 := (g, I, P)) dX3_unlikeBeginnings_44 kX3_sizeOf wm_X3_55 ⟨by decide, by decide⟩ rfl rfl (Nat.le_of_ble_eq_true rfl) (by decide) (by decide) oc3 c3 ?_
    refine z_iload_n 3 dX3_unlikeBeginnings_47 rfl (z_isub dX3_unlikeBeginnings_48 (z_iadd dX3_unlikeBeginnings_49 (z_istore_n (lv' := [(1, .int (x1 + (w2 - x3))), (0, .ref a0), (2, .int x2), (3, .int x3), (4, .int x4)]) dX3_unlikeBeginnings_50 (by decide) rfl (z_iinc (y := x2 + 1) (lv' := [(2, .int (x2 + 1)), (1, .int (x1 + (w2 - x3))), (0, .ref a0), (3, .int x3), (4, .int x4)]) 2 dX3_unlikeBeginnings_51 rfl rfl (by decide) rfl (z_goto (t := 4) dX3_unlikeBeginnings_54 (by decide) ?_)))))
    exact z_less [2, 1, 0] rfl H4
  · have H5 := H.2 q
    refine z_iload_n 3 dX3_unlikeBeginnings_23 rfl (z_aload_n 0 dX3_unlikeBeginnings_24 rfl rfl (z_iload 4 dX3_unlikeBeginnings_25 rfl (z_iload_n 2 dX3_unlikeBeginnings_27 rfl ?_)))
    obtain ⟨oc7, w6, c7, H8⟩ := H5
    refine z_virt (As := [.int x4, .int x2]) (st := [.int x3]) (r1 := (some (.int w6))) (h1 := (g, I, P)) dX3_unlikeBeginnings_28 kX3_sameLettersAtFirst wm_X3_92 ⟨by decide, by decide⟩ rfl rfl (Nat.le_of_ble_eq_true rfl) (by decide) (by decide) oc7 c7 ?_
    refine z_mmax dX3_unlikeBeginnings_31 wm_X3_99 (by decide) (Nat.le_of_ble_eq_true rfl) (by decide) (by decide) w_mxS w_mI w_mxC (z_istore_n (lv' := [(3, .int (zmmax x3 w6)), (0, .ref a0), (1, .int x1), (2, .int x2), (4, .int x4)]) dX3_unlikeBeginnings_34 (by decide) rfl (z_iinc (y := x4 + 1) (lv' := [(4, .int (x4 + 1)), (3, .int (zmmax x3 w6)), (0, .ref a0), (1, .int x1), (2, .int x2)]) 4 dX3_unlikeBeginnings_35 rfl rfl (by decide) rfl (z_goto (t := 17) dX3_unlikeBeginnings_38 (by decide) ?_)))
    exact z_less [2, 3, 4, 1, 0] rfl H8
theorem dX3_wordsWithin_0 : decode cX3_wordsWithin 0 = .ok (.iconst 0, 1) := by decide +kernel
theorem dX3_wordsWithin_1 : decode cX3_wordsWithin 1 = .ok (.istore_n 2, 1) := by decide +kernel
theorem dX3_wordsWithin_2 : decode cX3_wordsWithin 2 = .ok (.iconst 0, 1) := by decide +kernel
theorem dX3_wordsWithin_3 : decode cX3_wordsWithin 3 = .ok (.istore_n 3, 1) := by decide +kernel
theorem dX3_wordsWithin_4 : decode cX3_wordsWithin 4 = .ok (.iload_n 3, 1) := by decide +kernel
theorem dX3_wordsWithin_5 : decode cX3_wordsWithin 5 = .ok (.aload_n 0, 1) := by decide +kernel
theorem dX3_wordsWithin_6 : decode cX3_wordsWithin 6 = .ok (.getfield 31, 3) := by decide +kernel
theorem dX3_wordsWithin_9 : decode cX3_wordsWithin 9 = .ok (.if_icmp .ge 61, 3) := by decide +kernel
theorem dX3_wordsWithin_12 : decode cX3_wordsWithin 12 = .ok (.iconst 0, 1) := by decide +kernel
theorem dX3_wordsWithin_13 : decode cX3_wordsWithin 13 = .ok (.istore 4, 2) := by decide +kernel
theorem dX3_wordsWithin_15 : decode cX3_wordsWithin 15 = .ok (.iload 4, 2) := by decide +kernel
theorem dX3_wordsWithin_17 : decode cX3_wordsWithin 17 = .ok (.aload_n 0, 1) := by decide +kernel
theorem dX3_wordsWithin_18 : decode cX3_wordsWithin 18 = .ok (.getfield 31, 3) := by decide +kernel
theorem dX3_wordsWithin_21 : decode cX3_wordsWithin 21 = .ok (.if_icmp .ge 43, 3) := by decide +kernel
theorem dX3_wordsWithin_24 : decode cX3_wordsWithin 24 = .ok (.iload_n 1, 1) := by decide +kernel
theorem dX3_wordsWithin_25 : decode cX3_wordsWithin 25 = .ok (.iload_n 3, 1) := by decide +kernel
theorem dX3_wordsWithin_26 : decode cX3_wordsWithin 26 = .ok (.invokestatic 80, 3) := by decide +kernel
theorem dX3_wordsWithin_29 : decode cX3_wordsWithin 29 = .ok (.ifCond .eq 29, 3) := by decide +kernel
theorem dX3_wordsWithin_32 : decode cX3_wordsWithin 32 = .ok (.iload_n 1, 1) := by decide +kernel
theorem dX3_wordsWithin_33 : decode cX3_wordsWithin 33 = .ok (.iload 4, 2) := by decide +kernel
theorem dX3_wordsWithin_35 : decode cX3_wordsWithin 35 = .ok (.invokestatic 80, 3) := by decide +kernel
theorem dX3_wordsWithin_38 : decode cX3_wordsWithin 38 = .ok (.ifCond .eq 20, 3) := by decide +kernel
theorem dX3_wordsWithin_41 : decode cX3_wordsWithin 41 = .ok (.aload_n 0, 1) := by decide +kernel
theorem dX3_wordsWithin_42 : decode cX3_wordsWithin 42 = .ok (.iload_n 3, 1) := by decide +kernel
theorem dX3_wordsWithin_43 : decode cX3_wordsWithin 43 = .ok (.iload 4, 2) := by decide +kernel
theorem dX3_wordsWithin_45 : decode cX3_wordsWithin 45 = .ok (.invokevirtual 108, 3) := by decide +kernel
theorem dX3_wordsWithin_48 : decode cX3_wordsWithin 48 = .ok (.ifCond .eq 10, 3) := by decide +kernel
theorem dX3_wordsWithin_51 : decode cX3_wordsWithin 51 = .ok (.iload_n 2, 1) := by decide +kernel
theorem dX3_wordsWithin_52 : decode cX3_wordsWithin 52 = .ok (.iload_n 3, 1) := by decide +kernel
theorem dX3_wordsWithin_53 : decode cX3_wordsWithin 53 = .ok (.invokestatic 84, 3) := by decide +kernel
theorem dX3_wordsWithin_56 : decode cX3_wordsWithin 56 = .ok (.ior, 1) := by decide +kernel
theorem dX3_wordsWithin_57 : decode cX3_wordsWithin 57 = .ok (.istore_n 2, 1) := by decide +kernel
theorem dX3_wordsWithin_58 : decode cX3_wordsWithin 58 = .ok (.iinc 4 1, 3) := by decide +kernel
theorem dX3_wordsWithin_61 : decode cX3_wordsWithin 61 = .ok (.goto (-46), 3) := by decide +kernel
theorem dX3_wordsWithin_64 : decode cX3_wordsWithin 64 = .ok (.iinc 3 1, 3) := by decide +kernel
theorem dX3_wordsWithin_67 : decode cX3_wordsWithin 67 = .ok (.goto (-63), 3) := by decide +kernel
theorem dX3_wordsWithin_70 : decode cX3_wordsWithin 70 = .ok (.iload_n 2, 1) := by decide +kernel
theorem dX3_wordsWithin_71 : decode cX3_wordsWithin 71 = .ok (.ireturn, 1) := by decide +kernel
set_option maxRecDepth 10000 in
theorem wX3_wordsWithin_0 {g : zG} {I : Nat → Nat → Int32} {P : Nat → Nat → Option Nat} {r : Option Value} {h' : zH} {a0 : Nat} {x1 : Int32} (H : Zt none mX3_wordsWithin 0 0 4 [(0, .ref a0), (1, .int x1), (2, .int 0), (3, .int 0)] [] (g, I, P) r h') : Zt none mX3_wordsWithin 0 0 0 [(0, .ref a0), (1, .int x1)] [] (g, I, P) r h' := by
  refine z_iconst (w := 0) dX3_wordsWithin_0 (by decide) (z_istore_n (lv' := [(2, .int 0), (0, .ref a0), (1, .int x1)]) dX3_wordsWithin_1 (by decide) rfl (z_iconst (w := 0) dX3_wordsWithin_2 (by decide) (z_istore_n (lv' := [(3, .int 0), (2, .int 0), (0, .ref a0), (1, .int x1)]) dX3_wordsWithin_3 (by decide) rfl ?_)))
  exact z_less [2, 3, 1, 0] rfl H
theorem eX3_wordsWithin {g : zG} {I : Nat → Nat → Int32} {P : Nat → Nat → Option Nat} {r : Option Value} {h' : zH} {a0 : Nat} {x1 : Int32} (H : Zt none mX3_wordsWithin 0 0 0 [(0, .ref a0), (1, .int x1)] [] (g, I, P) r h') : Cl mX3_wordsWithin [.ref a0, .int x1] (g, I, P) r h' := Cl.of (by decide) (Nat.le_of_ble_eq_true rfl) H
set_option maxRecDepth 10000 in
theorem wX3_wordsWithin_4 {g : zG} {I : Nat → Nat → Int32} {P : Nat → Nat → Option Nat} {r : Option Value} {h' : zH} {a0 : Nat} {x1 : Int32} {x2 : Int32} {x3 : Int32} (H : zk g a0 3 ∧ ((I a0 1 ≤ x3) → r = some (.int x2) ∧ h' = (g, I, P)) ∧ ((¬ I a0 1 ≤ x3) → Zt none mX3_wordsWithin 0 0 15 [(0, .ref a0), (1, .int x1), (2, .int x2), (3, .int x3), (4, .int 0)] [] (g, I, P) r h')) : Zt none mX3_wordsWithin 0 0 4 [(0, .ref a0), (1, .int x1), (2, .int x2), (3, .int x3)] [] (g, I, P) r h' := by
  refine z_iload_n 3 dX3_wordsWithin_4 rfl (z_aload_n 0 dX3_wordsWithin_5 rfl rfl (z_getI dX3_wordsWithin_6 wf_X3_31 (by decide) (by decide) rfl H.1 ?_))
  refine z_icmp_ge (t := 70) dX3_wordsWithin_9 (by decide) (fun q => ?_) (fun q => ?_)
  · have H1 := H.2.1 q
    refine z_iload_n 2 dX3_wordsWithin_70 rfl ?_
    obtain ⟨rfl, rfl⟩ := H1
    exact z_iret dX3_wordsWithin_71 rfl (by decide) (by decide)
  · have H2 := H.2.2 q
    refine z_iconst (w := 0) dX3_wordsWithin_12 (by decide) (z_istore (lv' := [(4, .int 0), (0, .ref a0), (1, .int x1), (2, .int x2), (3, .int x3)]) dX3_wordsWithin_13 (by decide) rfl ?_)
    exact z_less [1, 2, 3, 4, 0] rfl H2
set_option maxRecDepth 10000 in
theorem wX3_wordsWithin_15 {g : zG} {I : Nat → Nat → Int32} {P : Nat → Nat → Option Nat} {r : Option Value} {h' : zH} {a0 : Nat} {x1 : Int32} {x2 : Int32} {x3 : Int32} {x4 : Int32} (H : zk g a0 3 ∧ ((I a0 1 ≤ x4) → Zt none mX3_wordsWithin 0 0 4 [(0, .ref a0), (1, .int x1), (2, .int x2), (3, .int (x3 + 1))] [] (g, I, P) r h') ∧ ((¬ I a0 1 ≤ x4) → ∃ (w3 : Int32), Cl mX11_has [.int x1, .int x3] (g, I, P) (some (.int w3)) (g, I, P) ∧ ((w3 = 0) → Zt none mX3_wordsWithin 0 0 15 [(0, .ref a0), (1, .int x1), (2, .int x2), (3, .int x3), (4, .int (x4 + 1))] [] (g, I, P) r h') ∧ ((¬ w3 = 0) → ∃ (w8 : Int32), Cl mX11_has [.int x1, .int x4] (g, I, P) (some (.int w8)) (g, I, P) ∧ ((w8 = 0) → Zt none mX3_wordsWithin 0 0 15 [(0, .ref a0), (1, .int x1), (2, .int x2), (3, .int x3), (4, .int (x4 + 1))] [] (g, I, P) r h') ∧ ((¬ w8 = 0) → zk g a0 3 ∧ ∃ (w13 : Int32), Cl mX3_isWithin [.ref a0, .int x3, .int x4] (g, I, P) (some (.int w13)) (g, I, P) ∧ ((w13 = 0) → Zt none mX3_wordsWithin 0 0 15 [(0, .ref a0), (1, .int x1), (2, .int x2), (3, .int x3), (4, .int (x4 + 1))] [] (g, I, P) r h') ∧ ((¬ w13 = 0) → ∃ (w18 : Int32), Cl mX11_bit [.int x3] (g, I, P) (some (.int w18)) (g, I, P) ∧ Zt none mX3_wordsWithin 0 0 15 [(0, .ref a0), (1, .int x1), (2, .int (x2 ||| w18)), (3, .int x3), (4, .int (x4 + 1))] [] (g, I, P) r h'))))) : Zt none mX3_wordsWithin 0 0 15 [(0, .ref a0), (1, .int x1), (2, .int x2), (3, .int x3), (4, .int x4)] [] (g, I, P) r h' := by
  refine z_iload 4 dX3_wordsWithin_15 rfl (z_aload_n 0 dX3_wordsWithin_17 rfl rfl (z_getI dX3_wordsWithin_18 wf_X3_31 (by decide) (by decide) rfl H.1 ?_))
  refine z_icmp_ge (t := 64) dX3_wordsWithin_21 (by decide) (fun q => ?_) (fun q => ?_)
  · have H1 := H.2.1 q
    refine z_iinc (y := x3 + 1) (lv' := [(3, .int (x3 + 1)), (0, .ref a0), (1, .int x1), (2, .int x2), (4, .int x4)]) 3 dX3_wordsWithin_64 rfl rfl (by decide) rfl (z_goto (t := 4) dX3_wordsWithin_67 (by decide) ?_)
    exact z_less [1, 2, 3, 0] rfl H1
  · have H2 := H.2.2 q
    refine z_iload_n 1 dX3_wordsWithin_24 rfl (z_iload_n 3 dX3_wordsWithin_25 rfl ?_)
    obtain ⟨w3, c4, H5⟩ := H2
    refine z_stat (As := [.int x1, .int x3]) (st := []) (r1 := (some (.int w3))) (h1 := (g, I, P)) dX3_wordsWithin_26 kX11_has wm_X3_80 ⟨by decide, by decide⟩ rfl rfl (Nat.le_of_ble_eq_true rfl) (by decide) (by decide) c4 ?_
    refine z_if_eq (t := 58) dX3_wordsWithin_29 (by decide) (fun q => ?_) (fun q => ?_)
    · have H6 := H5.1 q
      refine z_iinc (y := x4 + 1) (lv' := [(4, .int (x4 + 1)), (0, .ref a0), (1, .int x1), (2, .int x2), (3, .int x3)]) 4 dX3_wordsWithin_58 rfl rfl (by decide) rfl (z_goto (t := 15) dX3_wordsWithin_61 (by decide) ?_)
      exact z_less [1, 2, 3, 4, 0] rfl H6
    · have H7 := H5.2 q
      refine z_iload_n 1 dX3_wordsWithin_32 rfl (z_iload 4 dX3_wordsWithin_33 rfl ?_)
      obtain ⟨w8, c9, H10⟩ := H7
      refine z_stat (As := [.int x1, .int x4]) (st := []) (r1 := (some (.int w8))) (h1 := (g, I, P)) dX3_wordsWithin_35 kX11_has wm_X3_80 ⟨by decide, by decide⟩ rfl rfl (Nat.le_of_ble_eq_true rfl) (by decide) (by decide) c9 ?_
      refine z_if_eq (t := 58) dX3_wordsWithin_38 (by decide) (fun q => ?_) (fun q => ?_)
      · have H11 := H10.1 q
        refine z_iinc (y := x4 + 1) (lv' := [(4, .int (x4 + 1)), (0, .ref a0), (1, .int x1), (2, .int x2), (3, .int x3)]) 4 dX3_wordsWithin_58 rfl rfl (by decide) rfl (z_goto (t := 15) dX3_wordsWithin_61 (by decide) ?_)
        exact z_less [1, 2, 3, 4, 0] rfl H11
      · have H12 := H10.2 q
        refine z_aload_n 0 dX3_wordsWithin_41 rfl rfl (z_iload_n 3 dX3_wordsWithin_42 rfl (z_iload 4 dX3_wordsWithin_43 rfl ?_))
        obtain ⟨oc14, w13, c14, H15⟩ := H12
        refine z_virt (As := [.int x3, .int x4]) (st := []) (r1 := (some (.int w13))) (h1 := (g, I, P)) dX3_wordsWithin_45 kX3_isWithin wm_X3_108 ⟨by decide, by decide⟩ rfl rfl (Nat.le_of_ble_eq_true rfl) (by decide) (by decide) oc14 c14 ?_
        refine z_if_eq (t := 58) dX3_wordsWithin_48 (by decide) (fun q => ?_) (fun q => ?_)
        · have H16 := H15.1 q
          refine z_iinc (y := x4 + 1) (lv' := [(4, .int (x4 + 1)), (0, .ref a0), (1, .int x1), (2, .int x2), (3, .int x3)]) 4 dX3_wordsWithin_58 rfl rfl (by decide) rfl (z_goto (t := 15) dX3_wordsWithin_61 (by decide) ?_)
          exact z_less [1, 2, 3, 4, 0] rfl H16
        · have H17 := H15.2 q
          refine z_iload_n 2 dX3_wordsWithin_51 rfl (z_iload_n 3 dX3_wordsWithin_52 rfl ?_)
          obtain ⟨w18, c19, H20⟩ := H17
          refine z_stat (As := [.int x3]) (st := [.int x2]) (r1 := (some (.int w18))) (h1 := (g, I, P)) dX3_wordsWithin_53 kX11_bit wm_X3_84 ⟨by decide, by decide⟩ rfl rfl (Nat.le_of_ble_eq_true rfl) (by decide) (by decide) c19 ?_
          refine z_ior dX3_wordsWithin_56 (z_istore_n (lv' := [(2, .int (x2 ||| w18)), (0, .ref a0), (1, .int x1), (3, .int x3), (4, .int x4)]) dX3_wordsWithin_57 (by decide) rfl (z_iinc (y := x4 + 1) (lv' := [(4, .int (x4 + 1)), (2, .int (x2 ||| w18)), (0, .ref a0), (1, .int x1), (3, .int x3)]) 4 dX3_wordsWithin_58 rfl rfl (by decide) rfl (z_goto (t := 15) dX3_wordsWithin_61 (by decide) ?_)))
          exact z_less [2, 3, 1, 4, 0] rfl H20
theorem dX3_unsureQuestions_0 : decode cX3_unsureQuestions 0 = .ok (.iconst 0, 1) := by decide +kernel
theorem dX3_unsureQuestions_1 : decode cX3_unsureQuestions 1 = .ok (.istore_n 1, 1) := by decide +kernel
theorem dX3_unsureQuestions_2 : decode cX3_unsureQuestions 2 = .ok (.iconst 0, 1) := by decide +kernel
theorem dX3_unsureQuestions_3 : decode cX3_unsureQuestions 3 = .ok (.istore_n 2, 1) := by decide +kernel
theorem dX3_unsureQuestions_4 : decode cX3_unsureQuestions 4 = .ok (.iload_n 2, 1) := by decide +kernel
theorem dX3_unsureQuestions_5 : decode cX3_unsureQuestions 5 = .ok (.bipush 6, 2) := by decide +kernel
theorem dX3_unsureQuestions_7 : decode cX3_unsureQuestions 7 = .ok (.if_icmp .ge 31, 3) := by decide +kernel
theorem dX3_unsureQuestions_10 : decode cX3_unsureQuestions 10 = .ok (.aload_n 0, 1) := by decide +kernel
theorem dX3_unsureQuestions_11 : decode cX3_unsureQuestions 11 = .ok (.aload_n 0, 1) := by decide +kernel
theorem dX3_unsureQuestions_12 : decode cX3_unsureQuestions 12 = .ok (.getfield 28, 3) := by decide +kernel
theorem dX3_unsureQuestions_15 : decode cX3_unsureQuestions 15 = .ok (.iload_n 2, 1) := by decide +kernel
theorem dX3_unsureQuestions_16 : decode cX3_unsureQuestions 16 = .ok (.invokestatic 63, 3) := by decide +kernel
theorem dX3_unsureQuestions_19 : decode cX3_unsureQuestions 19 = .ok (.invokevirtual 111, 3) := by decide +kernel
theorem dX3_unsureQuestions_22 : decode cX3_unsureQuestions 22 = .ok (.ifCond .eq 10, 3) := by decide +kernel
theorem dX3_unsureQuestions_25 : decode cX3_unsureQuestions 25 = .ok (.iload_n 1, 1) := by decide +kernel
theorem dX3_unsureQuestions_26 : decode cX3_unsureQuestions 26 = .ok (.iload_n 2, 1) := by decide +kernel
theorem dX3_unsureQuestions_27 : decode cX3_unsureQuestions 27 = .ok (.invokestatic 84, 3) := by decide +kernel
theorem dX3_unsureQuestions_30 : decode cX3_unsureQuestions 30 = .ok (.ior, 1) := by decide +kernel
theorem dX3_unsureQuestions_31 : decode cX3_unsureQuestions 31 = .ok (.istore_n 1, 1) := by decide +kernel
theorem dX3_unsureQuestions_32 : decode cX3_unsureQuestions 32 = .ok (.iinc 2 1, 3) := by decide +kernel
theorem dX3_unsureQuestions_35 : decode cX3_unsureQuestions 35 = .ok (.goto (-31), 3) := by decide +kernel
theorem dX3_unsureQuestions_38 : decode cX3_unsureQuestions 38 = .ok (.iload_n 1, 1) := by decide +kernel
theorem dX3_unsureQuestions_39 : decode cX3_unsureQuestions 39 = .ok (.ireturn, 1) := by decide +kernel
set_option maxRecDepth 10000 in
theorem wX3_unsureQuestions_0 {g : zG} {I : Nat → Nat → Int32} {P : Nat → Nat → Option Nat} {r : Option Value} {h' : zH} {a0 : Nat} (H : Zt none mX3_unsureQuestions 0 0 4 [(0, .ref a0), (1, .int 0), (2, .int 0)] [] (g, I, P) r h') : Zt none mX3_unsureQuestions 0 0 0 [(0, .ref a0)] [] (g, I, P) r h' := by
  refine z_iconst (w := 0) dX3_unsureQuestions_0 (by decide) (z_istore_n (lv' := [(1, .int 0), (0, .ref a0)]) dX3_unsureQuestions_1 (by decide) rfl (z_iconst (w := 0) dX3_unsureQuestions_2 (by decide) (z_istore_n (lv' := [(2, .int 0), (1, .int 0), (0, .ref a0)]) dX3_unsureQuestions_3 (by decide) rfl ?_)))
  exact z_less [2, 1, 0] rfl H
theorem eX3_unsureQuestions {g : zG} {I : Nat → Nat → Int32} {P : Nat → Nat → Option Nat} {r : Option Value} {h' : zH} {a0 : Nat} (H : Zt none mX3_unsureQuestions 0 0 0 [(0, .ref a0)] [] (g, I, P) r h') : Cl mX3_unsureQuestions [.ref a0] (g, I, P) r h' := Cl.of (by decide) (Nat.le_of_ble_eq_true rfl) H
set_option maxRecDepth 10000 in
theorem wX3_unsureQuestions_4 {g : zG} {I : Nat → Nat → Int32} {P : Nat → Nat → Option Nat} {r : Option Value} {h' : zH} {a0 : Nat} {x1 : Int32} {x2 : Int32} (H : ((6 ≤ x2) → r = some (.int x1) ∧ h' = (g, I, P)) ∧ ((¬ 6 ≤ x2) → zk g a0 3 ∧ ∃ b3, P a0 8 = some b3 ∧ ∃ (w6 : Int32), Cl mX11_got [.ref b3, .int x2] (g, I, P) (some (.int w6)) (g, I, P) ∧ zk g a0 3 ∧ ∃ (w9 : Int32), Cl mX3_wordsWithin [.ref a0, .int w6] (g, I, P) (some (.int w9)) (g, I, P) ∧ ((w9 = 0) → Zt none mX3_unsureQuestions 0 0 4 [(0, .ref a0), (1, .int x1), (2, .int (x2 + 1))] [] (g, I, P) r h') ∧ ((¬ w9 = 0) → ∃ (w14 : Int32), Cl mX11_bit [.int x2] (g, I, P) (some (.int w14)) (g, I, P) ∧ Zt none mX3_unsureQuestions 0 0 4 [(0, .ref a0), (1, .int (x1 ||| w14)), (2, .int (x2 + 1))] [] (g, I, P) r h'))) : Zt none mX3_unsureQuestions 0 0 4 [(0, .ref a0), (1, .int x1), (2, .int x2)] [] (g, I, P) r h' := by
  refine z_iload_n 2 dX3_unsureQuestions_4 rfl (z_bipush (w := 6) dX3_unsureQuestions_5 (by decide) ?_)
  refine z_icmp_ge (t := 38) dX3_unsureQuestions_7 (by decide) (fun q => ?_) (fun q => ?_)
  · have H1 := H.1 q
    refine z_iload_n 1 dX3_unsureQuestions_38 rfl ?_
    obtain ⟨rfl, rfl⟩ := H1
    exact z_iret dX3_unsureQuestions_39 rfl (by decide) (by decide)
  · have H2 := H.2 q
    refine z_aload_n 0 dX3_unsureQuestions_10 rfl rfl (z_aload_n 0 dX3_unsureQuestions_11 rfl rfl ?_)
    obtain ⟨oe5, b3, e5, H4⟩ := H2
    refine z_getP dX3_unsureQuestions_12 wf_X3_28 (by decide) (by decide) rfl oe5 (fun q => (by cases q.symm.trans e5)) (fun j q => ?_)
    cases q.symm.trans e5
    refine z_iload_n 2 dX3_unsureQuestions_15 rfl ?_
    obtain ⟨w6, c7, H8⟩ := H4
    refine z_stat (As := [.ref b3, .int x2]) (st := [.ref a0]) (r1 := (some (.int w6))) (h1 := (g, I, P)) dX3_unsureQuestions_16 kX11_got wm_X3_63 ⟨by decide, by decide⟩ rfl rfl (Nat.le_of_ble_eq_true rfl) (by decide) (by decide) c7 ?_
    obtain ⟨oc10, w9, c10, H11⟩ := H8
    refine z_virt (As := [.int w6]) (st := []) (r1 := (some (.int w9))) (h1 := (g, I, P)) dX3_unsureQuestions_19 kX3_wordsWithin wm_X3_111 ⟨by decide, by decide⟩ rfl rfl (Nat.le_of_ble_eq_true rfl) (by decide) (by decide) oc10 c10 ?_
    refine z_if_eq (t := 32) dX3_unsureQuestions_22 (by decide) (fun q => ?_) (fun q => ?_)
    · have H12 := H11.1 q
      refine z_iinc (y := x2 + 1) (lv' := [(2, .int (x2 + 1)), (0, .ref a0), (1, .int x1)]) 2 dX3_unsureQuestions_32 rfl rfl (by decide) rfl (z_goto (t := 4) dX3_unsureQuestions_35 (by decide) ?_)
      exact z_less [1, 2, 0] rfl H12
    · have H13 := H11.2 q
      refine z_iload_n 1 dX3_unsureQuestions_25 rfl (z_iload_n 2 dX3_unsureQuestions_26 rfl ?_)
      obtain ⟨w14, c15, H16⟩ := H13
      refine z_stat (As := [.int x2]) (st := [.int x1]) (r1 := (some (.int w14))) (h1 := (g, I, P)) dX3_unsureQuestions_27 kX11_bit wm_X3_84 ⟨by decide, by decide⟩ rfl rfl (Nat.le_of_ble_eq_true rfl) (by decide) (by decide) c15 ?_
      refine z_ior dX3_unsureQuestions_30 (z_istore_n (lv' := [(1, .int (x1 ||| w14)), (0, .ref a0), (2, .int x2)]) dX3_unsureQuestions_31 (by decide) rfl (z_iinc (y := x2 + 1) (lv' := [(2, .int (x2 + 1)), (1, .int (x1 ||| w14)), (0, .ref a0)]) 2 dX3_unsureQuestions_32 rfl rfl (by decide) rfl (z_goto (t := 4) dX3_unsureQuestions_35 (by decide) ?_)))
      exact z_less [2, 1, 0] rfl H16
theorem dX3_leadsOf_0 : decode cX3_leadsOf 0 = .ok (.aload_n 0, 1) := by decide +kernel
theorem dX3_leadsOf_1 : decode cX3_leadsOf 1 = .ok (.iload_n 1, 1) := by decide +kernel
theorem dX3_leadsOf_2 : decode cX3_leadsOf 2 = .ok (.invokevirtual 73, 3) := by decide +kernel
theorem dX3_leadsOf_5 : decode cX3_leadsOf 5 = .ok (.istore_n 2, 1) := by decide +kernel
theorem dX3_leadsOf_6 : decode cX3_leadsOf 6 = .ok (.iconst 0, 1) := by decide +kernel
theorem dX3_leadsOf_7 : decode cX3_leadsOf 7 = .ok (.istore_n 3, 1) := by decide +kernel
theorem dX3_leadsOf_8 : decode cX3_leadsOf 8 = .ok (.iload_n 3, 1) := by decide +kernel
theorem dX3_leadsOf_9 : decode cX3_leadsOf 9 = .ok (.aload_n 0, 1) := by decide +kernel
theorem dX3_leadsOf_10 : decode cX3_leadsOf 10 = .ok (.getfield 31, 3) := by decide +kernel
theorem dX3_leadsOf_13 : decode cX3_leadsOf 13 = .ok (.if_icmp .ge 45, 3) := by decide +kernel
theorem dX3_leadsOf_16 : decode cX3_leadsOf 16 = .ok (.iconst 0, 1) := by decide +kernel
theorem dX3_leadsOf_17 : decode cX3_leadsOf 17 = .ok (.istore 4, 2) := by decide +kernel
theorem dX3_leadsOf_19 : decode cX3_leadsOf 19 = .ok (.iload 4, 2) := by decide +kernel
theorem dX3_leadsOf_21 : decode cX3_leadsOf 21 = .ok (.aload_n 0, 1) := by decide +kernel
theorem dX3_leadsOf_22 : decode cX3_leadsOf 22 = .ok (.getfield 31, 3) := by decide +kernel
theorem dX3_leadsOf_25 : decode cX3_leadsOf 25 = .ok (.if_icmp .ge 27, 3) := by decide +kernel
theorem dX3_leadsOf_28 : decode cX3_leadsOf 28 = .ok (.iload_n 2, 1) := by decide +kernel
theorem dX3_leadsOf_29 : decode cX3_leadsOf 29 = .ok (.iload 4, 2) := by decide +kernel
theorem dX3_leadsOf_31 : decode cX3_leadsOf 31 = .ok (.invokestatic 80, 3) := by decide +kernel
theorem dX3_leadsOf_34 : decode cX3_leadsOf 34 = .ok (.ifCond .eq 12, 3) := by decide +kernel
theorem dX3_leadsOf_37 : decode cX3_leadsOf 37 = .ok (.iload_n 2, 1) := by decide +kernel
theorem dX3_leadsOf_38 : decode cX3_leadsOf 38 = .ok (.aload_n 0, 1) := by decide +kernel
theorem dX3_leadsOf_39 : decode cX3_leadsOf 39 = .ok (.iload 4, 2) := by decide +kernel
theorem dX3_leadsOf_41 : decode cX3_leadsOf 41 = .ok (.invokevirtual 73, 3) := by decide +kernel
theorem dX3_leadsOf_44 : decode cX3_leadsOf 44 = .ok (.ior, 1) := by decide +kernel
theorem dX3_leadsOf_45 : decode cX3_leadsOf 45 = .ok (.istore_n 2, 1) := by decide +kernel
theorem dX3_leadsOf_46 : decode cX3_leadsOf 46 = .ok (.iinc 4 1, 3) := by decide +kernel
theorem dX3_leadsOf_49 : decode cX3_leadsOf 49 = .ok (.goto (-30), 3) := by decide +kernel
theorem dX3_leadsOf_52 : decode cX3_leadsOf 52 = .ok (.iinc 3 1, 3) := by decide +kernel
theorem dX3_leadsOf_55 : decode cX3_leadsOf 55 = .ok (.goto (-47), 3) := by decide +kernel
theorem dX3_leadsOf_58 : decode cX3_leadsOf 58 = .ok (.iload_n 2, 1) := by decide +kernel
theorem dX3_leadsOf_59 : decode cX3_leadsOf 59 = .ok (.ireturn, 1) := by decide +kernel
set_option maxRecDepth 10000 in
theorem wX3_leadsOf_0 {g : zG} {I : Nat → Nat → Int32} {P : Nat → Nat → Option Nat} {r : Option Value} {h' : zH} {a0 : Nat} {x1 : Int32} (H : zk g a0 3 ∧ ∃ (w1 : Int32), Cl mX3_behind [.ref a0, .int x1] (g, I, P) (some (.int w1)) (g, I, P) ∧ Zt none mX3_leadsOf 0 0 8 [(0, .ref a0), (2, .int w1), (3, .int 0)] [] (g, I, P) r h') : Zt none mX3_leadsOf 0 0 0 [(0, .ref a0), (1, .int x1)] [] (g, I, P) r h' := by
  refine z_aload_n 0 dX3_leadsOf_0 rfl rfl (z_iload_n 1 dX3_leadsOf_1 rfl ?_)
  obtain ⟨oc2, w1, c2, H3⟩ := H
  refine z_virt (As := [.int x1]) (st := []) (r1 := (some (.int w1))) (h1 := (g, I, P)) dX3_leadsOf_2 kX3_behind wm_X3_73 ⟨by decide, by decide⟩ rfl rfl (Nat.le_of_ble_eq_true rfl) (by decide) (by decide) oc2 c2 ?_
  refine z_istore_n (lv' := [(2, .int w1), (0, .ref a0), (1, .int x1)]) dX3_leadsOf_5 (by decide) rfl (z_iconst (w := 0) dX3_leadsOf_6 (by decide) (z_istore_n (lv' := [(3, .int 0), (2, .int w1), (0, .ref a0), (1, .int x1)]) dX3_leadsOf_7 (by decide) rfl ?_))
  exact z_less [2, 1, 0] rfl H3
theorem eX3_leadsOf {g : zG} {I : Nat → Nat → Int32} {P : Nat → Nat → Option Nat} {r : Option Value} {h' : zH} {a0 : Nat} {x1 : Int32} (H : Zt none mX3_leadsOf 0 0 0 [(0, .ref a0), (1, .int x1)] [] (g, I, P) r h') : Cl mX3_leadsOf [.ref a0, .int x1] (g, I, P) r h' := Cl.of (by decide) (Nat.le_of_ble_eq_true rfl) H
set_option maxRecDepth 10000 in
theorem wX3_leadsOf_8 {g : zG} {I : Nat → Nat → Int32} {P : Nat → Nat → Option Nat} {r : Option Value} {h' : zH} {a0 : Nat} {x2 : Int32} {x3 : Int32} (H : zk g a0 3 ∧ ((I a0 1 ≤ x3) → r = some (.int x2) ∧ h' = (g, I, P)) ∧ ((¬ I a0 1 ≤ x3) → Zt none mX3_leadsOf 0 0 19 [(0, .ref a0), (2, .int x2), (3, .int x3), (4, .int 0)] [] (g, I, P) r h')) : Zt none mX3_leadsOf 0 0 8 [(0, .ref a0), (2, .int x2), (3, .int x3)] [] (g, I, P) r h' := by
  refine z_iload_n 2 dX3_leadsOf_8 rfl (z_aload_n 0 dX3_leadsOf_9 rfl rfl (z_getI dX3_leadsOf_10 wf_X3_31 (by decide) (by decide) rfl H.1 ?_))
  refine z_icmp_ge (t := 58) dX3_leadsOf_13 (by decide) (fun q => ?_) (fun q => ?_)
  · have H1 := H.2.1 q
    refine z_iload_n 1 dX3_leadsOf_58 rfl ?_
    obtain ⟨rfl, rfl⟩ := H1
    exact z_iret dX3_leadsOf_59 rfl (by decide) (by decide)
  · have H2 := H.2.2 q
    refine z_iconst (w := 0) dX3_leadsOf_16 (by decide) (z_istore (lv' := [(4, .int 0), (0, .ref a0), (2, .int x2), (3, .int x3)]) dX3_leadsOf_17 (by decide) rfl ?_)
    exact z_less [1, 2, 3, 0] rfl H2
set_option maxRecDepth 10000 in
theorem wX3_leadsOf_19 {g : zG} {I : Nat → Nat → Int32} {P : Nat → Nat → Option Nat} {r : Option Value} {h' : zH} {a0 : Nat} {x2 : Int32} {x3 : Int32} {x4 : Int32} (H : zk g a0 3 ∧ ((I a0 1 ≤ x4) → Zt none mX3_leadsOf 0 0 8 [(0, .ref a0), (2, .int x2), (3, .int (x3 + 1))] [] (g, I, P) r h') ∧ ((¬ I a0 1 ≤ x4) → ∃ (w3 : Int32), Cl mX11_has [.int x2, .int x4] (g, I, P) (some (.int w3)) (g, I, P) ∧ ((w3 = 0) → Zt none mX3_leadsOf 0 0 19 [(0, .ref a0), (2, .int x2), (3, .int x3), (4, .int (x4 + 1))] [] (g, I, P) r h') ∧ ((¬ w3 = 0) → zk g a0 3 ∧ ∃ (w8 : Int32), Cl mX3_behind [.ref a0, .int x4] (g, I, P) (some (.int w8)) (g, I, P) ∧ Zt none mX3_leadsOf 0 0 19 [(0, .ref a0), (2, .int (x2 ||| w8)), (3, .int x3), (4, .int (x4 + 1))] [] (g, I, P) r h'))) : Zt none mX3_leadsOf 0 0 19 [(0, .ref a0), (2, .int x2), (3, .int x3), (4, .int x4)] [] (g, I, P) r h' := by
  refine z_iload 3 dX3_leadsOf_19 rfl (z_aload_n 0 dX3_leadsOf_21 rfl rfl (z_getI dX3_leadsOf_22 wf_X3_31 (by decide) (by decide) rfl H.1 ?_))
  refine z_icmp_ge (t := 52) dX3_leadsOf_25 (by decide) (fun q => ?_) (fun q => ?_)
  · have H1 := H.2.1 q
    refine z_iinc (y := x3 + 1) (lv' := [(3, .int (x3 + 1)), (0, .ref a0), (2, .int x2), (4, .int x4)]) 2 dX3_leadsOf_52 rfl rfl (by decide) rfl (z_goto (t := 8) dX3_leadsOf_55 (by decide) ?_)
    exact z_less [1, 2, 0] rfl H1
  · have H2 := H.2.2 q
    refine z_iload_n 1 dX3_leadsOf_28 rfl (z_iload 3 dX3_leadsOf_29 rfl ?_)
    obtain ⟨w3, c4, H5⟩ := H2
    refine z_stat (As := [.int x2, .int x4]) (st := []) (r1 := (some (.int w3))) (h1 := (g, I, P)) dX3_leadsOf_31 kX11_has wm_X3_80 ⟨by decide, by decide⟩ rfl rfl (Nat.le_of_ble_eq_true rfl) (by decide) (by decide) c4 ?_
    refine z_if_eq (t := 46) dX3_leadsOf_34 (by decide) (fun q => ?_) (fun q => ?_)
    · have H6 := H5.1 q
      refine z_iinc (y := x4 + 1) (lv' := [(4, .int (x4 + 1)), (0, .ref a0), (2, .int x2), (3, .int x3)]) 3 dX3_leadsOf_46 rfl rfl (by decide) rfl (z_goto (t := 19) dX3_leadsOf_49 (by decide) ?_)
      exact z_less [1, 2, 3, 0] rfl H6
    · have H7 := H5.2 q
      refine z_iload_n 1 dX3_leadsOf_37 rfl (z_aload_n 0 dX3_leadsOf_38 rfl rfl (z_iload 3 dX3_leadsOf_39 rfl ?_))
      obtain ⟨oc9, w8, c9, H10⟩ := H7
      refine z_virt (As := [.int x4]) (st := [.int x2]) (r1 := (some (.int w8))) (h1 := (g, I, P)) dX3_leadsOf_41 kX3_behind wm_X3_73 ⟨by decide, by decide⟩ rfl rfl (Nat.le_of_ble_eq_true rfl) (by decide) (by decide) oc9 c9 ?_
      refine z_ior dX3_leadsOf_44 (z_istore_n (lv' := [(2, .int (x2 ||| w8)), (0, .ref a0), (3, .int x3), (4, .int x4)]) dX3_leadsOf_45 (by decide) rfl (z_iinc (y := x4 + 1) (lv' := [(4, .int (x4 + 1)), (2, .int (x2 ||| w8)), (0, .ref a0), (3, .int x3)]) 3 dX3_leadsOf_46 rfl rfl (by decide) rfl (z_goto (t := 19) dX3_leadsOf_49 (by decide) ?_)))
      exact z_less [2, 1, 3, 0] rfl H10
theorem dX3_hasTwoAlike_0 : decode cX3_hasTwoAlike 0 = .ok (.iconst 0, 1) := by decide +kernel
theorem dX3_hasTwoAlike_1 : decode cX3_hasTwoAlike 1 = .ok (.istore_n 1, 1) := by decide +kernel
theorem dX3_hasTwoAlike_2 : decode cX3_hasTwoAlike 2 = .ok (.iload_n 1, 1) := by decide +kernel
theorem dX3_hasTwoAlike_3 : decode cX3_hasTwoAlike 3 = .ok (.aload_n 0, 1) := by decide +kernel
theorem dX3_hasTwoAlike_4 : decode cX3_hasTwoAlike 4 = .ok (.getfield 31, 3) := by decide +kernel
theorem dX3_hasTwoAlike_7 : decode cX3_hasTwoAlike 7 = .ok (.if_icmp .ge 51, 3) := by decide +kernel
theorem dX3_hasTwoAlike_10 : decode cX3_hasTwoAlike 10 = .ok (.iconst 0, 1) := by decide +kernel
theorem dX3_hasTwoAlike_11 : decode cX3_hasTwoAlike 11 = .ok (.istore_n 2, 1) := by decide +kernel
theorem dX3_hasTwoAlike_12 : decode cX3_hasTwoAlike 12 = .ok (.iload_n 2, 1) := by decide +kernel
theorem dX3_hasTwoAlike_13 : decode cX3_hasTwoAlike 13 = .ok (.iload_n 1, 1) := by decide +kernel
theorem dX3_hasTwoAlike_14 : decode cX3_hasTwoAlike 14 = .ok (.if_icmp .ge 38, 3) := by decide +kernel
theorem dX3_hasTwoAlike_17 : decode cX3_hasTwoAlike 17 = .ok (.aload_n 0, 1) := by decide +kernel
theorem dX3_hasTwoAlike_18 : decode cX3_hasTwoAlike 18 = .ok (.iload_n 2, 1) := by decide +kernel
theorem dX3_hasTwoAlike_19 : decode cX3_hasTwoAlike 19 = .ok (.invokevirtual 55, 3) := by decide +kernel
theorem dX3_hasTwoAlike_22 : decode cX3_hasTwoAlike 22 = .ok (.aload_n 0, 1) := by decide +kernel
theorem dX3_hasTwoAlike_23 : decode cX3_hasTwoAlike 23 = .ok (.iload_n 1, 1) := by decide +kernel
theorem dX3_hasTwoAlike_24 : decode cX3_hasTwoAlike 24 = .ok (.invokevirtual 55, 3) := by decide +kernel
theorem dX3_hasTwoAlike_27 : decode cX3_hasTwoAlike 27 = .ok (.if_icmp .ne 19, 3) := by decide +kernel
theorem dX3_hasTwoAlike_30 : decode cX3_hasTwoAlike 30 = .ok (.aload_n 0, 1) := by decide +kernel
theorem dX3_hasTwoAlike_31 : decode cX3_hasTwoAlike 31 = .ok (.iload_n 2, 1) := by decide +kernel
theorem dX3_hasTwoAlike_32 : decode cX3_hasTwoAlike 32 = .ok (.iload_n 1, 1) := by decide +kernel
theorem dX3_hasTwoAlike_33 : decode cX3_hasTwoAlike 33 = .ok (.invokevirtual 92, 3) := by decide +kernel
theorem dX3_hasTwoAlike_36 : decode cX3_hasTwoAlike 36 = .ok (.aload_n 0, 1) := by decide +kernel
theorem dX3_hasTwoAlike_37 : decode cX3_hasTwoAlike 37 = .ok (.iload_n 1, 1) := by decide +kernel
theorem dX3_hasTwoAlike_38 : decode cX3_hasTwoAlike 38 = .ok (.invokevirtual 55, 3) := by decide +kernel
theorem dX3_hasTwoAlike_41 : decode cX3_hasTwoAlike 41 = .ok (.if_icmp .ne 5, 3) := by decide +kernel
theorem dX3_hasTwoAlike_44 : decode cX3_hasTwoAlike 44 = .ok (.iconst 1, 1) := by decide +kernel
theorem dX3_hasTwoAlike_45 : decode cX3_hasTwoAlike 45 = .ok (.ireturn, 1) := by decide +kernel
theorem dX3_hasTwoAlike_46 : decode cX3_hasTwoAlike 46 = .ok (.iinc 2 1, 3) := by decide +kernel
theorem dX3_hasTwoAlike_49 : decode cX3_hasTwoAlike 49 = .ok (.goto (-37), 3) := by decide +kernel
theorem dX3_hasTwoAlike_52 : decode cX3_hasTwoAlike 52 = .ok (.iinc 1 1, 3) := by decide +kernel
theorem dX3_hasTwoAlike_55 : decode cX3_hasTwoAlike 55 = .ok (.goto (-53), 3) := by decide +kernel
theorem dX3_hasTwoAlike_58 : decode cX3_hasTwoAlike 58 = .ok (.iconst 0, 1) := by decide +kernel
theorem dX3_hasTwoAlike_59 : decode cX3_hasTwoAlike 59 = .ok (.ireturn, 1) := by decide +kernel
set_option maxRecDepth 10000 in
theorem wX3_hasTwoAlike_0 {g : zG} {I : Nat → Nat → Int32} {P : Nat → Nat → Option Nat} {r : Option Value} {h' : zH} {a0 : Nat} (H : Zt none mX3_hasTwoAlike 0 0 2 [(0, .ref a0), (1, .int 0)] [] (g, I, P) r h') : Zt none mX3_hasTwoAlike 0 0 0 [(0, .ref a0)] [] (g, I, P) r h' := by
  refine z_iconst (w := 0) dX3_hasTwoAlike_0 (by decide) (z_istore_n (lv' := [(1, .int 0), (0, .ref a0)]) dX3_hasTwoAlike_1 (by decide) rfl ?_)
  exact z_less [1, 0] rfl H
theorem eX3_hasTwoAlike {g : zG} {I : Nat → Nat → Int32} {P : Nat → Nat → Option Nat} {r : Option Value} {h' : zH} {a0 : Nat} (H : Zt none mX3_hasTwoAlike 0 0 0 [(0, .ref a0)] [] (g, I, P) r h') : Cl mX3_hasTwoAlike [.ref a0] (g, I, P) r h' := Cl.of (by decide) (Nat.le_of_ble_eq_true rfl) H
set_option maxRecDepth 10000 in
theorem wX3_hasTwoAlike_2 {g : zG} {I : Nat → Nat → Int32} {P : Nat → Nat → Option Nat} {r : Option Value} {h' : zH} {a0 : Nat} {x1 : Int32} (H : zk g a0 3 ∧ ((I a0 1 ≤ x1) → r = some (.int 0) ∧ h' = (g, I, P)) ∧ ((¬ I a0 1 ≤ x1) → Zt none mX3_hasTwoAlike 0 0 12 [(0, .ref a0), (1, .int x1), (2, .int 0)] [] (g, I, P) r h')) : Zt none mX3_hasTwoAlike 0 0 2 [(0, .ref a0), (1, .int x1)] [] (g, I, P) r h' := by
  refine z_iload_n 1 dX3_hasTwoAlike_2 rfl (z_aload_n 0 dX3_hasTwoAlike_3 rfl rfl (z_getI dX3_hasTwoAlike_4 wf_X3_31 (by decide) (by decide) rfl H.1 ?_))
  refine z_icmp_ge (t := 58) dX3_hasTwoAlike_7 (by decide) (fun q => ?_) (fun q => ?_)
  · have H1 := H.2.1 q
    refine z_iconst (w := 0) dX3_hasTwoAlike_58 (by decide) ?_
    obtain ⟨rfl, rfl⟩ := H1
    exact z_zret dX3_hasTwoAlike_59 rfl (Or.inl rfl) (by decide) (by decide)
  · have H2 := H.2.2 q
    refine z_iconst (w := 0) dX3_hasTwoAlike_10 (by decide) (z_istore_n (lv' := [(2, .int 0), (0, .ref a0), (1, .int x1)]) dX3_hasTwoAlike_11 (by decide) rfl ?_)
    exact z_less [1, 2, 0] rfl H2
set_option maxRecDepth 10000 in
theorem wX3_hasTwoAlike_12 {g : zG} {I : Nat → Nat → Int32} {P : Nat → Nat → Option Nat} {r : Option Value} {h' : zH} {a0 : Nat} {x1 : Int32} {x2 : Int32} (H : ((x1 ≤ x2) → Zt none mX3_hasTwoAlike 0 0 2 [(0, .ref a0), (1, .int (x1 + 1))] [] (g, I, P) r h') ∧ ((¬ x1 ≤ x2) → zk g a0 3 ∧ ∃ (w3 : Int32), Cl mX3_sizeOf [.ref a0, .int x2] (g, I, P) (some (.int w3)) (g, I, P) ∧ zk g a0 3 ∧ ∃ (w6 : Int32), Cl mX3_sizeOf [.ref a0, .int x1] (g, I, P) (some (.int w6)) (g, I, P) ∧ ((¬ w3 = w6) → Zt none mX3_hasTwoAlike 0 0 12 [(0, .ref a0), (1, .int x1), (2, .int (x2 + 1))] [] (g, I, P) r h') ∧ ((w3 = w6) → zk g a0 3 ∧ ∃ (w11 : Int32), Cl mX3_sameLettersAtFirst [.ref a0, .int x2, .int x1] (g, I, P) (some (.int w11)) (g, I, P) ∧ zk g a0 3 ∧ ∃ (w14 : Int32), Cl mX3_sizeOf [.ref a0, .int x1] (g, I, P) (some (.int w14)) (g, I, P) ∧ ((¬ w11 = w14) → Zt none mX3_hasTwoAlike 0 0 12 [(0, .ref a0), (1, .int x1), (2, .int (x2 + 1))] [] (g, I, P) r h') ∧ ((w11 = w14) → r = some (.int 1) ∧ h' = (g, I, P))))) : Zt none mX3_hasTwoAlike 0 0 12 [(0, .ref a0), (1, .int x1), (2, .int x2)] [] (g, I, P) r h' := by
  refine z_iload_n 2 dX3_hasTwoAlike_12 rfl (z_iload_n 1 dX3_hasTwoAlike_13 rfl ?_)
  refine z_icmp_ge (t := 52) dX3_hasTwoAlike_14 (by decide) (fun q => ?_) (fun q => ?_)
  · have H1 := H.1 q
    refine z_iinc (y := x1 + 1) (lv' := [(1, .int (x1 + 1)), (0, .ref a0), (2, .int x2)]) 1 dX3_hasTwoAlike_52 rfl rfl (by decide) rfl (z_goto (t := 2) dX3_hasTwoAlike_55 (by decide) ?_)
    exact z_less [1, 0] rfl H1
  · have H2 := H.2 q
    refine z_aload_n 0 dX3_hasTwoAlike_17 rfl rfl (z_iload_n 2 dX3_hasTwoAlike_18 rfl ?_)
    obtain ⟨oc4, w3, c4, H5⟩ := H2
    refine z_virt (As := [.int x2]) (st := []) (r1 := (some (.int w3))) (h1 := (g, I, P)) dX3_hasTwoAlike_19 kX3_sizeOf wm_X3_55 ⟨by decide, by decide⟩ rfl rfl (Nat.le_of_ble_eq_true rfl) (by decide) (by decide) oc4 c4 ?_
    refine z_aload_n 0 dX3_hasTwoAlike_22 rfl rfl (z_iload_n 1 dX3_hasTwoAlike_23 rfl ?_)
    obtain ⟨oc7, w6, c7, H8⟩ := H5
    refine z_virt (As := [.int x1]) (st := [.int w3]) (r1 := (some (.int w6))) (h1 := (g, I, P)) dX3_hasTwoAlike_24 kX3_sizeOf wm_X3_55 ⟨by decide, by decide⟩ rfl rfl (Nat.le_of_ble_eq_true rfl) (by decide) (by decide) oc7 c7 ?_
    refine z_icmp_ne (t := 46) dX3_hasTwoAlike_27 (by decide) (fun q => ?_) (fun q => ?_)
    · have H9 := H8.1 q
      refine z_iinc (y := x2 + 1) (lv' := [(2, .int (x2 + 1)), (0, .ref a0), (1, .int x1)]) 2 dX3_hasTwoAlike_46 rfl rfl (by decide) rfl (z_goto (t := 12) dX3_hasTwoAlike_49 (by decide) ?_)
      exact z_less [1, 2, 0] rfl H9
    · have H10 := H8.2 q
      refine z_aload_n 0 dX3_hasTwoAlike_30 rfl rfl (z_iload_n 2 dX3_hasTwoAlike_31 rfl (z_iload_n 1 dX3_hasTwoAlike_32 rfl ?_))
      obtain ⟨oc12, w11, c12, H13⟩ := H10
      refine z_virt (As := [.int x2, .int x1]) (st := []) (r1 := (some (.int w11))) (h1 := (g, I, P)) dX3_hasTwoAlike_33 kX3_sameLettersAtFirst wm_X3_92 ⟨by decide, by decide⟩ rfl rfl (Nat.le_of_ble_eq_true rfl) (by decide) (by decide) oc12 c12 ?_
      refine z_aload_n 0 dX3_hasTwoAlike_36 rfl rfl (z_iload_n 1 dX3_hasTwoAlike_37 rfl ?_)
      obtain ⟨oc15, w14, c15, H16⟩ := H13
      refine z_virt (As := [.int x1]) (st := [.int w11]) (r1 := (some (.int w14))) (h1 := (g, I, P)) dX3_hasTwoAlike_38 kX3_sizeOf wm_X3_55 ⟨by decide, by decide⟩ rfl rfl (Nat.le_of_ble_eq_true rfl) (by decide) (by decide) oc15 c15 ?_
      refine z_icmp_ne (t := 46) dX3_hasTwoAlike_41 (by decide) (fun q => ?_) (fun q => ?_)
      · have H17 := H16.1 q
        refine z_iinc (y := x2 + 1) (lv' := [(2, .int (x2 + 1)), (0, .ref a0), (1, .int x1)]) 2 dX3_hasTwoAlike_46 rfl rfl (by decide) rfl (z_goto (t := 12) dX3_hasTwoAlike_49 (by decide) ?_)
        exact z_less [1, 2, 0] rfl H17
      · have H18 := H16.2 q
        refine z_iconst (w := 1) dX3_hasTwoAlike_44 (by decide) ?_
        obtain ⟨rfl, rfl⟩ := H18
        exact z_zret dX3_hasTwoAlike_45 rfl (Or.inr rfl) (by decide) (by decide)
