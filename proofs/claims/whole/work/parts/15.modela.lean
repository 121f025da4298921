theorem dX12_isIn_0 : decode cX12_isIn 0 = .ok (.iload_n 0, 1) := by decide +kernel
theorem dX12_isIn_1 : decode cX12_isIn 1 = .ok (.iload_n 1, 1) := by decide +kernel
theorem dX12_isIn_2 : decode cX12_isIn 2 = .ok (.if_icmp .lt 12, 3) := by decide +kernel
theorem dX12_isIn_5 : decode cX12_isIn 5 = .ok (.iload_n 0, 1) := by decide +kernel
theorem dX12_isIn_6 : decode cX12_isIn 6 = .ok (.iload_n 2, 1) := by decide +kernel
theorem dX12_isIn_7 : decode cX12_isIn 7 = .ok (.if_icmp .gt 7, 3) := by decide +kernel
theorem dX12_isIn_10 : decode cX12_isIn 10 = .ok (.iconst 1, 1) := by decide +kernel
theorem dX12_isIn_11 : decode cX12_isIn 11 = .ok (.goto 4, 3) := by decide +kernel
theorem dX12_isIn_14 : decode cX12_isIn 14 = .ok (.iconst 0, 1) := by decide +kernel
theorem dX12_isIn_15 : decode cX12_isIn 15 = .ok (.ireturn, 1) := by decide +kernel
set_option maxRecDepth 10000 in
theorem wX12_isIn_0 {g : zG} {I : Nat → Nat → Int32} {P : Nat → Nat → Option Nat} {r : Option Value} {h' : zH} {x0 : Int32} {x1 : Int32} {x2 : Int32} (H : ((x0 < x1) → r = some (.int 0) ∧ h' = (g, I, P)) ∧ ((¬ x0 < x1) → ((x2 < x0) → r = some (.int 0) ∧ h' = (g, I, P)) ∧ ((¬ x2 < x0) → r = some (.int 1) ∧ h' = (g, I, P)))) : Zt none mX12_isIn 0 0 0 [(0, .int x0), (1, .int x1), (2, .int x2)] [] (g, I, P) r h' := by
  refine z_iload_n 0 dX12_isIn_0 rfl (z_iload_n 1 dX12_isIn_1 rfl ?_)
  refine z_icmp_lt (t := 14) dX12_isIn_2 (by decide) (fun q => ?_) (fun q => ?_)
  · have H1 := H.1 q
    refine z_iconst (w := 0) dX12_isIn_14 (by decide) ?_
    obtain ⟨rfl, rfl⟩ := H1
    exact z_zret dX12_isIn_15 rfl (Or.inl rfl) (by decide) (by decide)
  · have H2 := H.2 q
    refine z_iload_n 0 dX12_isIn_5 rfl (z_iload_n 2 dX12_isIn_6 rfl ?_)
    refine z_icmp_gt (t := 14) dX12_isIn_7 (by decide) (fun q => ?_) (fun q => ?_)
    · have H3 := H2.1 q
      refine z_iconst (w := 0) dX12_isIn_14 (by decide) ?_
      obtain ⟨rfl, rfl⟩ := H3
      exact z_zret dX12_isIn_15 rfl (Or.inl rfl) (by decide) (by decide)
    · have H4 := H2.2 q
      refine z_iconst (w := 1) dX12_isIn_10 (by decide) (z_goto (t := 15) dX12_isIn_11 (by decide) ?_)
      obtain ⟨rfl, rfl⟩ := H4
      exact z_zret dX12_isIn_15 rfl (Or.inr rfl) (by decide) (by decide)
theorem eX12_isIn {g : zG} {I : Nat → Nat → Int32} {P : Nat → Nat → Option Nat} {r : Option Value} {h' : zH} {x0 : Int32} {x1 : Int32} {x2 : Int32} (H : Zt none mX12_isIn 0 0 0 [(0, .int x0), (1, .int x1), (2, .int x2)] [] (g, I, P) r h') : Cl mX12_isIn [.int x0, .int x1, .int x2] (g, I, P) r h' := Cl.of (by decide) (Nat.le_of_ble_eq_true rfl) H
theorem dX12_feed_0 : decode cX12_feed 0 = .ok (.aload_n 0, 1) := by decide +kernel
theorem dX12_feed_1 : decode cX12_feed 1 = .ok (.getfield 7, 3) := by decide +kernel
theorem dX12_feed_4 : decode cX12_feed 4 = .ok (.iconst 4, 1) := by decide +kernel
theorem dX12_feed_5 : decode cX12_feed 5 = .ok (.iaload, 1) := by decide +kernel
theorem dX12_feed_6 : decode cX12_feed 6 = .ok (.bipush 20, 2) := by decide +kernel
theorem dX12_feed_8 : decode cX12_feed 8 = .ok (.iadd, 1) := by decide +kernel
theorem dX12_feed_9 : decode cX12_feed 9 = .ok (.sipush 600, 3) := by decide +kernel
theorem dX12_feed_12 : decode cX12_feed 12 = .ok (.if_icmp .le 5, 3) := by decide +kernel
theorem dX12_feed_15 : decode cX12_feed 15 = .ok (.iconst (-1), 1) := by decide +kernel
theorem dX12_feed_16 : decode cX12_feed 16 = .ok (.ireturn, 1) := by decide +kernel
theorem dX12_feed_17 : decode cX12_feed 17 = .ok (.iconst 0, 1) := by decide +kernel
theorem dX12_feed_18 : decode cX12_feed 18 = .ok (.istore 6, 2) := by decide +kernel
theorem dX12_feed_20 : decode cX12_feed 20 = .ok (.iload 6, 2) := by decide +kernel
theorem dX12_feed_22 : decode cX12_feed 22 = .ok (.bipush 20, 2) := by decide +kernel
theorem dX12_feed_24 : decode cX12_feed 24 = .ok (.if_icmp .ge 98, 3) := by decide +kernel
theorem dX12_feed_27 : decode cX12_feed 27 = .ok (.iload 6, 2) := by decide +kernel
theorem dX12_feed_29 : decode cX12_feed 29 = .ok (.iconst 4, 1) := by decide +kernel
theorem dX12_feed_30 : decode cX12_feed 30 = .ok (.if_icmp .ge 7, 3) := by decide +kernel
theorem dX12_feed_33 : decode cX12_feed 33 = .ok (.iload_n 1, 1) := by decide +kernel
theorem dX12_feed_34 : decode cX12_feed 34 = .ok (.goto 39, 3) := by decide +kernel
theorem dX12_feed_37 : decode cX12_feed 37 = .ok (.iload 6, 2) := by decide +kernel
theorem dX12_feed_39 : decode cX12_feed 39 = .ok (.bipush 8, 2) := by decide +kernel
theorem dX12_feed_41 : decode cX12_feed 41 = .ok (.if_icmp .ge 7, 3) := by decide +kernel
theorem dX12_feed_44 : decode cX12_feed 44 = .ok (.iload_n 2, 1) := by decide +kernel
theorem dX12_feed_45 : decode cX12_feed 45 = .ok (.goto 28, 3) := by decide +kernel
theorem dX12_feed_48 : decode cX12_feed 48 = .ok (.iload 6, 2) := by decide +kernel
theorem dX12_feed_50 : decode cX12_feed 50 = .ok (.bipush 12, 2) := by decide +kernel
theorem dX12_feed_52 : decode cX12_feed 52 = .ok (.if_icmp .ge 7, 3) := by decide +kernel
theorem dX12_feed_55 : decode cX12_feed 55 = .ok (.iload_n 3, 1) := by decide +kernel
theorem dX12_feed_56 : decode cX12_feed 56 = .ok (.goto 17, 3) := by decide +kernel
theorem dX12_feed_59 : decode cX12_feed 59 = .ok (.iload 6, 2) := by decide +kernel
theorem dX12_feed_61 : decode cX12_feed 61 = .ok (.bipush 16, 2) := by decide +kernel
theorem dX12_feed_63 : decode cX12_feed 63 = .ok (.if_icmp .ge 8, 3) := by decide +kernel
theorem dX12_feed_66 : decode cX12_feed 66 = .ok (.iload 4, 2) := by decide +kernel
theorem dX12_feed_68 : decode cX12_feed 68 = .ok (.goto 5, 3) := by decide +kernel
theorem dX12_feed_71 : decode cX12_feed 71 = .ok (.iload 5, 2) := by decide +kernel
theorem dX12_feed_73 : decode cX12_feed 73 = .ok (.istore 7, 2) := by decide +kernel
theorem dX12_feed_75 : decode cX12_feed 75 = .ok (.aload_n 0, 1) := by decide +kernel
theorem dX12_feed_76 : decode cX12_feed 76 = .ok (.getfield 7, 3) := by decide +kernel
theorem dX12_feed_79 : decode cX12_feed 79 = .ok (.bipush 10, 2) := by decide +kernel
theorem dX12_feed_81 : decode cX12_feed 81 = .ok (.aload_n 0, 1) := by decide +kernel
theorem dX12_feed_82 : decode cX12_feed 82 = .ok (.getfield 7, 3) := by decide +kernel
theorem dX12_feed_85 : decode cX12_feed 85 = .ok (.iconst 4, 1) := by decide +kernel
theorem dX12_feed_86 : decode cX12_feed 86 = .ok (.iaload, 1) := by decide +kernel
theorem dX12_feed_87 : decode cX12_feed 87 = .ok (.iadd, 1) := by decide +kernel
theorem dX12_feed_88 : decode cX12_feed 88 = .ok (.iload 7, 2) := by decide +kernel
theorem dX12_feed_90 : decode cX12_feed 90 = .ok (.bipush 24, 2) := by decide +kernel
theorem dX12_feed_92 : decode cX12_feed 92 = .ok (.bipush 8, 2) := by decide +kernel
theorem dX12_feed_94 : decode cX12_feed 94 = .ok (.iload 6, 2) := by decide +kernel
theorem dX12_feed_96 : decode cX12_feed 96 = .ok (.iconst 4, 1) := by decide +kernel
theorem dX12_feed_97 : decode cX12_feed 97 = .ok (.irem, 1) := by decide +kernel
theorem dX12_feed_98 : decode cX12_feed 98 = .ok (.imul, 1) := by decide +kernel
theorem dX12_feed_99 : decode cX12_feed 99 = .ok (.isub, 1) := by decide +kernel
theorem dX12_feed_100 : decode cX12_feed 100 = .ok (.ishr, 1) := by decide +kernel
theorem dX12_feed_101 : decode cX12_feed 101 = .ok (.sipush 255, 3) := by decide +kernel
theorem dX12_feed_104 : decode cX12_feed 104 = .ok (.iand, 1) := by decide +kernel
theorem dX12_feed_105 : decode cX12_feed 105 = .ok (.iastore, 1) := by decide +kernel
theorem dX12_feed_106 : decode cX12_feed 106 = .ok (.aload_n 0, 1) := by decide +kernel
theorem dX12_feed_107 : decode cX12_feed 107 = .ok (.getfield 7, 3) := by decide +kernel
theorem dX12_feed_110 : decode cX12_feed 110 = .ok (.iconst 4, 1) := by decide +kernel
theorem dX12_feed_111 : decode cX12_feed 111 = .ok (.dup2, 1) := by decide +kernel
theorem dX12_feed_112 : decode cX12_feed 112 = .ok (.iaload, 1) := by decide +kernel
theorem dX12_feed_113 : decode cX12_feed 113 = .ok (.iconst 1, 1) := by decide +kernel
theorem dX12_feed_114 : decode cX12_feed 114 = .ok (.iadd, 1) := by decide +kernel
theorem dX12_feed_115 : decode cX12_feed 115 = .ok (.iastore, 1) := by decide +kernel
theorem dX12_feed_116 : decode cX12_feed 116 = .ok (.iinc 6 1, 3) := by decide +kernel
theorem dX12_feed_119 : decode cX12_feed 119 = .ok (.goto (-99), 3) := by decide +kernel
theorem dX12_feed_122 : decode cX12_feed 122 = .ok (.aload_n 0, 1) := by decide +kernel
theorem dX12_feed_123 : decode cX12_feed 123 = .ok (.getfield 7, 3) := by decide +kernel
theorem dX12_feed_126 : decode cX12_feed 126 = .ok (.iconst 4, 1) := by decide +kernel
theorem dX12_feed_127 : decode cX12_feed 127 = .ok (.iaload, 1) := by decide +kernel
theorem dX12_feed_128 : decode cX12_feed 128 = .ok (.ireturn, 1) := by decide +kernel
set_option maxRecDepth 10000 in
theorem wX12_feed_0 {g : zG} {I : Nat → Nat → Int32} {P : Nat → Nat → Option Nat} {r : Option Value} {h' : zH} {a0 : Nat} {x1 : Int32} {x2 : Int32} {x3 : Int32} {x4 : Int32} {x5 : Int32} (H : zk g a0 12 ∧ ∃ b1, P a0 0 = some b1 ∧ zk g b1 13 ∧ vp_in 4 (g.2.2 b1) ∧ (((I b1 (4 : Int32).toNatClampNeg) + 20 ≤ 600) → Zt none mX12_feed 0 0 20 [(0, .ref a0), (1, .int x1), (2, .int x2), (3, .int x3), (4, .int x4), (5, .int x5), (6, .int 0)] [] (g, I, P) r h') ∧ ((¬ (I b1 (4 : Int32).toNatClampNeg) + 20 ≤ 600) → r = some (.int (-1)) ∧ h' = (g, I, P))) : Zt none mX12_feed 0 0 0 [(0, .ref a0), (1, .int x1), (2, .int x2), (3, .int x3), (4, .int x4), (5, .int x5)] [] (g, I, P) r h' := by
  refine z_aload_n 0 dX12_feed_0 rfl rfl ?_
  obtain ⟨oe3, b1, e3, H2⟩ := H
  refine z_getP dX12_feed_1 wf_X12_7 (by decide) (by decide) rfl oe3 (fun q => (by cases q.symm.trans e3)) (fun j q => ?_)
  cases q.symm.trans e3
  refine z_iconst (w := 4) dX12_feed_4 (by decide) (z_iald dX12_feed_5 H2.1 H2.2.1 (z_bipush (w := 20) dX12_feed_6 (by decide) (z_iadd dX12_feed_8 (z_sipush (w := 600) dX12_feed_9 (by decide) ?_))))
  refine z_icmp_le (t := 17) dX12_feed_12 (by decide) (fun q => ?_) (fun q => ?_)
  · have H4 := H2.2.2.1 q
    refine z_iconst (w := 0) dX12_feed_17 (by decide) (z_istore (lv' := [(6, .int 0), (0, .ref a0), (1, .int x1), (2, .int x2), (3, .int x3), (4, .int x4), (5, .int x5)]) dX12_feed_18 (by decide) rfl ?_)
    exact z_less [1, 2, 3, 4, 5, 6, 0] rfl H4
  · have H5 := H2.2.2.2 q
    refine z_iconst (w := (-1)) dX12_feed_15 (by decide) ?_
    obtain ⟨rfl, rfl⟩ := H5
    exact z_iret dX12_feed_16 rfl (by decide) (by decide)
theorem eX12_feed {g : zG} {I : Nat → Nat → Int32} {P : Nat → Nat → Option Nat} {r : Option Value} {h' : zH} {a0 : Nat} {x1 : Int32} {x2 : Int32} {x3 : Int32} {x4 : Int32} {x5 : Int32} (H : Zt none mX12_feed 0 0 0 [(0, .ref a0), (1, .int x1), (2, .int x2), (3, .int x3), (4, .int x4), (5, .int x5)] [] (g, I, P) r h') : Cl mX12_feed [.ref a0, .int x1, .int x2, .int x3, .int x4, .int x5] (g, I, P) r h' := Cl.of (by decide) (Nat.le_of_ble_eq_true rfl) H
set_option maxRecDepth 10000 in
theorem wX12_feed_20 {g : zG} {I : Nat → Nat → Int32} {P : Nat → Nat → Option Nat} {r : Option Value} {h' : zH} {a0 : Nat} {x1 : Int32} {x2 : Int32} {x3 : Int32} {x4 : Int32} {x5 : Int32} {x6 : Int32} (H : ((20 ≤ x6) → zk g a0 12 ∧ ∃ b2, P a0 0 = some b2 ∧ zk g b2 13 ∧ vp_in 4 (g.2.2 b2) ∧ r = some (.int (I b2 (4 : Int32).toNatClampNeg)) ∧ h' = (g, I, P)) ∧ ((¬ 20 ≤ x6) → ((4 ≤ x6) → ((8 ≤ x6) → ((12 ≤ x6) → ((16 ≤ x6) → Zt none mX12_feed 0 0 73 [(0, .ref a0), (1, .int x1), (2, .int x2), (3, .int x3), (4, .int x4), (5, .int x5), (6, .int x6)] [.int x5] (g, I, P) r h') ∧ ((¬ 16 ≤ x6) → Zt none mX12_feed 0 0 73 [(0, .ref a0), (1, .int x1), (2, .int x2), (3, .int x3), (4, .int x4), (5, .int x5), (6, .int x6)] [.int x4] (g, I, P) r h')) ∧ ((¬ 12 ≤ x6) → Zt none mX12_feed 0 0 73 [(0, .ref a0), (1, .int x1), (2, .int x2), (3, .int x3), (4, .int x4), (5, .int x5), (6, .int x6)] [.int x3] (g, I, P) r h')) ∧ ((¬ 8 ≤ x6) → Zt none mX12_feed 0 0 73 [(0, .ref a0), (1, .int x1), (2, .int x2), (3, .int x3), (4, .int x4), (5, .int x5), (6, .int x6)] [.int x2] (g, I, P) r h')) ∧ ((¬ 4 ≤ x6) → Zt none mX12_feed 0 0 73 [(0, .ref a0), (1, .int x1), (2, .int x2), (3, .int x3), (4, .int x4), (5, .int x5), (6, .int x6)] [.int x1] (g, I, P) r h'))) : Zt none mX12_feed 0 0 20 [(0, .ref a0), (1, .int x1), (2, .int x2), (3, .int x3), (4, .int x4), (5, .int x5), (6, .int x6)] [] (g, I, P) r h' := by
  refine z_iload 6 dX12_feed_20 rfl (z_bipush (w := 20) dX12_feed_22 (by decide) ?_)
  refine z_icmp_ge (t := 122) dX12_feed_24 (by decide) (fun q => ?_) (fun q => ?_)
  · have H1 := H.1 q
    refine z_aload_n 0 dX12_feed_122 rfl rfl ?_
    obtain ⟨oe4, b2, e4, H3⟩ := H1
    refine z_getP dX12_feed_123 wf_X12_7 (by decide) (by decide) rfl oe4 (fun q => (by cases q.symm.trans e4)) (fun j q => ?_)
    cases q.symm.trans e4
    refine z_iconst (w := 4) dX12_feed_126 (by decide) (z_iald dX12_feed_127 H3.1 H3.2.1 ?_)
    obtain ⟨rfl, rfl⟩ := H3.2.2
    exact z_iret dX12_feed_128 rfl (by decide) (by decide)
  · have H5 := H.2 q
    refine z_iload 6 dX12_feed_27 rfl (z_iconst (w := 4) dX12_feed_29 (by decide) ?_)
    refine z_icmp_ge (t := 37) dX12_feed_30 (by decide) (fun q => ?_) (fun q => ?_)
    · have H6 := H5.1 q
      refine z_iload 6 dX12_feed_37 rfl (z_bipush (w := 8) dX12_feed_39 (by decide) ?_)
      refine z_icmp_ge (t := 48) dX12_feed_41 (by decide) (fun q => ?_) (fun q => ?_)
      · have H7 := H6.1 q
        refine z_iload 6 dX12_feed_48 rfl (z_bipush (w := 12) dX12_feed_50 (by decide) ?_)
        refine z_icmp_ge (t := 59) dX12_feed_52 (by decide) (fun q => ?_) (fun q => ?_)
        · have H8 := H7.1 q
          refine z_iload 6 dX12_feed_59 rfl (z_bipush (w := 16) dX12_feed_61 (by decide) ?_)
          refine z_icmp_ge (t := 71) dX12_feed_63 (by decide) (fun q => ?_) (fun q => ?_)
          · have H9 := H8.1 q
            refine z_iload 5 dX12_feed_71 rfl ?_
            exact z_less [0, 1, 2, 3, 4, 5, 6] rfl H9
          · have H10 := H8.2 q
            refine z_iload 4 dX12_feed_66 rfl (z_goto (t := 73) dX12_feed_68 (by decide) ?_)
            exact z_less [0, 1, 2, 3, 4, 5, 6] rfl H10
        · have H11 := H7.2 q
          refine z_iload_n 3 dX12_feed_55 rfl (z_goto (t := 73) dX12_feed_56 (by decide) ?_)
          exact z_less [0, 1, 2, 3, 4, 5, 6] rfl H11
      · have H12 := H6.2 q
        refine z_iload_n 2 dX12_feed_44 rfl (z_goto (t := 73) dX12_feed_45 (by decide) ?_)
        exact z_less [0, 1, 2, 3, 4, 5, 6] rfl H12
    · have H13 := H5.2 q
      refine z_iload_n 1 dX12_feed_33 rfl (z_goto (t := 73) dX12_feed_34 (by decide) ?_)
      exact z_less [0, 1, 2, 3, 4, 5, 6] rfl H13
set_option maxRecDepth 10000 in
theorem wX12_feed_73 {g : zG} {I : Nat → Nat → Int32} {P : Nat → Nat → Option Nat} {r : Option Value} {h' : zH} {a0 : Nat} {x1 : Int32} {x2 : Int32} {x3 : Int32} {x4 : Int32} {x5 : Int32} {x6 : Int32} {xs0 : Int32} (H : zk g a0 12 ∧ ∃ b1, P a0 0 = some b1 ∧ zk g a0 12 ∧ ∃ b4, P a0 0 = some b4 ∧ zk g b4 13 ∧ vp_in 4 (g.2.2 b4) ∧ zk g b1 13 ∧ vp_in (10 + (I b4 (4 : Int32).toNatClampNeg)) (g.2.2 b1) ∧ zk g a0 12 ∧ ∃ b7, P a0 0 = some b7 ∧ zk g b7 13 ∧ vp_in 4 (g.2.2 b7) ∧ zk g b7 13 ∧ vp_in 4 (g.2.2 b7) ∧ Zt none mX12_feed 0 0 20 [(0, .ref a0), (1, .int x1), (2, .int x2), (3, .int x3), (4, .int x4), (5, .int x5), (6, .int (x6 + 1))] [] (g, zU (zU I b1 (10 + (I b4 (4 : Int32).toNatClampNeg)).toNatClampNeg ((xs0 >>> ((24 - (8 * (x6 - x6 / 4 * 4))) &&& 31)) &&& 255)) b7 (4 : Int32).toNatClampNeg (((zU I b1 (10 + (I b4 (4 : Int32).toNatClampNeg)).toNatClampNeg ((xs0 >>> ((24 - (8 * (x6 - x6 / 4 * 4))) &&& 31)) &&& 255)) b7 (4 : Int32).toNatClampNeg) + 1), P) r h') : Zt none mX12_feed 0 0 73 [(0, .ref a0), (1, .int x1), (2, .int x2), (3, .int x3), (4, .int x4), (5, .int x5), (6, .int x6)] [.int xs0] (g, I, P) r h' := by
  refine z_istore (lv' := [(7, .int xs0), (0, .ref a0), (1, .int x1), (2, .int x2), (3, .int x3), (4, .int x4), (5, .int x5), (6, .int x6)]) dX12_feed_73 (by decide) rfl (z_aload_n 1 dX12_feed_75 rfl rfl ?_)
  obtain ⟨oe3, b1, e3, H2⟩ := H
  refine z_getP dX12_feed_76 wf_X12_7 (by decide) (by decide) rfl oe3 (fun q => (by cases q.symm.trans e3)) (fun j q => ?_)
  cases q.symm.trans e3
  refine z_bipush (w := 10) dX12_feed_79 (by decide) (z_aload_n 1 dX12_feed_81 rfl rfl ?_)
  obtain ⟨oe6, b4, e6, H5⟩ := H2
  refine z_getP dX12_feed_82 wf_X12_7 (by decide) (by decide) rfl oe6 (fun q => (by cases q.symm.trans e6)) (fun j q => ?_)
  cases q.symm.trans e6
  refine z_iconst (w := 4) dX12_feed_85 (by decide) (z_iald dX12_feed_86 H5.1 H5.2.1 (z_iadd dX12_feed_87 (z_iload 0 dX12_feed_88 rfl (z_bipush (w := 24) dX12_feed_90 (by decide) (z_bipush (w := 8) dX12_feed_92 (by decide) (z_iload 7 dX12_feed_94 rfl (z_iconst (w := 4) dX12_feed_96 (by decide) (z_irem dX12_feed_97 (by decide) (z_imul dX12_feed_98 (z_isub dX12_feed_99 (z_ishr dX12_feed_100 (z_sipush (w := 255) dX12_feed_101 (by decide) (z_iand dX12_feed_104 (z_iast (g := g) (I := I) (Q := P) dX12_feed_105 H5.2.2.1 H5.2.2.2.1 (z_aload_n 1 dX12_feed_106 rfl rfl ?_)))))))))))))))
  obtain ⟨oe9, b7, e9, H8⟩ := H5.2.2.2.2
  refine z_getP dX12_feed_107 wf_X12_7 (by decide) (by decide) rfl oe9 (fun q => (by cases q.symm.trans e9)) (fun j q => ?_)
  cases q.symm.trans e9
  refine z_iconst (w := 4) dX12_feed_110 (by decide) (z_dup2 dX12_feed_111 rfl rfl (z_iald dX12_feed_112 H8.1 H8.2.1 (z_iconst (w := 1) dX12_feed_113 (by decide) (z_iadd dX12_feed_114 (z_iast (g := g) (I := zU I b1 (10 + (I b4 (4 : Int32).toNatClampNeg)).toNatClampNeg ((xs0 >>> ((24 - (8 * (x6 - x6 / 4 * 4))) &&& 31)) &&& 255)) (Q := P) dX12_feed_115 H8.2.2.1 H8.2.2.2.1 (z_iinc (y := x6 + 1) (lv' := [(6, .int (x6 + 1)), (7, .int xs0), (0, .ref a0), (1, .int x1), (2, .int x2), (3, .int x3), (4, .int x4), (5, .int x5)]) 7 dX12_feed_116 rfl rfl (by decide) rfl (z_goto (t := 20) dX12_feed_119 (by decide) ?_)))))))
  exact z_less [2, 3, 4, 5, 6, 7, 0] rfl H8.2.2.2.2
theorem dX12_end_0 : decode cX12_end 0 = .ok (.iload_n 1, 1) := by decide +kernel
theorem dX12_end_1 : decode cX12_end 1 = .ok (.ifCond .lt 13, 3) := by decide +kernel
theorem dX12_end_4 : decode cX12_end 4 = .ok (.iload_n 1, 1) := by decide +kernel
theorem dX12_end_5 : decode cX12_end 5 = .ok (.aload_n 0, 1) := by decide +kernel
theorem dX12_end_6 : decode cX12_end 6 = .ok (.getfield 7, 3) := by decide +kernel
theorem dX12_end_9 : decode cX12_end 9 = .ok (.iconst 4, 1) := by decide +kernel
theorem dX12_end_10 : decode cX12_end 10 = .ok (.iaload, 1) := by decide +kernel
theorem dX12_end_11 : decode cX12_end 11 = .ok (.if_icmp .le 5, 3) := by decide +kernel
theorem dX12_end_14 : decode cX12_end 14 = .ok (.iconst (-1), 1) := by decide +kernel
theorem dX12_end_15 : decode cX12_end 15 = .ok (.ireturn, 1) := by decide +kernel
theorem dX12_end_16 : decode cX12_end 16 = .ok (.aload_n 0, 1) := by decide +kernel
theorem dX12_end_17 : decode cX12_end 17 = .ok (.getfield 7, 3) := by decide +kernel
theorem dX12_end_20 : decode cX12_end 20 = .ok (.iconst 4, 1) := by decide +kernel
theorem dX12_end_21 : decode cX12_end 21 = .ok (.iload_n 1, 1) := by decide +kernel
theorem dX12_end_22 : decode cX12_end 22 = .ok (.iastore, 1) := by decide +kernel
theorem dX12_end_23 : decode cX12_end 23 = .ok (.iload_n 1, 1) := by decide +kernel
theorem dX12_end_24 : decode cX12_end 24 = .ok (.ireturn, 1) := by decide +kernel
set_option maxRecDepth 10000 in
theorem wX12_end_0 {g : zG} {I : Nat → Nat → Int32} {P : Nat → Nat → Option Nat} {r : Option Value} {h' : zH} {a0 : Nat} {x1 : Int32} (H : ((x1 < 0) → r = some (.int (-1)) ∧ h' = (g, I, P)) ∧ ((¬ x1 < 0) → zk g a0 12 ∧ ∃ b3, P a0 0 = some b3 ∧ zk g b3 13 ∧ vp_in 4 (g.2.2 b3) ∧ ((x1 ≤ I b3 (4 : Int32).toNatClampNeg) → zk g a0 12 ∧ ∃ b7, P a0 0 = some b7 ∧ zk g b7 13 ∧ vp_in 4 (g.2.2 b7) ∧ r = some (.int x1) ∧ h' = (g, zU I b7 (4 : Int32).toNatClampNeg x1, P)) ∧ ((¬ x1 ≤ I b3 (4 : Int32).toNatClampNeg) → r = some (.int (-1)) ∧ h' = (g, I, P)))) : Zt none mX12_end 0 0 0 [(0, .ref a0), (1, .int x1)] [] (g, I, P) r h' := by
  refine z_iload_n 1 dX12_end_0 rfl ?_
  refine z_if_lt (t := 14) dX12_end_1 (by decide) (fun q => ?_) (fun q => ?_)
  · have H1 := H.1 q
    refine z_iconst (w := (-1)) dX12_end_14 (by decide) ?_
    obtain ⟨rfl, rfl⟩ := H1
    exact z_iret dX12_end_15 rfl (by decide) (by decide)
  · have H2 := H.2 q
    refine z_iload_n 1 dX12_end_4 rfl (z_aload_n 0 dX12_end_5 rfl rfl ?_)
    obtain ⟨oe5, b3, e5, H4⟩ := H2
    refine z_getP dX12_end_6 wf_X12_7 (by decide) (by decide) rfl oe5 (fun q => (by cases q.symm.trans e5)) (fun j q => ?_)
    cases q.symm.trans e5
    refine z_iconst (w := 4) dX12_end_9 (by decide) (z_iald dX12_end_10 H4.1 H4.2.1 ?_)
    refine z_icmp_le (t := 16) dX12_end_11 (by decide) (fun q => ?_) (fun q => ?_)
    · have H6 := H4.2.2.1 q
      refine z_aload_n 0 dX12_end_16 rfl rfl ?_
      obtain ⟨oe9, b7, e9, H8⟩ := H6
      refine z_getP dX12_end_17 wf_X12_7 (by decide) (by decide) rfl oe9 (fun q => (by cases q.symm.trans e9)) (fun j q => ?_)
      cases q.symm.trans e9
      refine z_iconst (w := 4) dX12_end_20 (by decide) (z_iload_n 1 dX12_end_21 rfl (z_iast (g := g) (I := I) (Q := P) dX12_end_22 H8.1 H8.2.1 (z_iload_n 1 dX12_end_23 rfl ?_)))
      obtain ⟨rfl, rfl⟩ := H8.2.2
      exact z_iret dX12_end_24 rfl (by decide) (by decide)
    · have H10 := H4.2.2.2 q
      refine z_iconst (w := (-1)) dX12_end_14 (by decide) ?_
      obtain ⟨rfl, rfl⟩ := H10
      exact z_iret dX12_end_15 rfl (by decide) (by decide)
theorem eX12_end {g : zG} {I : Nat → Nat → Int32} {P : Nat → Nat → Option Nat} {r : Option Value} {h' : zH} {a0 : Nat} {x1 : Int32} (H : Zt none mX12_end 0 0 0 [(0, .ref a0), (1, .int x1)] [] (g, I, P) r h') : Cl mX12_end [.ref a0, .int x1] (g, I, P) r h' := Cl.of (by decide) (Nat.le_of_ble_eq_true rfl) H
theorem dX12_byteAt_0 : decode cX12_byteAt 0 = .ok (.iload_n 1, 1) := by decide +kernel
theorem dX12_byteAt_1 : decode cX12_byteAt 1 = .ok (.aload_n 0, 1) := by decide +kernel
theorem dX12_byteAt_2 : decode cX12_byteAt 2 = .ok (.getfield 65, 3) := by decide +kernel
theorem dX12_byteAt_5 : decode cX12_byteAt 5 = .ok (.if_icmp .ge 15, 3) := by decide +kernel
theorem dX12_byteAt_8 : decode cX12_byteAt 8 = .ok (.aload_n 0, 1) := by decide +kernel
theorem dX12_byteAt_9 : decode cX12_byteAt 9 = .ok (.getfield 7, 3) := by decide +kernel
theorem dX12_byteAt_12 : decode cX12_byteAt 12 = .ok (.bipush 10, 2) := by decide +kernel
theorem dX12_byteAt_14 : decode cX12_byteAt 14 = .ok (.iload_n 1, 1) := by decide +kernel
theorem dX12_byteAt_15 : decode cX12_byteAt 15 = .ok (.iadd, 1) := by decide +kernel
theorem dX12_byteAt_16 : decode cX12_byteAt 16 = .ok (.iaload, 1) := by decide +kernel
theorem dX12_byteAt_17 : decode cX12_byteAt 17 = .ok (.goto 4, 3) := by decide +kernel
theorem dX12_byteAt_20 : decode cX12_byteAt 20 = .ok (.iconst (-1), 1) := by decide +kernel
theorem dX12_byteAt_21 : decode cX12_byteAt 21 = .ok (.ireturn, 1) := by decide +kernel
set_option maxRecDepth 10000 in
theorem wX12_byteAt_0 {g : zG} {I : Nat → Nat → Int32} {P : Nat → Nat → Option Nat} {r : Option Value} {h' : zH} {a0 : Nat} {x1 : Int32} (H : zk g a0 12 ∧ ((I a0 2 ≤ x1) → r = some (.int (-1)) ∧ h' = (g, I, P)) ∧ ((¬ I a0 2 ≤ x1) → zk g a0 12 ∧ ∃ b3, P a0 0 = some b3 ∧ zk g b3 13 ∧ vp_in (10 + x1) (g.2.2 b3) ∧ r = some (.int (I b3 (10 + x1).toNatClampNeg)) ∧ h' = (g, I, P))) : Zt none mX12_byteAt 0 0 0 [(0, .ref a0), (1, .int x1)] [] (g, I, P) r h' := by
  refine z_iload_n 1 dX12_byteAt_0 rfl (z_aload_n 0 dX12_byteAt_1 rfl rfl (z_getI dX12_byteAt_2 wf_X12_65 (by decide) (by decide) rfl H.1 ?_))
  refine z_icmp_ge (t := 20) dX12_byteAt_5 (by decide) (fun q => ?_) (fun q => ?_)
  · have H1 := H.2.1 q
    refine z_iconst (w := (-1)) dX12_byteAt_20 (by decide) ?_
    obtain ⟨rfl, rfl⟩ := H1
    exact z_iret dX12_byteAt_21 rfl (by decide) (by decide)
  · have H2 := H.2.2 q
    refine z_aload_n 0 dX12_byteAt_8 rfl rfl ?_
    obtain ⟨oe5, b3, e5, H4⟩ := H2
    refine z_getP dX12_byteAt_9 wf_X12_7 (by decide) (by decide) rfl oe5 (fun q => (by cases q.symm.trans e5)) (fun j q => ?_)
    cases q.symm.trans e5
    refine z_bipush (w := 10) dX12_byteAt_12 (by decide) (z_iload_n 1 dX12_byteAt_14 rfl (z_iadd dX12_byteAt_15 (z_iald dX12_byteAt_16 H4.1 H4.2.1 (z_goto (t := 21) dX12_byteAt_17 (by decide) ?_))))
    obtain ⟨rfl, rfl⟩ := H4.2.2
    exact z_iret dX12_byteAt_21 rfl (by decide) (by decide)
theorem eX12_byteAt {g : zG} {I : Nat → Nat → Int32} {P : Nat → Nat → Option Nat} {r : Option Value} {h' : zH} {a0 : Nat} {x1 : Int32} (H : Zt none mX12_byteAt 0 0 0 [(0, .ref a0), (1, .int x1)] [] (g, I, P) r h') : Cl mX12_byteAt [.ref a0, .int x1] (g, I, P) r h' := Cl.of (by decide) (Nat.le_of_ble_eq_true rfl) H
theorem dX12_isLetter_0 : decode cX12_isLetter 0 = .ok (.iload_n 0, 1) := by decide +kernel
theorem dX12_isLetter_1 : decode cX12_isLetter 1 = .ok (.bipush 97, 2) := by decide +kernel
theorem dX12_isLetter_3 : decode cX12_isLetter 3 = .ok (.if_icmp .lt 13, 3) := by decide +kernel
theorem dX12_isLetter_6 : decode cX12_isLetter 6 = .ok (.iload_n 0, 1) := by decide +kernel
theorem dX12_isLetter_7 : decode cX12_isLetter 7 = .ok (.bipush 122, 2) := by decide +kernel
theorem dX12_isLetter_9 : decode cX12_isLetter 9 = .ok (.if_icmp .gt 7, 3) := by decide +kernel
theorem dX12_isLetter_12 : decode cX12_isLetter 12 = .ok (.iconst 1, 1) := by decide +kernel
theorem dX12_isLetter_13 : decode cX12_isLetter 13 = .ok (.goto 4, 3) := by decide +kernel
theorem dX12_isLetter_16 : decode cX12_isLetter 16 = .ok (.iconst 0, 1) := by decide +kernel
theorem dX12_isLetter_17 : decode cX12_isLetter 17 = .ok (.ireturn, 1) := by decide +kernel
set_option maxRecDepth 10000 in
theorem wX12_isLetter_0 {g : zG} {I : Nat → Nat → Int32} {P : Nat → Nat → Option Nat} {r : Option Value} {h' : zH} {x0 : Int32} (H : ((x0 < 97) → r = some (.int 0) ∧ h' = (g, I, P)) ∧ ((¬ x0 < 97) → ((122 < x0) → r = some (.int 0) ∧ h' = (g, I, P)) ∧ ((¬ 122 < x0) → r = some (.int 1) ∧ h' = (g, I, P)))) : Zt none mX12_isLetter 0 0 0 [(0, .int x0)] [] (g, I, P) r h' := by
  refine z_iload_n 0 dX12_isLetter_0 rfl (z_bipush (w := 97) dX12_isLetter_1 (by decide) ?_)
  refine z_icmp_lt (t := 16) dX12_isLetter_3 (by decide) (fun q => ?_) (fun q => ?_)
  · have H1 := H.1 q
    refine z_iconst (w := 0) dX12_isLetter_16 (by decide) ?_
    obtain ⟨rfl, rfl⟩ := H1
    exact z_zret dX12_isLetter_17 rfl (Or.inl rfl) (by decide) (by decide)
  · have H2 := H.2 q
    refine z_iload_n 0 dX12_isLetter_6 rfl (z_bipush (w := 122) dX12_isLetter_7 (by decide) ?_)
    refine z_icmp_gt (t := 16) dX12_isLetter_9 (by decide) (fun q => ?_) (fun q => ?_)
    · have H3 := H2.1 q
      refine z_iconst (w := 0) dX12_isLetter_16 (by decide) ?_
      obtain ⟨rfl, rfl⟩ := H3
      exact z_zret dX12_isLetter_17 rfl (Or.inl rfl) (by decide) (by decide)
    · have H4 := H2.2 q
      refine z_iconst (w := 1) dX12_isLetter_12 (by decide) (z_goto (t := 17) dX12_isLetter_13 (by decide) ?_)
      obtain ⟨rfl, rfl⟩ := H4
      exact z_zret dX12_isLetter_17 rfl (Or.inr rfl) (by decide) (by decide)
theorem eX12_isLetter {g : zG} {I : Nat → Nat → Int32} {P : Nat → Nat → Option Nat} {r : Option Value} {h' : zH} {x0 : Int32} (H : Zt none mX12_isLetter 0 0 0 [(0, .int x0)] [] (g, I, P) r h') : Cl mX12_isLetter [.int x0] (g, I, P) r h' := Cl.of (by decide) (Nat.le_of_ble_eq_true rfl) H
theorem dX12_isDigit_0 : decode cX12_isDigit 0 = .ok (.iload_n 0, 1) := by decide +kernel
theorem dX12_isDigit_1 : decode cX12_isDigit 1 = .ok (.bipush 48, 2) := by decide +kernel
theorem dX12_isDigit_3 : decode cX12_isDigit 3 = .ok (.if_icmp .lt 13, 3) := by decide +kernel
theorem dX12_isDigit_6 : decode cX12_isDigit 6 = .ok (.iload_n 0, 1) := by decide +kernel
theorem dX12_isDigit_7 : decode cX12_isDigit 7 = .ok (.bipush 57, 2) := by decide +kernel
theorem dX12_isDigit_9 : decode cX12_isDigit 9 = .ok (.if_icmp .gt 7, 3) := by decide +kernel
theorem dX12_isDigit_12 : decode cX12_isDigit 12 = .ok (.iconst 1, 1) := by decide +kernel
theorem dX12_isDigit_13 : decode cX12_isDigit 13 = .ok (.goto 4, 3) := by decide +kernel
theorem dX12_isDigit_16 : decode cX12_isDigit 16 = .ok (.iconst 0, 1) := by decide +kernel
theorem dX12_isDigit_17 : decode cX12_isDigit 17 = .ok (.ireturn, 1) := by decide +kernel
set_option maxRecDepth 10000 in
theorem wX12_isDigit_0 {g : zG} {I : Nat → Nat → Int32} {P : Nat → Nat → Option Nat} {r : Option Value} {h' : zH} {x0 : Int32} (H : ((x0 < 48) → r = some (.int 0) ∧ h' = (g, I, P)) ∧ ((¬ x0 < 48) → ((57 < x0) → r = some (.int 0) ∧ h' = (g, I, P)) ∧ ((¬ 57 < x0) → r = some (.int 1) ∧ h' = (g, I, P)))) : Zt none mX12_isDigit 0 0 0 [(0, .int x0)] [] (g, I, P) r h' := by
  refine z_iload_n 0 dX12_isDigit_0 rfl (z_bipush (w := 48) dX12_isDigit_1 (by decide) ?_)
  refine z_icmp_lt (t := 16) dX12_isDigit_3 (by decide) (fun q => ?_) (fun q => ?_)
  · have H1 := H.1 q
    refine z_iconst (w := 0) dX12_isDigit_16 (by decide) ?_
    obtain ⟨rfl, rfl⟩ := H1
    exact z_zret dX12_isDigit_17 rfl (Or.inl rfl) (by decide) (by decide)
  · have H2 := H.2 q
    refine z_iload_n 0 dX12_isDigit_6 rfl (z_bipush (w := 57) dX12_isDigit_7 (by decide) ?_)
    refine z_icmp_gt (t := 16) dX12_isDigit_9 (by decide) (fun q => ?_) (fun q => ?_)
    · have H3 := H2.1 q
      refine z_iconst (w := 0) dX12_isDigit_16 (by decide) ?_
      obtain ⟨rfl, rfl⟩ := H3
      exact z_zret dX12_isDigit_17 rfl (Or.inl rfl) (by decide) (by decide)
    · have H4 := H2.2 q
      refine z_iconst (w := 1) dX12_isDigit_12 (by decide) (z_goto (t := 17) dX12_isDigit_13 (by decide) ?_)
      obtain ⟨rfl, rfl⟩ := H4
      exact z_zret dX12_isDigit_17 rfl (Or.inr rfl) (by decide) (by decide)
theorem eX12_isDigit {g : zG} {I : Nat → Nat → Int32} {P : Nat → Nat → Option Nat} {r : Option Value} {h' : zH} {x0 : Int32} (H : Zt none mX12_isDigit 0 0 0 [(0, .int x0)] [] (g, I, P) r h') : Cl mX12_isDigit [.int x0] (g, I, P) r h' := Cl.of (by decide) (Nat.le_of_ble_eq_true rfl) H
theorem dX12_four_0 : decode cX12_four 0 = .ok (.iload_n 0, 1) := by decide +kernel
theorem dX12_four_1 : decode cX12_four 1 = .ok (.bipush 32, 2) := by decide +kernel
theorem dX12_four_3 : decode cX12_four 3 = .ok (.imul, 1) := by decide +kernel
theorem dX12_four_4 : decode cX12_four 4 = .ok (.iload_n 1, 1) := by decide +kernel
theorem dX12_four_5 : decode cX12_four 5 = .ok (.iadd, 1) := by decide +kernel
theorem dX12_four_6 : decode cX12_four 6 = .ok (.bipush 32, 2) := by decide +kernel
theorem dX12_four_8 : decode cX12_four 8 = .ok (.imul, 1) := by decide +kernel
theorem dX12_four_9 : decode cX12_four 9 = .ok (.iload_n 2, 1) := by decide +kernel
theorem dX12_four_10 : decode cX12_four 10 = .ok (.iadd, 1) := by decide +kernel
theorem dX12_four_11 : decode cX12_four 11 = .ok (.bipush 32, 2) := by decide +kernel
theorem dX12_four_13 : decode cX12_four 13 = .ok (.imul, 1) := by decide +kernel
theorem dX12_four_14 : decode cX12_four 14 = .ok (.iload_n 3, 1) := by decide +kernel
theorem dX12_four_15 : decode cX12_four 15 = .ok (.iadd, 1) := by decide +kernel
theorem dX12_four_16 : decode cX12_four 16 = .ok (.i2l, 1) := by decide +kernel
theorem dX12_four_17 : decode cX12_four 17 = .ok (.lreturn, 1) := by decide +kernel
set_option maxRecDepth 10000 in
theorem wX12_four_0 {g : zG} {I : Nat → Nat → Int32} {P : Nat → Nat → Option Nat} {r : Option Value} {h' : zH} {x0 : Int32} {x1 : Int32} {x2 : Int32} {x3 : Int32} (H : r = some (.long (((((((x0 * 32) + x1) * 32) + x2) * 32) + x3).toInt64)) ∧ h' = (g, I, P)) : Zt none mX12_four 0 0 0 [(0, .int x0), (1, .int x1), (2, .int x2), (3, .int x3)] [] (g, I, P) r h' := by
  refine z_iload_n 0 dX12_four_0 rfl (z_bipush (w := 32) dX12_four_1 (by decide) (z_imul dX12_four_3 (z_iload_n 1 dX12_four_4 rfl (z_iadd dX12_four_5 (z_bipush (w := 32) dX12_four_6 (by decide) (z_imul dX12_four_8 (z_iload_n 2 dX12_four_9 rfl (z_iadd dX12_four_10 (z_bipush (w := 32) dX12_four_11 (by decide) (z_imul dX12_four_13 (z_iload_n 3 dX12_four_14 rfl (z_iadd dX12_four_15 (z_i2l dX12_four_16 ?_)))))))))))))
  obtain ⟨rfl, rfl⟩ := H
  exact z_lret dX12_four_17 rfl (by decide) (by decide)
theorem eX12_four {g : zG} {I : Nat → Nat → Int32} {P : Nat → Nat → Option Nat} {r : Option Value} {h' : zH} {x0 : Int32} {x1 : Int32} {x2 : Int32} {x3 : Int32} (H : Zt none mX12_four 0 0 0 [(0, .int x0), (1, .int x1), (2, .int x2), (3, .int x3)] [] (g, I, P) r h') : Cl mX12_four [.int x0, .int x1, .int x2, .int x3] (g, I, P) r h' := Cl.of (by decide) (Nat.le_of_ble_eq_true rfl) H
theorem dX12_eight_0 : decode cX12_eight 0 = .ok (.iload_n 0, 1) := by decide +kernel
theorem dX12_eight_1 : decode cX12_eight 1 = .ok (.iload_n 1, 1) := by decide +kernel
theorem dX12_eight_2 : decode cX12_eight 2 = .ok (.iload_n 2, 1) := by decide +kernel
theorem dX12_eight_3 : decode cX12_eight 3 = .ok (.iload_n 3, 1) := by decide +kernel
theorem dX12_eight_4 : decode cX12_eight 4 = .ok (.invokestatic 69, 3) := by decide +kernel
theorem dX12_eight_7 : decode cX12_eight 7 = .ok (.ldc2_w 73, 3) := by decide +kernel
theorem dX12_eight_10 : decode cX12_eight 10 = .ok (.lmul, 1) := by decide +kernel
theorem dX12_eight_11 : decode cX12_eight 11 = .ok (.iload 4, 2) := by decide +kernel
theorem dX12_eight_13 : decode cX12_eight 13 = .ok (.iload 5, 2) := by decide +kernel
theorem dX12_eight_15 : decode cX12_eight 15 = .ok (.iload 6, 2) := by decide +kernel
theorem dX12_eight_17 : decode cX12_eight 17 = .ok (.iload 7, 2) := by decide +kernel
theorem dX12_eight_19 : decode cX12_eight 19 = .ok (.invokestatic 69, 3) := by decide +kernel
theorem dX12_eight_22 : decode cX12_eight 22 = .ok (.ladd, 1) := by decide +kernel
theorem dX12_eight_23 : decode cX12_eight 23 = .ok (.lreturn, 1) := by decide +kernel
set_option maxRecDepth 10000 in
theorem wX12_eight_0 {g : zG} {I : Nat → Nat → Int32} {P : Nat → Nat → Option Nat} {r : Option Value} {h' : zH} {x0 : Int32} {x1 : Int32} {x2 : Int32} {x3 : Int32} {x4 : Int32} {x5 : Int32} {x6 : Int32} {x7 : Int32} (H : ∃ (w1 : Int64), Cl mX12_four [.int x0, .int x1, .int x2, .int x3] (g, I, P) (some (.long w1)) (g, I, P) ∧ ∃ (w4 : Int64), Cl mX12_four [.int x4, .int x5, .int x6, .int x7] (g, I, P) (some (.long w4)) (g, I, P) ∧ r = some (.long ((w1 * 1048576) + w4)) ∧ h' = (g, I, P)) : Zt none mX12_eight 0 0 0 [(0, .int x0), (1, .int x1), (2, .int x2), (3, .int x3), (4, .int x4), (5, .int x5), (6, .int x6), (7, .int x7)] [] (g, I, P) r h' := by
  refine z_iload_n 0 dX12_eight_0 rfl (z_iload_n 1 dX12_eight_1 rfl (z_iload_n 2 dX12_eight_2 rfl (z_iload_n 3 dX12_eight_3 rfl ?_)))
  obtain ⟨w1, c2, H3⟩ := H
  refine z_stat (As := [.int x0, .int x1, .int x2, .int x3]) (st := []) (r1 := (some (.long w1))) (h1 := (g, I, P)) dX12_eight_4 kX12_four wm_X12_69 ⟨by decide, by decide⟩ rfl rfl (Nat.le_of_ble_eq_true rfl) (by decide) (by decide) c2 ?_
  refine z_ldc2 dX12_eight_7 wk_X12_73 (z_lmul dX12_eight_10 (z_iload 4 dX12_eight_11 rfl (z_iload 5 dX12_eight_13 rfl (z_iload 6 dX12_eight_15 rfl (z_iload 7 dX12_eight_17 rfl ?_)))))
  obtain ⟨w4, c5, H6⟩ := H3
  refine z_stat (As := [.int x4, .int x5, .int x6, .int x7]) (st := [.long (w1 * 1048576)]) (r1 := (some (.long w4))) (h1 := (g, I, P)) dX12_eight_19 kX12_four wm_X12_69 ⟨by decide, by decide⟩ rfl rfl (Nat.le_of_ble_eq_true rfl) (by decide) (by decide) c5 ?_
  refine z_ladd dX12_eight_22 ?_
  obtain ⟨rfl, rfl⟩ := H6
  exact z_lret dX12_eight_23 rfl (by decide) (by decide)
theorem eX12_eight {g : zG} {I : Nat → Nat → Int32} {P : Nat → Nat → Option Nat} {r : Option Value} {h' : zH} {x0 : Int32} {x1 : Int32} {x2 : Int32} {x3 : Int32} {x4 : Int32} {x5 : Int32} {x6 : Int32} {x7 : Int32} (H : Zt none mX12_eight 0 0 0 [(0, .int x0), (1, .int x1), (2, .int x2), (3, .int x3), (4, .int x4), (5, .int x5), (6, .int x6), (7, .int x7)] [] (g, I, P) r h') : Cl mX12_eight [.int x0, .int x1, .int x2, .int x3, .int x4, .int x5, .int x6, .int x7] (g, I, P) r h' := Cl.of (by decide) (Nat.le_of_ble_eq_true rfl) H
theorem dX12_wordOf_0 : decode cX12_wordOf 0 = .ok (.lload_n 0, 1) := by decide +kernel
theorem dX12_wordOf_1 : decode cX12_wordOf 1 = .ok (.bipush 23, 2) := by decide +kernel
theorem dX12_wordOf_3 : decode cX12_wordOf 3 = .ok (.bipush 15, 2) := by decide +kernel
theorem dX12_wordOf_5 : decode cX12_wordOf 5 = .ok (.bipush 18, 2) := by decide +kernel
theorem dX12_wordOf_7 : decode cX12_wordOf 7 = .ok (.iconst 4, 1) := by decide +kernel
theorem dX12_wordOf_8 : decode cX12_wordOf 8 = .ok (.invokestatic 69, 3) := by decide +kernel
theorem dX12_wordOf_11 : decode cX12_wordOf 11 = .ok (.lcmp, 1) := by decide +kernel
theorem dX12_wordOf_12 : decode cX12_wordOf 12 = .ok (.ifCond .ne 5, 3) := by decide +kernel
theorem dX12_wordOf_15 : decode cX12_wordOf 15 = .ok (.iconst 1, 1) := by decide +kernel
theorem dX12_wordOf_16 : decode cX12_wordOf 16 = .ok (.ireturn, 1) := by decide +kernel
theorem dX12_wordOf_17 : decode cX12_wordOf 17 = .ok (.lload_n 0, 1) := by decide +kernel
theorem dX12_wordOf_18 : decode cX12_wordOf 18 = .ok (.iconst 0, 1) := by decide +kernel
theorem dX12_wordOf_19 : decode cX12_wordOf 19 = .ok (.bipush 6, 2) := by decide +kernel
theorem dX12_wordOf_21 : decode cX12_wordOf 21 = .ok (.bipush 15, 2) := by decide +kernel
theorem dX12_wordOf_23 : decode cX12_wordOf 23 = .ok (.bipush 12, 2) := by decide +kernel
theorem dX12_wordOf_25 : decode cX12_wordOf 25 = .ok (.bipush 12, 2) := by decide +kernel
theorem dX12_wordOf_27 : decode cX12_wordOf 27 = .ok (.bipush 15, 2) := by decide +kernel
theorem dX12_wordOf_29 : decode cX12_wordOf 29 = .ok (.bipush 23, 2) := by decide +kernel
theorem dX12_wordOf_31 : decode cX12_wordOf 31 = .ok (.bipush 19, 2) := by decide +kernel
theorem dX12_wordOf_33 : decode cX12_wordOf 33 = .ok (.invokestatic 75, 3) := by decide +kernel
theorem dX12_wordOf_36 : decode cX12_wordOf 36 = .ok (.lcmp, 1) := by decide +kernel
theorem dX12_wordOf_37 : decode cX12_wordOf 37 = .ok (.ifCond .ne 5, 3) := by decide +kernel
theorem dX12_wordOf_40 : decode cX12_wordOf 40 = .ok (.iconst 2, 1) := by decide +kernel
theorem dX12_wordOf_41 : decode cX12_wordOf 41 = .ok (.ireturn, 1) := by decide +kernel
theorem dX12_wordOf_42 : decode cX12_wordOf 42 = .ok (.lload_n 0, 1) := by decide +kernel
theorem dX12_wordOf_43 : decode cX12_wordOf 43 = .ok (.iconst 1, 1) := by decide +kernel
theorem dX12_wordOf_44 : decode cX12_wordOf 44 = .ok (.bipush 19, 2) := by decide +kernel
theorem dX12_wordOf_46 : decode cX12_wordOf 46 = .ok (.bipush 11, 2) := by decide +kernel
theorem dX12_wordOf_48 : decode cX12_wordOf 48 = .ok (.bipush 19, 2) := by decide +kernel
theorem dX12_wordOf_50 : decode cX12_wordOf 50 = .ok (.invokestatic 69, 3) := by decide +kernel
theorem dX12_wordOf_53 : decode cX12_wordOf 53 = .ok (.lcmp, 1) := by decide +kernel
theorem dX12_wordOf_54 : decode cX12_wordOf 54 = .ok (.ifCond .ne 5, 3) := by decide +kernel
theorem dX12_wordOf_57 : decode cX12_wordOf 57 = .ok (.iconst 3, 1) := by decide +kernel
theorem dX12_wordOf_58 : decode cX12_wordOf 58 = .ok (.ireturn, 1) := by decide +kernel
theorem dX12_wordOf_59 : decode cX12_wordOf 59 = .ok (.lload_n 0, 1) := by decide +kernel
theorem dX12_wordOf_60 : decode cX12_wordOf 60 = .ok (.iconst 0, 1) := by decide +kernel
theorem dX12_wordOf_61 : decode cX12_wordOf 61 = .ok (.iconst 0, 1) := by decide +kernel
theorem dX12_wordOf_62 : decode cX12_wordOf 62 = .ok (.bipush 19, 2) := by decide +kernel
theorem dX12_wordOf_64 : decode cX12_wordOf 64 = .ok (.bipush 20, 2) := by decide +kernel
theorem dX12_wordOf_66 : decode cX12_wordOf 66 = .ok (.bipush 15, 2) := by decide +kernel
theorem dX12_wordOf_68 : decode cX12_wordOf 68 = .ok (.bipush 14, 2) := by decide +kernel
theorem dX12_wordOf_70 : decode cX12_wordOf 70 = .ok (.iconst 5, 1) := by decide +kernel
theorem dX12_wordOf_71 : decode cX12_wordOf 71 = .ok (.bipush 19, 2) := by decide +kernel
theorem dX12_wordOf_73 : decode cX12_wordOf 73 = .ok (.invokestatic 75, 3) := by decide +kernel
theorem dX12_wordOf_76 : decode cX12_wordOf 76 = .ok (.lcmp, 1) := by decide +kernel
theorem dX12_wordOf_77 : decode cX12_wordOf 77 = .ok (.ifCond .ne 5, 3) := by decide +kernel
theorem dX12_wordOf_80 : decode cX12_wordOf 80 = .ok (.iconst 4, 1) := by decide +kernel
theorem dX12_wordOf_81 : decode cX12_wordOf 81 = .ok (.ireturn, 1) := by decide +kernel
theorem dX12_wordOf_82 : decode cX12_wordOf 82 = .ok (.lload_n 0, 1) := by decide +kernel
theorem dX12_wordOf_83 : decode cX12_wordOf 83 = .ok (.iconst 0, 1) := by decide +kernel
theorem dX12_wordOf_84 : decode cX12_wordOf 84 = .ok (.iconst 0, 1) := by decide +kernel
theorem dX12_wordOf_85 : decode cX12_wordOf 85 = .ok (.iconst 0, 1) := by decide +kernel
theorem dX12_wordOf_86 : decode cX12_wordOf 86 = .ok (.bipush 6, 2) := by decide +kernel
theorem dX12_wordOf_88 : decode cX12_wordOf 88 = .ok (.bipush 18, 2) := by decide +kernel
theorem dX12_wordOf_90 : decode cX12_wordOf 90 = .ok (.bipush 15, 2) := by decide +kernel
theorem dX12_wordOf_92 : decode cX12_wordOf 92 = .ok (.bipush 19, 2) := by decide +kernel
theorem dX12_wordOf_94 : decode cX12_wordOf 94 = .ok (.bipush 20, 2) := by decide +kernel
theorem dX12_wordOf_96 : decode cX12_wordOf 96 = .ok (.invokestatic 75, 3) := by decide +kernel
theorem dX12_wordOf_99 : decode cX12_wordOf 99 = .ok (.lcmp, 1) := by decide +kernel
theorem dX12_wordOf_100 : decode cX12_wordOf 100 = .ok (.ifCond .ne 5, 3) := by decide +kernel
theorem dX12_wordOf_103 : decode cX12_wordOf 103 = .ok (.iconst 5, 1) := by decide +kernel
theorem dX12_wordOf_104 : decode cX12_wordOf 104 = .ok (.ireturn, 1) := by decide +kernel
theorem dX12_wordOf_105 : decode cX12_wordOf 105 = .ok (.lload_n 0, 1) := by decide +kernel
theorem dX12_wordOf_106 : decode cX12_wordOf 106 = .ok (.iconst 0, 1) := by decide +kernel
theorem dX12_wordOf_107 : decode cX12_wordOf 107 = .ok (.iconst 0, 1) := by decide +kernel
theorem dX12_wordOf_108 : decode cX12_wordOf 108 = .ok (.iconst 0, 1) := by decide +kernel
theorem dX12_wordOf_109 : decode cX12_wordOf 109 = .ok (.bipush 6, 2) := by decide +kernel
theorem dX12_wordOf_111 : decode cX12_wordOf 111 = .ok (.bipush 15, 2) := by decide +kernel
theorem dX12_wordOf_113 : decode cX12_wordOf 113 = .ok (.bipush 18, 2) := by decide +kernel
theorem dX12_wordOf_115 : decode cX12_wordOf 115 = .ok (.bipush 7, 2) := by decide +kernel
theorem dX12_wordOf_117 : decode cX12_wordOf 117 = .ok (.iconst 5, 1) := by decide +kernel
theorem dX12_wordOf_118 : decode cX12_wordOf 118 = .ok (.invokestatic 75, 3) := by decide +kernel
theorem dX12_wordOf_121 : decode cX12_wordOf 121 = .ok (.lcmp, 1) := by decide +kernel
theorem dX12_wordOf_122 : decode cX12_wordOf 122 = .ok (.ifCond .ne 6, 3) := by decide +kernel
theorem dX12_wordOf_125 : decode cX12_wordOf 125 = .ok (.bipush 6, 2) := by decide +kernel
theorem dX12_wordOf_127 : decode cX12_wordOf 127 = .ok (.ireturn, 1) := by decide +kernel
theorem dX12_wordOf_128 : decode cX12_wordOf 128 = .ok (.lload_n 0, 1) := by decide +kernel
theorem dX12_wordOf_129 : decode cX12_wordOf 129 = .ok (.bipush 13, 2) := by decide +kernel
theorem dX12_wordOf_131 : decode cX12_wordOf 131 = .ok (.bipush 15, 2) := by decide +kernel
theorem dX12_wordOf_133 : decode cX12_wordOf 133 = .ok (.bipush 19, 2) := by decide +kernel
theorem dX12_wordOf_135 : decode cX12_wordOf 135 = .ok (.bipush 19, 2) := by decide +kernel
theorem dX12_wordOf_137 : decode cX12_wordOf 137 = .ok (.invokestatic 69, 3) := by decide +kernel
theorem dX12_wordOf_140 : decode cX12_wordOf 140 = .ok (.lcmp, 1) := by decide +kernel
theorem dX12_wordOf_141 : decode cX12_wordOf 141 = .ok (.ifCond .ne 6, 3) := by decide +kernel
theorem dX12_wordOf_144 : decode cX12_wordOf 144 = .ok (.bipush 7, 2) := by decide +kernel
theorem dX12_wordOf_146 : decode cX12_wordOf 146 = .ok (.ireturn, 1) := by decide +kernel
theorem dX12_wordOf_147 : decode cX12_wordOf 147 = .ok (.lload_n 0, 1) := by decide +kernel
theorem dX12_wordOf_148 : decode cX12_wordOf 148 = .ok (.iconst 3, 1) := by decide +kernel
theorem dX12_wordOf_149 : decode cX12_wordOf 149 = .ok (.bipush 8, 2) := by decide +kernel
theorem dX12_wordOf_151 : decode cX12_wordOf 151 = .ok (.bipush 9, 2) := by decide +kernel
theorem dX12_wordOf_153 : decode cX12_wordOf 153 = .ok (.bipush 16, 2) := by decide +kernel
theorem dX12_wordOf_155 : decode cX12_wordOf 155 = .ok (.invokestatic 69, 3) := by decide +kernel
theorem dX12_wordOf_158 : decode cX12_wordOf 158 = .ok (.lcmp, 1) := by decide +kernel
theorem dX12_wordOf_159 : decode cX12_wordOf 159 = .ok (.ifCond .ne 6, 3) := by decide +kernel
theorem dX12_wordOf_162 : decode cX12_wordOf 162 = .ok (.bipush 8, 2) := by decide +kernel
theorem dX12_wordOf_164 : decode cX12_wordOf 164 = .ok (.ireturn, 1) := by decide +kernel
theorem dX12_wordOf_165 : decode cX12_wordOf 165 = .ok (.lload_n 0, 1) := by decide +kernel
theorem dX12_wordOf_166 : decode cX12_wordOf 166 = .ok (.iconst 0, 1) := by decide +kernel
theorem dX12_wordOf_167 : decode cX12_wordOf 167 = .ok (.iconst 0, 1) := by decide +kernel
theorem dX12_wordOf_168 : decode cX12_wordOf 168 = .ok (.iconst 0, 1) := by decide +kernel
theorem dX12_wordOf_169 : decode cX12_wordOf 169 = .ok (.bipush 19, 2) := by decide +kernel
theorem dX12_wordOf_171 : decode cX12_wordOf 171 = .ok (.bipush 16, 2) := by decide +kernel
theorem dX12_wordOf_173 : decode cX12_wordOf 173 = .ok (.bipush 12, 2) := by decide +kernel
theorem dX12_wordOf_175 : decode cX12_wordOf 175 = .ok (.bipush 9, 2) := by decide +kernel
theorem dX12_wordOf_177 : decode cX12_wordOf 177 = .ok (.bipush 20, 2) := by decide +kernel
theorem dX12_wordOf_179 : decode cX12_wordOf 179 = .ok (.invokestatic 75, 3) := by decide +kernel
theorem dX12_wordOf_182 : decode cX12_wordOf 182 = .ok (.lcmp, 1) := by decide +kernel
theorem dX12_wordOf_183 : decode cX12_wordOf 183 = .ok (.ifCond .ne 6, 3) := by decide +kernel
theorem dX12_wordOf_186 : decode cX12_wordOf 186 = .ok (.bipush 9, 2) := by decide +kernel
theorem dX12_wordOf_188 : decode cX12_wordOf 188 = .ok (.ireturn, 1) := by decide +kernel
theorem dX12_wordOf_189 : decode cX12_wordOf 189 = .ok (.lload_n 0, 1) := by decide +kernel
theorem dX12_wordOf_190 : decode cX12_wordOf 190 = .ok (.bipush 12, 2) := by decide +kernel
theorem dX12_wordOf_192 : decode cX12_wordOf 192 = .ok (.bipush 9, 2) := by decide +kernel
theorem dX12_wordOf_194 : decode cX12_wordOf 194 = .ok (.bipush 14, 2) := by decide +kernel
theorem dX12_wordOf_196 : decode cX12_wordOf 196 = .ok (.iconst 5, 1) := by decide +kernel
theorem dX12_wordOf_197 : decode cX12_wordOf 197 = .ok (.invokestatic 69, 3) := by decide +kernel
theorem dX12_wordOf_200 : decode cX12_wordOf 200 = .ok (.lcmp, 1) := by decide +kernel
theorem dX12_wordOf_201 : decode cX12_wordOf 201 = .ok (.ifCond .ne 6, 3) := by decide +kernel
theorem dX12_wordOf_204 : decode cX12_wordOf 204 = .ok (.bipush 10, 2) := by decide +kernel
theorem dX12_wordOf_206 : decode cX12_wordOf 206 = .ok (.ireturn, 1) := by decide +kernel
theorem dX12_wordOf_207 : decode cX12_wordOf 207 = .ok (.lload_n 0, 1) := by decide +kernel
theorem dX12_wordOf_208 : decode cX12_wordOf 208 = .ok (.iconst 0, 1) := by decide +kernel
theorem dX12_wordOf_209 : decode cX12_wordOf 209 = .ok (.iconst 0, 1) := by decide +kernel
theorem dX12_wordOf_210 : decode cX12_wordOf 210 = .ok (.iconst 0, 1) := by decide +kernel
theorem dX12_wordOf_211 : decode cX12_wordOf 211 = .ok (.iconst 4, 1) := by decide +kernel
theorem dX12_wordOf_212 : decode cX12_wordOf 212 = .ok (.iconst 5, 1) := by decide +kernel
theorem dX12_wordOf_213 : decode cX12_wordOf 213 = .ok (.bipush 16, 2) := by decide +kernel
theorem dX12_wordOf_215 : decode cX12_wordOf 215 = .ok (.bipush 20, 2) := by decide +kernel
theorem dX12_wordOf_217 : decode cX12_wordOf 217 = .ok (.bipush 8, 2) := by decide +kernel
theorem dX12_wordOf_219 : decode cX12_wordOf 219 = .ok (.invokestatic 75, 3) := by decide +kernel
theorem dX12_wordOf_222 : decode cX12_wordOf 222 = .ok (.lcmp, 1) := by decide +kernel
theorem dX12_wordOf_223 : decode cX12_wordOf 223 = .ok (.ifCond .ne 8, 3) := by decide +kernel
theorem dX12_wordOf_226 : decode cX12_wordOf 226 = .ok (.bipush 11, 2) := by decide +kernel
theorem dX12_wordOf_228 : decode cX12_wordOf 228 = .ok (.goto 5, 3) := by decide +kernel
theorem dX12_wordOf_231 : decode cX12_wordOf 231 = .ok (.bipush 99, 2) := by decide +kernel
theorem dX12_wordOf_233 : decode cX12_wordOf 233 = .ok (.ireturn, 1) := by decide +kernel
set_option maxRecDepth 10000 in
theorem wX12_wordOf_0 {g : zG} {I : Nat → Nat → Int32} {P : Nat → Nat → Option Nat} {r : Option Value} {h' : zH} {l0 : Int64} (H : ∃ (w1 : Int64), Cl mX12_four [.int 23, .int 15, .int 18, .int 4] (g, I, P) (some (.long w1)) (g, I, P) ∧ ((¬ lg_cmp l0 w1 = 0) → ∃ (w5 : Int64), Cl mX12_eight [.int 0, .int 6, .int 15, .int 12, .int 12, .int 15, .int 23, .int 19] (g, I, P) (some (.long w5)) (g, I, P) ∧ ((¬ lg_cmp l0 w5 = 0) → ∃ (w9 : Int64), Cl mX12_four [.int 1, .int 19, .int 11, .int 19] (g, I, P) (some (.long w9)) (g, I, P) ∧ ((¬ lg_cmp l0 w9 = 0) → ∃ (w13 : Int64), Cl mX12_eight [.int 0, .int 0, .int 19, .int 20, .int 15, .int 14, .int 5, .int 19] (g, I, P) (some (.long w13)) (g, I, P) ∧ ((¬ lg_cmp l0 w13 = 0) → ∃ (w17 : Int64), Cl mX12_eight [.int 0, .int 0, .int 0, .int 6, .int 18, .int 15, .int 19, .int 20] (g, I, P) (some (.long w17)) (g, I, P) ∧ ((¬ lg_cmp l0 w17 = 0) → ∃ (w21 : Int64), Cl mX12_eight [.int 0, .int 0, .int 0, .int 6, .int 15, .int 18, .int 7, .int 5] (g, I, P) (some (.long w21)) (g, I, P) ∧ ((¬ lg_cmp l0 w21 = 0) → ∃ (w25 : Int64), Cl mX12_four [.int 13, .int 15, .int 19, .int 19] (g, I, P) (some (.long w25)) (g, I, P) ∧ ((¬ lg_cmp l0 w25 = 0) → ∃ (w29 : Int64), Cl mX12_four [.int 3, .int 8, .int 9, .int 16] (g, I, P) (some (.long w29)) (g, I, P) ∧ ((¬ lg_cmp l0 w29 = 0) → ∃ (w33 : Int64), Cl mX12_eight [.int 0, .int 0, .int 0, .int 19, .int 16, .int 12, .int 9, .int 20] (g, I, P) (some (.long w33)) (g, I, P) ∧ ((¬ lg_cmp l0 w33 = 0) → ∃ (w37 : Int64), Cl mX12_four [.int 12, .int 9, .int 14, .int 5] (g, I, P) (some (.long w37)) (g, I, P) ∧ ((¬ lg_cmp l0 w37 = 0) → ∃ (w41 : Int64), Cl mX12_eight [.int 0, .int 0, .int 0, .int 4, .int 5, .int 16, .int 20, .int 8] (g, I, P) (some (.long w41)) (g, I, P) ∧ ((¬ lg_cmp l0 w41 = 0) → r = some (.int 99) ∧ h' = (g, I, P)) ∧ ((lg_cmp l0 w41 = 0) → r = some (.int 11) ∧ h' = (g, I, P))) ∧ ((lg_cmp l0 w37 = 0) → r = some (.int 10) ∧ h' = (g, I, P))) ∧ ((lg_cmp l0 w33 = 0) → r = some (.int 9) ∧ h' = (g, I, P))) ∧ ((lg_cmp l0 w29 = 0) → r = some (.int 8) ∧ h' = (g, I, P))) ∧ ((lg_cmp l0 w25 = 0) → r = some (.int 7) ∧ h' = (g, I, P))) ∧ ((lg_cmp l0 w21 = 0) → r = some (.int 6) ∧ h' = (g, I, P))) ∧ ((lg_cmp l0 w17 = 0) → r = some (.int 5) ∧ h' = (g, I, P))) ∧ ((lg_cmp l0 w13 = 0) → r = some (.int 4) ∧ h' = (g, I, P))) ∧ ((lg_cmp l0 w9 = 0) → r = some (.int 3) ∧ h' = (g, I, P))) ∧ ((lg_cmp l0 w5 = 0) → r = some (.int 2) ∧ h' = (g, I, P))) ∧ ((lg_cmp l0 w1 = 0) → r = some (.int 1) ∧ h' = (g, I, P))) : Zt none mX12_wordOf 0 0 0 [(0, .long l0)] [] (g, I, P) r h' := by
  refine z_lload_n 0 dX12_wordOf_0 rfl (z_bipush (w := 23) dX12_wordOf_1 (by decide) (z_bipush (w := 15) dX12_wordOf_3 (by decide) (z_bipush (w := 18) dX12_wordOf_5 (by decide) (z_iconst (w := 4) dX12_wordOf_7 (by decide) ?_))))
  obtain ⟨w1, c2, H3⟩ := H
  refine z_stat (As := [.int 23, .int 15, .int 18, .int 4]) (st := [.long l0]) (r1 := (some (.long w1))) (h1 := (g, I, P)) dX12_wordOf_8 kX12_four wm_X12_69 ⟨by decide, by decide⟩ rfl rfl (Nat.le_of_ble_eq_true rfl) (by decide) (by decide) c2 ?_
  refine z_lcmp dX12_wordOf_11 ?_
  refine z_if_ne (t := 17) dX12_wordOf_12 (by decide) (fun q => ?_) (fun q => ?_)
  · have H4 := H3.1 q
    refine z_lload_n 0 dX12_wordOf_17 rfl (z_iconst (w := 0) dX12_wordOf_18 (by decide) (z_bipush (w := 6) dX12_wordOf_19 (by decide) (z_bipush (w := 15) dX12_wordOf_21 (by decide) (z_bipush (w := 12) dX12_wordOf_23 (by decide) (z_bipush (w := 12) dX12_wordOf_25 (by decide) (z_bipush (w := 15) dX12_wordOf_27 (by decide) (z_bipush (w := 23) dX12_wordOf_29 (by decide) (z_bipush (w := 19) dX12_wordOf_31 (by decide) ?_))))))))
    obtain ⟨w5, c6, H7⟩ := H4
    refine z_stat (As := [.int 0, .int 6, .int 15, .int 12, .int 12, .int 15, .int 23, .int 19]) (st := [.long l0]) (r1 := (some (.long w5))) (h1 := (g, I, P)) dX12_wordOf_33 kX12_eight wm_X12_75 ⟨by decide, by decide⟩ rfl rfl (Nat.le_of_ble_eq_true rfl) (by decide) (by decide) c6 ?_
    refine z_lcmp dX12_wordOf_36 ?_
    refine z_if_ne (t := 42) dX12_wordOf_37 (by decide) (fun q => ?_) (fun q => ?_)
    · have H8 := H7.1 q
      refine z_lload_n 0 dX12_wordOf_42 rfl (z_iconst (w := 1) dX12_wordOf_43 (by decide) (z_bipush (w := 19) dX12_wordOf_44 (by decide) (z_bipush (w := 11) dX12_wordOf_46 (by decide) (z_bipush (w := 19) dX12_wordOf_48 (by decide) ?_))))
      obtain ⟨w9, c10, H11⟩ := H8
      refine z_stat (As := [.int 1, .int 19, .int 11, .int 19]) (st := [.long l0]) (r1 := (some (.long w9))) (h1 := (g, I, P)) dX12_wordOf_50 kX12_four wm_X12_69 ⟨by decide, by decide⟩ rfl rfl (Nat.le_of_ble_eq_true rfl) (by decide) (by decide) c10 ?_
      refine z_lcmp dX12_wordOf_53 ?_
      refine z_if_ne (t := 59) dX12_wordOf_54 (by decide) (fun q => ?_) (fun q => ?_)
      · have H12 := H11.1 q
        refine z_lload_n 0 dX12_wordOf_59 rfl (z_iconst (w := 0) dX12_wordOf_60 (by decide) (z_iconst (w := 0) dX12_wordOf_61 (by decide) (z_bipush (w := 19) dX12_wordOf_62 (by decide) (z_bipush (w := 20) dX12_wordOf_64 (by decide) (z_bipush (w := 15) dX12_wordOf_66 (by decide) (z_bipush (w := 14) dX12_wordOf_68 (by decide) (z_iconst (w := 5) dX12_wordOf_70 (by decide) (z_bipush (w := 19) dX12_wordOf_71 (by decide) ?_))))))))
        obtain ⟨w13, c14, H15⟩ := H12
        refine z_stat (As := [.int 0, .int 0, .int 19, .int 20, .int 15, .int 14, .int 5, .int 19]) (st := [.long l0]) (r1 := (some (.long w13))) (h1 := (g, I, P)) dX12_wordOf_73 kX12_eight wm_X12_75 ⟨by decide, by decide⟩ rfl rfl (Nat.le_of_ble_eq_true rfl) (by decide) (by decide) c14 ?_
        refine z_lcmp dX12_wordOf_76 ?_
        refine z_if_ne (t := 82) dX12_wordOf_77 (by decide) (fun q => ?_) (fun q => ?_)
        · have H16 := H15.1 q
          refine z_lload_n 0 dX12_wordOf_82 rfl (z_iconst (w := 0) dX12_wordOf_83 (by decide) (z_iconst (w := 0) dX12_wordOf_84 (by decide) (z_iconst (w := 0) dX12_wordOf_85 (by decide) (z_bipush (w := 6) dX12_wordOf_86 (by decide) (z_bipush (w := 18) dX12_wordOf_88 (by decide) (z_bipush (w := 15) dX12_wordOf_90 (by decide) (z_bipush (w := 19) dX12_wordOf_92 (by decide) (z_bipush (w := 20) dX12_wordOf_94 (by decide) ?_))))))))
          obtain ⟨w17, c18, H19⟩ := H16
          refine z_stat (As := [.int 0, .int 0, .int 0, .int 6, .int 18, .int 15, .int 19, .int 20]) (st := [.long l0]) (r1 := (some (.long w17))) (h1 := (g, I, P)) dX12_wordOf_96 kX12_eight wm_X12_75 ⟨by decide, by decide⟩ rfl rfl (Nat.le_of_ble_eq_true rfl) (by decide) (by decide) c18 ?_
          refine z_lcmp dX12_wordOf_99 ?_
          refine z_if_ne (t := 105) dX12_wordOf_100 (by decide) (fun q => ?_) (fun q => ?_)
          · have H20 := H19.1 q
            refine z_lload_n 0 dX12_wordOf_105 rfl (z_iconst (w := 0) dX12_wordOf_106 (by decide) (z_iconst (w := 0) dX12_wordOf_107 (by decide) (z_iconst (w := 0) dX12_wordOf_108 (by decide) (z_bipush (w := 6) dX12_wordOf_109 (by decide) (z_bipush (w := 15) dX12_wordOf_111 (by decide) (z_bipush (w := 18) dX12_wordOf_113 (by decide) (z_bipush (w := 7) dX12_wordOf_115 (by decide) (z_iconst (w := 5) dX12_wordOf_117 (by decide) ?_))))))))
            obtain ⟨w21, c22, H23⟩ := H20
            refine z_stat (As := [.int 0, .int 0, .int 0, .int 6, .int 15, .int 18, .int 7, .int 5]) (st := [.long l0]) (r1 := (some (.long w21))) (h1 := (g, I, P)) dX12_wordOf_118 kX12_eight wm_X12_75 ⟨by decide, by decide⟩ rfl rfl (Nat.le_of_ble_eq_true rfl) (by decide) (by decide) c22 ?_
            refine z_lcmp dX12_wordOf_121 ?_
            refine z_if_ne (t := 128) dX12_wordOf_122 (by decide) (fun q => ?_) (fun q => ?_)
            · have H24 := H23.1 q
              refine z_lload_n 0 dX12_wordOf_128 rfl (z_bipush (w := 13) dX12_wordOf_129 (by decide) (z_bipush (w := 15) dX12_wordOf_131 (by decide) (z_bipush (w := 19) dX12_wordOf_133 (by decide) (z_bipush (w := 19) dX12_wordOf_135 (by decide) ?_))))
              obtain ⟨w25, c26, H27⟩ := H24
              refine z_stat (As := [.int 13, .int 15, .int 19, .int 19]) (st := [.long l0]) (r1 := (some (.long w25))) (h1 := (g, I, P)) dX12_wordOf_137 kX12_four wm_X12_69 ⟨by decide, by decide⟩ rfl rfl (Nat.le_of_ble_eq_true rfl) (by decide) (by decide) c26 ?_
              refine z_lcmp dX12_wordOf_140 ?_
              refine z_if_ne (t := 147) dX12_wordOf_141 (by decide) (fun q => ?_) (fun q => ?_)
              · have H28 := H27.1 q
                refine z_lload_n 0 dX12_wordOf_147 rfl (z_iconst (w := 3) dX12_wordOf_148 (by decide) (z_bipush (w := 8) dX12_wordOf_149 (by decide) (z_bipush (w := 9) dX12_wordOf_151 (by decide) (z_bipush (w := 16) dX12_wordOf_153 (by decide) ?_))))
                obtain ⟨w29, c30, H31⟩ := H28
                refine z_stat (As := [.int 3, .int 8, .int 9, .int 16]) (st := [.long l0]) (r1 := (some (.long w29))) (h1 := (g, I, P)) dX12_wordOf_155 kX12_four wm_X12_69 ⟨by decide, by decide⟩ rfl rfl (Nat.le_of_ble_eq_true rfl) (by decide) (by decide) c30 ?_
                refine z_lcmp dX12_wordOf_158 ?_
                refine z_if_ne (t := 165) dX12_wordOf_159 (by decide) (fun q => ?_) (fun q => ?_)
                · have H32 := H31.1 q
                  refine z_lload_n 0 dX12_wordOf_165 rfl (z_iconst (w := 0) dX12_wordOf_166 (by decide) (z_iconst (w := 0) dX12_wordOf_167 (by decide) (z_iconst (w := 0) dX12_wordOf_168 (by decide) (z_bipush (w := 19) dX12_wordOf_169 (by decide) (z_bipush (w := 16) dX12_wordOf_171 (by decide) (z_bipush (w := 12) dX12_wordOf_173 (by decide) (z_bipush (w := 9) dX12_wordOf_175 (by decide) (z_bipush (w := 20) dX12_wordOf_177 (by decide) ?_))))))))
                  obtain ⟨w33, c34, H35⟩ := H32
                  refine z_stat (As := [.int 0, .int 0, .int 0, .int 19, .int 16, .int 12, .int 9, .int 20]) (st := [.long l0]) (r1 := (some (.long w33))) (h1 := (g, I, P)) dX12_wordOf_179 kX12_eight wm_X12_75 ⟨by decide, by decide⟩ rfl rfl (Nat.le_of_ble_eq_true rfl) (by decide) (by decide) c34 ?_
                  refine z_lcmp dX12_wordOf_182 ?_
                  refine z_if_ne (t := 189) dX12_wordOf_183 (by decide) (fun q => ?_) (fun q => ?_)
                  · have H36 := H35.1 q
                    refine z_lload_n 0 dX12_wordOf_189 rfl (z_bipush (w := 12) dX12_wordOf_190 (by decide) (z_bipush (w := 9) dX12_wordOf_192 (by decide) (z_bipush (w := 14) dX12_wordOf_194 (by decide) (z_iconst (w := 5) dX12_wordOf_196 (by decide) ?_))))
                    obtain ⟨w37, c38, H39⟩ := H36
                    refine z_stat (As := [.int 12, .int 9, .int 14, .int 5]) (st := [.long l0]) (r1 := (some (.long w37))) (h1 := (g, I, P)) dX12_wordOf_197 kX12_four wm_X12_69 ⟨by decide, by decide⟩ rfl rfl (Nat.le_of_ble_eq_true rfl) (by decide) (by decide) c38 ?_
                    refine z_lcmp dX12_wordOf_200 ?_
                    refine z_if_ne (t := 207) dX12_wordOf_201 (by decide) (fun q => ?_) (fun q => ?_)
                    · have H40 := H39.1 q
                      refine z_lload_n 0 dX12_wordOf_207 rfl (z_iconst (w := 0) dX12_wordOf_208 (by decide) (z_iconst (w := 0) dX12_wordOf_209 (by decide) (z_iconst (w := 0) dX12_wordOf_210 (by decide) (z_iconst (w := 4) dX12_wordOf_211 (by decide) (z_iconst (w := 5) dX12_wordOf_212 (by decide) (z_bipush (w := 16) dX12_wordOf_213 (by decide) (z_bipush (w := 20) dX12_wordOf_215 (by decide) (z_bipush (w := 8) dX12_wordOf_217 (by decide) ?_))))))))
                      obtain ⟨w41, c42, H43⟩ := H40
                      refine z_stat (As := [.int 0, .int 0, .int 0, .int 4, .int 5, .int 16, .int 20, .int 8]) (st := [.long l0]) (r1 := (some (.long w41))) (h1 := (g, I, P)) dX12_wordOf_219 kX12_eight wm_X12_75 ⟨by decide, by decide⟩ rfl rfl (Nat.le_of_ble_eq_true rfl) (by decide) (by decide) c42 ?_
                      refine z_lcmp dX12_wordOf_222 ?_
                      refine z_if_ne (t := 231) dX12_wordOf_223 (by decide) (fun q => ?_) (fun q => ?_)
                      · have H44 := H43.1 q
                        refine z_bipush (w := 99) dX12_wordOf_231 (by decide) ?_
                        obtain ⟨rfl, rfl⟩ := H44
                        exact z_iret dX12_wordOf_233 rfl (by decide) (by decide)
                      · have H45 := H43.2 q
                        refine z_bipush (w := 11) dX12_wordOf_226 (by decide) (z_goto (t := 233) dX12_wordOf_228 (by decide) ?_)
                        obtain ⟨rfl, rfl⟩ := H45
                        exact z_iret dX12_wordOf_233 rfl (by decide) (by decide)
                    · have H46 := H39.2 q
                      refine z_bipush (w := 10) dX12_wordOf_204 (by decide) ?_
                      obtain ⟨rfl, rfl⟩ := H46
                      exact z_iret dX12_wordOf_206 rfl (by decide) (by decide)
                  · have H47 := H35.2 q
                    refine z_bipush (w := 9) dX12_wordOf_186 (by decide) ?_
                    obtain ⟨rfl, rfl⟩ := H47
                    exact z_iret dX12_wordOf_188 rfl (by decide) (by decide)
                · have H48 := H31.2 q
                  refine z_bipush (w := 8) dX12_wordOf_162 (by decide) ?_
                  obtain ⟨rfl, rfl⟩ := H48
                  exact z_iret dX12_wordOf_164 rfl (by decide) (by decide)
              · have H49 := H27.2 q
                refine z_bipush (w := 7) dX12_wordOf_144 (by decide) ?_
                obtain ⟨rfl, rfl⟩ := H49
                exact z_iret dX12_wordOf_146 rfl (by decide) (by decide)
            · have H50 := H23.2 q
              refine z_bipush (w := 6) dX12_wordOf_125 (by decide) ?_
              obtain ⟨rfl, rfl⟩ := H50
              exact z_iret dX12_wordOf_127 rfl (by decide) (by decide)
          · have H51 := H19.2 q
            refine z_iconst (w := 5) dX12_wordOf_103 (by decide) ?_
            obtain ⟨rfl, rfl⟩ := H51
            exact z_iret dX12_wordOf_104 rfl (by decide) (by decide)
        · have H52 := H15.2 q
          refine z_iconst (w := 4) dX12_wordOf_80 (by decide) ?_
          obtain ⟨rfl, rfl⟩ := H52
          exact z_iret dX12_wordOf_81 rfl (by decide) (by decide)
      · have H53 := H11.2 q
        refine z_iconst (w := 3) dX12_wordOf_57 (by decide) ?_
        obtain ⟨rfl, rfl⟩ := H53
        exact z_iret dX12_wordOf_58 rfl (by decide) (by decide)
    · have H54 := H7.2 q
      refine z_iconst (w := 2) dX12_wordOf_40 (by decide) ?_
      obtain ⟨rfl, rfl⟩ := H54
      exact z_iret dX12_wordOf_41 rfl (by decide) (by decide)
  · have H55 := H3.2 q
    refine z_iconst (w := 1) dX12_wordOf_15 (by decide) ?_
    obtain ⟨rfl, rfl⟩ := H55
    exact z_iret dX12_wordOf_16 rfl (by decide) (by decide)
theorem eX12_wordOf {g : zG} {I : Nat → Nat → Int32} {P : Nat → Nat → Option Nat} {r : Option Value} {h' : zH} {l0 : Int64} (H : Zt none mX12_wordOf 0 0 0 [(0, .long l0)] [] (g, I, P) r h') : Cl mX12_wordOf [.long l0] (g, I, P) r h' := Cl.of (by decide) (Nat.le_of_ble_eq_true rfl) H
theorem dX12_advance_0 : decode cX12_advance 0 = .ok (.aload_n 0, 1) := by decide +kernel
theorem dX12_advance_1 : decode cX12_advance 1 = .ok (.aload_n 0, 1) := by decide +kernel
theorem dX12_advance_2 : decode cX12_advance 2 = .ok (.getfield 79, 3) := by decide +kernel
theorem dX12_advance_5 : decode cX12_advance 5 = .ok (.invokevirtual 82, 3) := by decide +kernel
theorem dX12_advance_8 : decode cX12_advance 8 = .ok (.bipush 10, 2) := by decide +kernel
theorem dX12_advance_10 : decode cX12_advance 10 = .ok (.if_icmp .eq 16, 3) := by decide +kernel
theorem dX12_advance_13 : decode cX12_advance 13 = .ok (.aload_n 0, 1) := by decide +kernel
theorem dX12_advance_14 : decode cX12_advance 14 = .ok (.aload_n 0, 1) := by decide +kernel
theorem dX12_advance_15 : decode cX12_advance 15 = .ok (.getfield 79, 3) := by decide +kernel
theorem dX12_advance_18 : decode cX12_advance 18 = .ok (.invokevirtual 82, 3) := by decide +kernel
theorem dX12_advance_21 : decode cX12_advance 21 = .ok (.bipush 32, 2) := by decide +kernel
theorem dX12_advance_23 : decode cX12_advance 23 = .ok (.if_icmp .ne 16, 3) := by decide +kernel
theorem dX12_advance_26 : decode cX12_advance 26 = .ok (.aload_n 0, 1) := by decide +kernel
theorem dX12_advance_27 : decode cX12_advance 27 = .ok (.dup, 1) := by decide +kernel
theorem dX12_advance_28 : decode cX12_advance 28 = .ok (.getfield 79, 3) := by decide +kernel
theorem dX12_advance_31 : decode cX12_advance 31 = .ok (.iconst 1, 1) := by decide +kernel
theorem dX12_advance_32 : decode cX12_advance 32 = .ok (.iadd, 1) := by decide +kernel
theorem dX12_advance_33 : decode cX12_advance 33 = .ok (.putfield 79, 3) := by decide +kernel
theorem dX12_advance_36 : decode cX12_advance 36 = .ok (.goto (-36), 3) := by decide +kernel
theorem dX12_advance_39 : decode cX12_advance 39 = .ok (.aload_n 0, 1) := by decide +kernel
theorem dX12_advance_40 : decode cX12_advance 40 = .ok (.aload_n 0, 1) := by decide +kernel
theorem dX12_advance_41 : decode cX12_advance 41 = .ok (.getfield 79, 3) := by decide +kernel
theorem dX12_advance_44 : decode cX12_advance 44 = .ok (.putfield 86, 3) := by decide +kernel
theorem dX12_advance_47 : decode cX12_advance 47 = .ok (.aload_n 0, 1) := by decide +kernel
theorem dX12_advance_48 : decode cX12_advance 48 = .ok (.aload_n 0, 1) := by decide +kernel
theorem dX12_advance_49 : decode cX12_advance 49 = .ok (.getfield 79, 3) := by decide +kernel
theorem dX12_advance_52 : decode cX12_advance 52 = .ok (.invokevirtual 82, 3) := by decide +kernel
theorem dX12_advance_55 : decode cX12_advance 55 = .ok (.istore_n 1, 1) := by decide +kernel
theorem dX12_advance_56 : decode cX12_advance 56 = .ok (.iload_n 1, 1) := by decide +kernel
theorem dX12_advance_57 : decode cX12_advance 57 = .ok (.ifCond .ge 11, 3) := by decide +kernel
theorem dX12_advance_60 : decode cX12_advance 60 = .ok (.aload_n 0, 1) := by decide +kernel
theorem dX12_advance_61 : decode cX12_advance 61 = .ok (.iconst 0, 1) := by decide +kernel
theorem dX12_advance_62 : decode cX12_advance 62 = .ok (.putfield 89, 3) := by decide +kernel
theorem dX12_advance_65 : decode cX12_advance 65 = .ok (.goto 233, 3) := by decide +kernel
theorem dX12_advance_68 : decode cX12_advance 68 = .ok (.iload_n 1, 1) := by decide +kernel
theorem dX12_advance_69 : decode cX12_advance 69 = .ok (.invokestatic 92, 3) := by decide +kernel
theorem dX12_advance_72 : decode cX12_advance 72 = .ok (.ifCond .eq 101, 3) := by decide +kernel
theorem dX12_advance_75 : decode cX12_advance 75 = .ok (.lconst 0, 1) := by decide +kernel
theorem dX12_advance_76 : decode cX12_advance 76 = .ok (.lstore_n 2, 1) := by decide +kernel
theorem dX12_advance_77 : decode cX12_advance 77 = .ok (.aload_n 0, 1) := by decide +kernel
theorem dX12_advance_78 : decode cX12_advance 78 = .ok (.aload_n 0, 1) := by decide +kernel
theorem dX12_advance_79 : decode cX12_advance 79 = .ok (.getfield 79, 3) := by decide +kernel
theorem dX12_advance_82 : decode cX12_advance 82 = .ok (.invokevirtual 82, 3) := by decide +kernel
theorem dX12_advance_85 : decode cX12_advance 85 = .ok (.invokestatic 92, 3) := by decide +kernel
theorem dX12_advance_88 : decode cX12_advance 88 = .ok (.ifCond .eq 50, 3) := by decide +kernel
theorem dX12_advance_91 : decode cX12_advance 91 = .ok (.aload_n 0, 1) := by decide +kernel
theorem dX12_advance_92 : decode cX12_advance 92 = .ok (.getfield 79, 3) := by decide +kernel
theorem dX12_advance_95 : decode cX12_advance 95 = .ok (.aload_n 0, 1) := by decide +kernel
theorem dX12_advance_96 : decode cX12_advance 96 = .ok (.getfield 86, 3) := by decide +kernel
theorem dX12_advance_99 : decode cX12_advance 99 = .ok (.isub, 1) := by decide +kernel
theorem dX12_advance_100 : decode cX12_advance 100 = .ok (.bipush 8, 2) := by decide +kernel
theorem dX12_advance_102 : decode cX12_advance 102 = .ok (.if_icmp .ge 23, 3) := by decide +kernel
theorem dX12_advance_105 : decode cX12_advance 105 = .ok (.ldc2_w 96, 3) := by decide +kernel
theorem dX12_advance_108 : decode cX12_advance 108 = .ok (.lload_n 2, 1) := by decide +kernel
theorem dX12_advance_109 : decode cX12_advance 109 = .ok (.lmul, 1) := by decide +kernel
theorem dX12_advance_110 : decode cX12_advance 110 = .ok (.aload_n 0, 1) := by decide +kernel
theorem dX12_advance_111 : decode cX12_advance 111 = .ok (.aload_n 0, 1) := by decide +kernel
theorem dX12_advance_112 : decode cX12_advance 112 = .ok (.getfield 79, 3) := by decide +kernel
theorem dX12_advance_115 : decode cX12_advance 115 = .ok (.invokevirtual 82, 3) := by decide +kernel
theorem dX12_advance_118 : decode cX12_advance 118 = .ok (.i2l, 1) := by decide +kernel
theorem dX12_advance_119 : decode cX12_advance 119 = .ok (.ladd, 1) := by decide +kernel
theorem dX12_advance_120 : decode cX12_advance 120 = .ok (.ldc2_w 98, 3) := by decide +kernel
theorem dX12_advance_123 : decode cX12_advance 123 = .ok (.lsub, 1) := by decide +kernel
theorem dX12_advance_124 : decode cX12_advance 124 = .ok (.lstore_n 2, 1) := by decide +kernel
theorem dX12_advance_125 : decode cX12_advance 125 = .ok (.aload_n 0, 1) := by decide +kernel
theorem dX12_advance_126 : decode cX12_advance 126 = .ok (.dup, 1) := by decide +kernel
theorem dX12_advance_127 : decode cX12_advance 127 = .ok (.getfield 79, 3) := by decide +kernel
theorem dX12_advance_130 : decode cX12_advance 130 = .ok (.iconst 1, 1) := by decide +kernel
theorem dX12_advance_131 : decode cX12_advance 131 = .ok (.iadd, 1) := by decide +kernel
theorem dX12_advance_132 : decode cX12_advance 132 = .ok (.putfield 79, 3) := by decide +kernel
theorem dX12_advance_135 : decode cX12_advance 135 = .ok (.goto (-58), 3) := by decide +kernel
theorem dX12_advance_138 : decode cX12_advance 138 = .ok (.aload_n 0, 1) := by decide +kernel
theorem dX12_advance_139 : decode cX12_advance 139 = .ok (.aload_n 0, 1) := by decide +kernel
theorem dX12_advance_140 : decode cX12_advance 140 = .ok (.getfield 79, 3) := by decide +kernel
theorem dX12_advance_143 : decode cX12_advance 143 = .ok (.aload_n 0, 1) := by decide +kernel
theorem dX12_advance_144 : decode cX12_advance 144 = .ok (.getfield 86, 3) := by decide +kernel
theorem dX12_advance_147 : decode cX12_advance 147 = .ok (.isub, 1) := by decide +kernel
theorem dX12_advance_148 : decode cX12_advance 148 = .ok (.bipush 8, 2) := by decide +kernel
theorem dX12_advance_150 : decode cX12_advance 150 = .ok (.if_icmp .le 8, 3) := by decide +kernel
theorem dX12_advance_153 : decode cX12_advance 153 = .ok (.bipush 99, 2) := by decide +kernel
theorem dX12_advance_155 : decode cX12_advance 155 = .ok (.goto 7, 3) := by decide +kernel
theorem dX12_advance_158 : decode cX12_advance 158 = .ok (.lload_n 2, 1) := by decide +kernel
theorem dX12_advance_159 : decode cX12_advance 159 = .ok (.invokestatic 100, 3) := by decide +kernel
theorem dX12_advance_162 : decode cX12_advance 162 = .ok (.putfield 104, 3) := by decide +kernel
theorem dX12_advance_165 : decode cX12_advance 165 = .ok (.aload_n 0, 1) := by decide +kernel
theorem dX12_advance_166 : decode cX12_advance 166 = .ok (.iconst 3, 1) := by decide +kernel
theorem dX12_advance_167 : decode cX12_advance 167 = .ok (.putfield 89, 3) := by decide +kernel
theorem dX12_advance_170 : decode cX12_advance 170 = .ok (.goto 128, 3) := by decide +kernel
theorem dX12_advance_173 : decode cX12_advance 173 = .ok (.iload_n 1, 1) := by decide +kernel
theorem dX12_advance_174 : decode cX12_advance 174 = .ok (.invokestatic 107, 3) := by decide +kernel
theorem dX12_advance_177 : decode cX12_advance 177 = .ok (.ifCond .eq 96, 3) := by decide +kernel
theorem dX12_advance_180 : decode cX12_advance 180 = .ok (.aload_n 0, 1) := by decide +kernel
theorem dX12_advance_181 : decode cX12_advance 181 = .ok (.iconst 0, 1) := by decide +kernel
theorem dX12_advance_182 : decode cX12_advance 182 = .ok (.putfield 110, 3) := by decide +kernel
theorem dX12_advance_185 : decode cX12_advance 185 = .ok (.aload_n 0, 1) := by decide +kernel
theorem dX12_advance_186 : decode cX12_advance 186 = .ok (.aload_n 0, 1) := by decide +kernel
theorem dX12_advance_187 : decode cX12_advance 187 = .ok (.getfield 79, 3) := by decide +kernel
theorem dX12_advance_190 : decode cX12_advance 190 = .ok (.invokevirtual 82, 3) := by decide +kernel
theorem dX12_advance_193 : decode cX12_advance 193 = .ok (.invokestatic 107, 3) := by decide +kernel
theorem dX12_advance_196 : decode cX12_advance 196 = .ok (.ifCond .eq 52, 3) := by decide +kernel
theorem dX12_advance_199 : decode cX12_advance 199 = .ok (.aload_n 0, 1) := by decide +kernel
theorem dX12_advance_200 : decode cX12_advance 200 = .ok (.getfield 79, 3) := by decide +kernel
theorem dX12_advance_203 : decode cX12_advance 203 = .ok (.aload_n 0, 1) := by decide +kernel
theorem dX12_advance_204 : decode cX12_advance 204 = .ok (.getfield 86, 3) := by decide +kernel
theorem dX12_advance_207 : decode cX12_advance 207 = .ok (.isub, 1) := by decide +kernel
theorem dX12_advance_208 : decode cX12_advance 208 = .ok (.iconst 2, 1) := by decide +kernel
theorem dX12_advance_209 : decode cX12_advance 209 = .ok (.if_icmp .ge 26, 3) := by decide +kernel
theorem dX12_advance_212 : decode cX12_advance 212 = .ok (.aload_n 0, 1) := by decide +kernel
theorem dX12_advance_213 : decode cX12_advance 213 = .ok (.bipush 10, 2) := by decide +kernel
theorem dX12_advance_215 : decode cX12_advance 215 = .ok (.aload_n 0, 1) := by decide +kernel
theorem dX12_advance_216 : decode cX12_advance 216 = .ok (.getfield 110, 3) := by decide +kernel
theorem dX12_advance_219 : decode cX12_advance 219 = .ok (.imul, 1) := by decide +kernel
theorem dX12_advance_220 : decode cX12_advance 220 = .ok (.aload_n 0, 1) := by decide +kernel
theorem dX12_advance_221 : decode cX12_advance 221 = .ok (.aload_n 0, 1) := by decide +kernel
theorem dX12_advance_222 : decode cX12_advance 222 = .ok (.getfield 79, 3) := by decide +kernel
theorem dX12_advance_225 : decode cX12_advance 225 = .ok (.invokevirtual 82, 3) := by decide +kernel
theorem dX12_advance_228 : decode cX12_advance 228 = .ok (.iadd, 1) := by decide +kernel
theorem dX12_advance_229 : decode cX12_advance 229 = .ok (.bipush 48, 2) := by decide +kernel
theorem dX12_advance_231 : decode cX12_advance 231 = .ok (.isub, 1) := by decide +kernel
theorem dX12_advance_232 : decode cX12_advance 232 = .ok (.putfield 110, 3) := by decide +kernel
theorem dX12_advance_235 : decode cX12_advance 235 = .ok (.aload_n 0, 1) := by decide +kernel
theorem dX12_advance_236 : decode cX12_advance 236 = .ok (.dup, 1) := by decide +kernel
theorem dX12_advance_237 : decode cX12_advance 237 = .ok (.getfield 79, 3) := by decide +kernel
theorem dX12_advance_240 : decode cX12_advance 240 = .ok (.iconst 1, 1) := by decide +kernel
theorem dX12_advance_241 : decode cX12_advance 241 = .ok (.iadd, 1) := by decide +kernel
theorem dX12_advance_242 : decode cX12_advance 242 = .ok (.putfield 79, 3) := by decide +kernel
theorem dX12_advance_245 : decode cX12_advance 245 = .ok (.goto (-60), 3) := by decide +kernel
theorem dX12_advance_248 : decode cX12_advance 248 = .ok (.aload_n 0, 1) := by decide +kernel
theorem dX12_advance_249 : decode cX12_advance 249 = .ok (.aload_n 0, 1) := by decide +kernel
theorem dX12_advance_250 : decode cX12_advance 250 = .ok (.getfield 79, 3) := by decide +kernel
theorem dX12_advance_253 : decode cX12_advance 253 = .ok (.aload_n 0, 1) := by decide +kernel
theorem dX12_advance_254 : decode cX12_advance 254 = .ok (.getfield 86, 3) := by decide +kernel
theorem dX12_advance_257 : decode cX12_advance 257 = .ok (.isub, 1) := by decide +kernel
theorem dX12_advance_258 : decode cX12_advance 258 = .ok (.iconst 2, 1) := by decide +kernel
theorem dX12_advance_259 : decode cX12_advance 259 = .ok (.if_icmp .le 7, 3) := by decide +kernel
theorem dX12_advance_262 : decode cX12_advance 262 = .ok (.iconst 4, 1) := by decide +kernel
theorem dX12_advance_263 : decode cX12_advance 263 = .ok (.goto 4, 3) := by decide +kernel
theorem dX12_advance_266 : decode cX12_advance 266 = .ok (.iconst 1, 1) := by decide +kernel
theorem dX12_advance_267 : decode cX12_advance 267 = .ok (.putfield 89, 3) := by decide +kernel
theorem dX12_advance_270 : decode cX12_advance 270 = .ok (.goto 28, 3) := by decide +kernel
theorem dX12_advance_273 : decode cX12_advance 273 = .ok (.aload_n 0, 1) := by decide +kernel
theorem dX12_advance_274 : decode cX12_advance 274 = .ok (.dup, 1) := by decide +kernel
theorem dX12_advance_275 : decode cX12_advance 275 = .ok (.getfield 79, 3) := by decide +kernel
theorem dX12_advance_278 : decode cX12_advance 278 = .ok (.iconst 1, 1) := by decide +kernel
theorem dX12_advance_279 : decode cX12_advance 279 = .ok (.iadd, 1) := by decide +kernel
theorem dX12_advance_280 : decode cX12_advance 280 = .ok (.putfield 79, 3) := by decide +kernel
theorem dX12_advance_283 : decode cX12_advance 283 = .ok (.aload_n 0, 1) := by decide +kernel
theorem dX12_advance_284 : decode cX12_advance 284 = .ok (.iload_n 1, 1) := by decide +kernel
theorem dX12_advance_285 : decode cX12_advance 285 = .ok (.bipush 59, 2) := by decide +kernel
theorem dX12_advance_287 : decode cX12_advance 287 = .ok (.if_icmp .ne 7, 3) := by decide +kernel
theorem dX12_advance_290 : decode cX12_advance 290 = .ok (.iconst 2, 1) := by decide +kernel
theorem dX12_advance_291 : decode cX12_advance 291 = .ok (.goto 4, 3) := by decide +kernel
theorem dX12_advance_294 : decode cX12_advance 294 = .ok (.iconst 4, 1) := by decide +kernel
theorem dX12_advance_295 : decode cX12_advance 295 = .ok (.putfield 89, 3) := by decide +kernel
theorem dX12_advance_298 : decode cX12_advance 298 = .ok (.return_, 1) := by decide +kernel
set_option maxRecDepth 10000 in
theorem wX12_advance_0 {g : zG} {I : Nat → Nat → Int32} {P : Nat → Nat → Option Nat} {r : Option Value} {h' : zH} {a0 : Nat} (H : zk g a0 12 ∧ zk g a0 12 ∧ ∃ (w1 : Int32), Cl mX12_byteAt [.ref a0, .int (I a0 3)] (g, I, P) (some (.int w1)) (g, I, P) ∧ ((w1 = 10) → zk g a0 12 ∧ zk g a0 12 ∧ Zt none mX12_advance 0 0 0 [(0, .ref a0)] [] (g, zU I a0 3 ((I a0 3) + 1), P) r h') ∧ ((¬ w1 = 10) → zk g a0 12 ∧ zk g a0 12 ∧ ∃ (w6 : Int32), Cl mX12_byteAt [.ref a0, .int (I a0 3)] (g, I, P) (some (.int w6)) (g, I, P) ∧ ((¬ w6 = 32) → zk g a0 12 ∧ zk g a0 12 ∧ zk g a0 12 ∧ zk g a0 12 ∧ ∃ (w10 : Int32), Cl mX12_byteAt [.ref a0, .int ((zU I a0 4 (I a0 3)) a0 3)] (g, zU I a0 4 (I a0 3), P) (some (.int w10)) (g, zU I a0 4 (I a0 3), P) ∧ ((0 ≤ w10) → ∃ (w14 : Int32), Cl mX12_isLetter [.int w10] (g, zU I a0 4 (I a0 3), P) (some (.int w14)) (g, zU I a0 4 (I a0 3), P) ∧ ((w14 = 0) → ∃ (w18 : Int32), Cl mX12_isDigit [.int w10] (g, zU I a0 4 (I a0 3), P) (some (.int w18)) (g, zU I a0 4 (I a0 3), P) ∧ ((w18 = 0) → zk g a0 12 ∧ zk g a0 12 ∧ ((¬ w10 = 59) → zk g a0 12 ∧ r = none ∧ h' = (g, zU (zU (zU I a0 4 (I a0 3)) a0 3 (((zU I a0 4 (I a0 3)) a0 3) + 1)) a0 5 4, P)) ∧ ((w10 = 59) → zk g a0 12 ∧ r = none ∧ h' = (g, zU (zU (zU I a0 4 (I a0 3)) a0 3 (((zU I a0 4 (I a0 3)) a0 3) + 1)) a0 5 2, P))) ∧ ((¬ w18 = 0) → zk g a0 12 ∧ Zt none mX12_advance 0 0 185 [(0, .ref a0)] [] (g, zU (zU I a0 4 (I a0 3)) a0 6 0, P) r h')) ∧ ((¬ w14 = 0) → Zt none mX12_advance 0 0 77 [(0, .ref a0), (2, .long 0)] [] (g, zU I a0 4 (I a0 3), P) r h')) ∧ ((¬ 0 ≤ w10) → zk g a0 12 ∧ r = none ∧ h' = (g, zU (zU I a0 4 (I a0 3)) a0 5 0, P))) ∧ ((w6 = 32) → zk g a0 12 ∧ zk g a0 12 ∧ Zt none mX12_advance 0 0 0 [(0, .ref a0)] [] (g, zU I a0 3 ((I a0 3) + 1), P) r h'))) : Zt none mX12_advance 0 0 0 [(0, .ref a0)] [] (g, I, P) r h' := by
  refine z_aload_n 0 dX12_advance_0 rfl rfl (z_aload_n 0 dX12_advance_1 rfl rfl (z_getI dX12_advance_2 wf_X12_79 (by decide) (by decide) rfl H.1 ?_))
  obtain ⟨oc2, w1, c2, H3⟩ := H.2
  refine z_virt (As := [.int (I a0 3)]) (st := []) (r1 := (some (.int w1))) (h1 := (g, I, P)) dX12_advance_5 kX12_byteAt wm_X12_82 ⟨by decide, by decide⟩ rfl rfl (Nat.le_of_ble_eq_true rfl) (by decide) (by decide) oc2 c2 ?_
  refine z_bipush (w := 10) dX12_advance_8 (by decide) ?_
  refine z_icmp_eq (t := 26) dX12_advance_10 (by decide) (fun q => ?_) (fun q => ?_)
  · have H4 := H3.1 q
    refine z_aload_n 0 dX12_advance_26 rfl rfl (z_dup dX12_advance_27 rfl (z_getI dX12_advance_28 wf_X12_79 (by decide) (by decide) rfl H4.1 (z_iconst (w := 1) dX12_advance_31 (by decide) (z_iadd dX12_advance_32 (z_putI (g := g) (I := I) (Q := P) dX12_advance_33 wf_X12_79 (by decide) (by decide) rfl (Or.inl rfl) (zfit_int rfl) H4.2.1 (z_goto (t := 0) dX12_advance_36 (by decide) ?_))))))
    exact z_less [0] rfl H4.2.2
  · have H5 := H3.2 q
    refine z_aload_n 0 dX12_advance_13 rfl rfl (z_aload_n 0 dX12_advance_14 rfl rfl (z_getI dX12_advance_15 wf_X12_79 (by decide) (by decide) rfl H5.1 ?_))
    obtain ⟨oc7, w6, c7, H8⟩ := H5.2
    refine z_virt (As := [.int (I a0 3)]) (st := []) (r1 := (some (.int w6))) (h1 := (g, I, P)) dX12_advance_18 kX12_byteAt wm_X12_82 ⟨by decide, by decide⟩ rfl rfl (Nat.le_of_ble_eq_true rfl) (by decide) (by decide) oc7 c7 ?_
    refine z_bipush (w := 32) dX12_advance_21 (by decide) ?_
    refine z_icmp_ne (t := 39) dX12_advance_23 (by decide) (fun q => ?_) (fun q => ?_)
    · have H9 := H8.1 q
      refine z_aload_n 0 dX12_advance_39 rfl rfl (z_aload_n 0 dX12_advance_40 rfl rfl (z_getI dX12_advance_41 wf_X12_79 (by decide) (by decide) rfl H9.1 (z_putI (g := g) (I := I) (Q := P) dX12_advance_44 wf_X12_86 (by decide) (by decide) rfl (Or.inl rfl) (zfit_int rfl) H9.2.1 (z_aload_n 0 dX12_advance_47 rfl rfl (z_aload_n 0 dX12_advance_48 rfl rfl (z_getI dX12_advance_49 wf_X12_79 (by decide) (by decide) rfl H9.2.2.1 ?_))))))
      obtain ⟨oc11, w10, c11, H12⟩ := H9.2.2.2
      refine z_virt (As := [.int ((zU I a0 4 (I a0 3)) a0 3)]) (st := []) (r1 := (some (.int w10))) (h1 := (g, zU I a0 4 (I a0 3), P)) dX12_advance_52 kX12_byteAt wm_X12_82 ⟨by decide, by decide⟩ rfl rfl (Nat.le_of_ble_eq_true rfl) (by decide) (by decide) oc11 c11 ?_
      refine z_istore_n (lv' := [(1, .int w10), (0, .ref a0)]) dX12_advance_55 (by decide) rfl (z_iload_n 0 dX12_advance_56 rfl ?_)
      refine z_if_ge (t := 68) dX12_advance_57 (by decide) (fun q => ?_) (fun q => ?_)
      · have H13 := H12.1 q
        refine z_iload_n 0 dX12_advance_68 rfl ?_
        obtain ⟨w14, c15, H16⟩ := H13
        refine z_stat (As := [.int w10]) (st := []) (r1 := (some (.int w14))) (h1 := (g, zU I a0 4 (I a0 3), P)) dX12_advance_69 kX12_isLetter wm_X12_92 ⟨by decide, by decide⟩ rfl rfl (Nat.le_of_ble_eq_true rfl) (by decide) (by decide) c15 ?_
        refine z_if_eq (t := 173) dX12_advance_72 (by decide) (fun q => ?_) (fun q => ?_)
        · have H17 := H16.1 q
          refine z_iload_n 0 dX12_advance_173 rfl ?_
          obtain ⟨w18, c19, H20⟩ := H17
          refine z_stat (As := [.int w10]) (st := []) (r1 := (some (.int w18))) (h1 := (g, zU I a0 4 (I a0 3), P)) dX12_advance_174 kX12_isDigit wm_X12_107 ⟨by decide, by decide⟩ rfl rfl (Nat.le_of_ble_eq_true rfl) (by decide) (by decide) c19 ?_
          refine z_if_eq (t := 273) dX12_advance_177 (by decide) (fun q => ?_) (fun q => ?_)
          · have H21 := H20.1 q
            refine z_aload_n 1 dX12_advance_273 rfl rfl (z_dup dX12_advance_274 rfl (z_getI dX12_advance_275 wf_X12_79 (by decide) (by decide) rfl H21.1 (z_iconst (w := 1) dX12_advance_278 (by decide) (z_iadd dX12_advance_279 (z_putI (g := g) (I := zU I a0 4 (I a0 3)) (Q := P) dX12_advance_280 wf_X12_79 (by decide) (by decide) rfl (Or.inl rfl) (zfit_int rfl) H21.2.1 (z_aload_n 1 dX12_advance_283 rfl rfl (z_iload_n 0 dX12_advance_284 rfl (z_bipush (w := 59) dX12_advance_285 (by decide) ?_))))))))
            refine z_icmp_ne (t := 294) dX12_advance_287 (by decide) (fun q => ?_) (fun q => ?_)
            · have H22 := H21.2.2.1 q
              refine z_iconst (w := 4) dX12_advance_294 (by decide) (z_putI (g := g) (I := zU (zU I a0 4 (I a0 3)) a0 3 (((zU I a0 4 (I a0 3)) a0 3) + 1)) (Q := P) dX12_advance_295 wf_X12_89 (by decide) (by decide) rfl (Or.inl rfl) (zfit_int rfl) H22.1 ?_)
              obtain ⟨rfl, rfl⟩ := H22.2
              exact z_vret dX12_advance_298 rfl (by decide) (by decide)
            · have H23 := H21.2.2.2 q
              refine z_iconst (w := 2) dX12_advance_290 (by decide) (z_goto (t := 295) dX12_advance_291 (by decide) (z_putI (g := g) (I := zU (zU I a0 4 (I a0 3)) a0 3 (((zU I a0 4 (I a0 3)) a0 3) + 1)) (Q := P) dX12_advance_295 wf_X12_89 (by decide) (by decide) rfl (Or.inl rfl) (zfit_int rfl) H23.1 ?_))
              obtain ⟨rfl, rfl⟩ := H23.2
              exact z_vret dX12_advance_298 rfl (by decide) (by decide)
          · have H24 := H20.2 q
            refine z_aload_n 1 dX12_advance_180 rfl rfl (z_iconst (w := 0) dX12_advance_181 (by decide) (z_putI (g := g) (I := zU I a0 4 (I a0 3)) (Q := P) dX12_advance_182 wf_X12_110 (by decide) (by decide) rfl (Or.inl rfl) (zfit_int rfl) H24.1 ?_))
            exact z_less [1] rfl H24.2
        · have H25 := H16.2 q
          refine z_lconst (w := 0) dX12_advance_75 (by decide) (z_lstore_n (lv' := [(2, .long 0), (1, .int w10), (0, .ref a0)]) dX12_advance_76 (by decide) rfl ?_)
          exact z_less [2, 0] rfl H25
      · have H26 := H12.2 q
        refine z_aload_n 1 dX12_advance_60 rfl rfl (z_iconst (w := 0) dX12_advance_61 (by decide) (z_putI (g := g) (I := zU I a0 4 (I a0 3)) (Q := P) dX12_advance_62 wf_X12_89 (by decide) (by decide) rfl (Or.inl rfl) (zfit_int rfl) H26.1 (z_goto (t := 298) dX12_advance_65 (by decide) ?_)))
        obtain ⟨rfl, rfl⟩ := H26.2
        exact z_vret dX12_advance_298 rfl (by decide) (by decide)
    · have H27 := H8.2 q
      refine z_aload_n 0 dX12_advance_26 rfl rfl (z_dup dX12_advance_27 rfl (z_getI dX12_advance_28 wf_X12_79 (by decide) (by decide) rfl H27.1 (z_iconst (w := 1) dX12_advance_31 (by decide) (z_iadd dX12_advance_32 (z_putI (g := g) (I := I) (Q := P) dX12_advance_33 wf_X12_79 (by decide) (by decide) rfl (Or.inl rfl) (zfit_int rfl) H27.2.1 (z_goto (t := 0) dX12_advance_36 (by decide) ?_))))))
      exact z_less [0] rfl H27.2.2
theorem eX12_advance {g : zG} {I : Nat → Nat → Int32} {P : Nat → Nat → Option Nat} {r : Option Value} {h' : zH} {a0 : Nat} (H : Zt none mX12_advance 0 0 0 [(0, .ref a0)] [] (g, I, P) r h') : Cl mX12_advance [.ref a0] (g, I, P) r h' := Cl.of (by decide) (Nat.le_of_ble_eq_true rfl) H
set_option maxRecDepth 10000 in
theorem wX12_advance_77 {g : zG} {I : Nat → Nat → Int32} {P : Nat → Nat → Option Nat} {r : Option Value} {h' : zH} {a0 : Nat} {l2 : Int64} (H : zk g a0 12 ∧ zk g a0 12 ∧ ∃ (w1 : Int32), Cl mX12_byteAt [.ref a0, .int (I a0 3)] (g, I, P) (some (.int w1)) (g, I, P) ∧ ∃ (w4 : Int32), Cl mX12_isLetter [.int w1] (g, I, P) (some (.int w4)) (g, I, P) ∧ ((w4 = 0) → zk g a0 12 ∧ zk g a0 12 ∧ (((I a0 3) - (I a0 4) ≤ 8) → ∃ (w9 : Int32), Cl mX12_wordOf [.long l2] (g, I, P) (some (.int w9)) (g, I, P) ∧ zk g a0 12 ∧ zk g a0 12 ∧ r = none ∧ h' = (g, zU (zU I a0 7 w9) a0 5 3, P)) ∧ ((¬ (I a0 3) - (I a0 4) ≤ 8) → zk g a0 12 ∧ zk g a0 12 ∧ r = none ∧ h' = (g, zU (zU I a0 7 99) a0 5 3, P))) ∧ ((¬ w4 = 0) → zk g a0 12 ∧ zk g a0 12 ∧ ((8 ≤ (I a0 3) - (I a0 4)) → zk g a0 12 ∧ zk g a0 12 ∧ Zt none mX12_advance 0 0 77 [(0, .ref a0), (2, .long l2)] [] (g, zU I a0 3 ((I a0 3) + 1), P) r h') ∧ ((¬ 8 ≤ (I a0 3) - (I a0 4)) → zk g a0 12 ∧ zk g a0 12 ∧ ∃ (w16 : Int32), Cl mX12_byteAt [.ref a0, .int (I a0 3)] (g, I, P) (some (.int w16)) (g, I, P) ∧ zk g a0 12 ∧ zk g a0 12 ∧ Zt none mX12_advance 0 0 77 [(0, .ref a0), (2, .long (((32 * l2) + w16.toInt64) - 96))] [] (g, zU I a0 3 ((I a0 3) + 1), P) r h'))) : Zt none mX12_advance 0 0 77 [(0, .ref a0), (2, .long l2)] [] (g, I, P) r h' := by
  refine z_aload_n 0 dX12_advance_77 rfl rfl (z_aload_n 0 dX12_advance_78 rfl rfl (z_getI dX12_advance_79 wf_X12_79 (by decide) (by decide) rfl H.1 ?_))
  obtain ⟨oc2, w1, c2, H3⟩ := H.2
  refine z_virt (As := [.int (I a0 3)]) (st := []) (r1 := (some (.int w1))) (h1 := (g, I, P)) dX12_advance_82 kX12_byteAt wm_X12_82 ⟨by decide, by decide⟩ rfl rfl (Nat.le_of_ble_eq_true rfl) (by decide) (by decide) oc2 c2 ?_
  obtain ⟨w4, c5, H6⟩ := H3
  refine z_stat (As := [.int w1]) (st := []) (r1 := (some (.int w4))) (h1 := (g, I, P)) dX12_advance_85 kX12_isLetter wm_X12_92 ⟨by decide, by decide⟩ rfl rfl (Nat.le_of_ble_eq_true rfl) (by decide) (by decide) c5 ?_
  refine z_if_eq (t := 138) dX12_advance_88 (by decide) (fun q => ?_) (fun q => ?_)
  · have H7 := H6.1 q
    refine z_aload_n 0 dX12_advance_138 rfl rfl (z_aload_n 0 dX12_advance_139 rfl rfl (z_getI dX12_advance_140 wf_X12_79 (by decide) (by decide) rfl H7.1 (z_aload_n 0 dX12_advance_143 rfl rfl (z_getI dX12_advance_144 wf_X12_86 (by decide) (by decide) rfl H7.2.1 (z_isub dX12_advance_147 (z_bipush (w := 8) dX12_advance_148 (by decide) ?_))))))
    refine z_icmp_le (t := 158) dX12_advance_150 (by decide) (fun q => ?_) (fun q => ?_)
    · have H8 := H7.2.2.1 q
      refine z_lload_n 1 dX12_advance_158 rfl ?_
      obtain ⟨w9, c10, H11⟩ := H8
      refine z_stat (As := [.long l2]) (st := [.ref a0]) (r1 := (some (.int w9))) (h1 := (g, I, P)) dX12_advance_159 kX12_wordOf wm_X12_100 ⟨by decide, by decide⟩ rfl rfl (Nat.le_of_ble_eq_true rfl) (by decide) (by decide) c10 ?_
      refine z_putI (g := g) (I := I) (Q := P) dX12_advance_162 wf_X12_104 (by decide) (by decide) rfl (Or.inl rfl) (zfit_int rfl) H11.1 (z_aload_n 0 dX12_advance_165 rfl rfl (z_iconst (w := 3) dX12_advance_166 (by decide) (z_putI (g := g) (I := zU I a0 7 w9) (Q := P) dX12_advance_167 wf_X12_89 (by decide) (by decide) rfl (Or.inl rfl) (zfit_int rfl) H11.2.1 (z_goto (t := 298) dX12_advance_170 (by decide) ?_))))
      obtain ⟨rfl, rfl⟩ := H11.2.2
      exact z_vret dX12_advance_298 rfl (by decide) (by decide)
    · have H12 := H7.2.2.2 q
      refine z_bipush (w := 99) dX12_advance_153 (by decide) (z_goto (t := 162) dX12_advance_155 (by decide) (z_putI (g := g) (I := I) (Q := P) dX12_advance_162 wf_X12_104 (by decide) (by decide) rfl (Or.inl rfl) (zfit_int rfl) H12.1 (z_aload_n 0 dX12_advance_165 rfl rfl (z_iconst (w := 3) dX12_advance_166 (by decide) (z_putI (g := g) (I := zU I a0 7 99) (Q := P) dX12_advance_167 wf_X12_89 (by decide) (by decide) rfl (Or.inl rfl) (zfit_int rfl) H12.2.1 (z_goto (t := 298) dX12_advance_170 (by decide) ?_))))))
      obtain ⟨rfl, rfl⟩ := H12.2.2
      exact z_vret dX12_advance_298 rfl (by decide) (by decide)
  · have H13 := H6.2 q
    refine z_aload_n 0 dX12_advance_91 rfl rfl (z_getI dX12_advance_92 wf_X12_79 (by decide) (by decide) rfl H13.1 (z_aload_n 0 dX12_advance_95 rfl rfl (z_getI dX12_advance_96 wf_X12_86 (by decide) (by decide) rfl H13.2.1 (z_isub dX12_advance_99 (z_bipush (w := 8) dX12_advance_100 (by decide) ?_)))))
    refine z_icmp_ge (t := 125) dX12_advance_102 (by decide) (fun q => ?_) (fun q => ?_)
    · have H14 := H13.2.2.1 q
      refine z_aload_n 0 dX12_advance_125 rfl rfl (z_dup dX12_advance_126 rfl (z_getI dX12_advance_127 wf_X12_79 (by decide) (by decide) rfl H14.1 (z_iconst (w := 1) dX12_advance_130 (by decide) (z_iadd dX12_advance_131 (z_putI (g := g) (I := I) (Q := P) dX12_advance_132 wf_X12_79 (by decide) (by decide) rfl (Or.inl rfl) (zfit_int rfl) H14.2.1 (z_goto (t := 77) dX12_advance_135 (by decide) ?_))))))
      exact z_less [0, 1] rfl H14.2.2
    · have H15 := H13.2.2.2 q
      refine z_ldc2 dX12_advance_105 wk_X12_96 (z_lload_n 1 dX12_advance_108 rfl (z_lmul dX12_advance_109 (z_aload_n 0 dX12_advance_110 rfl rfl (z_aload_n 0 dX12_advance_111 rfl rfl (z_getI dX12_advance_112 wf_X12_79 (by decide) (by decide) rfl H15.1 ?_)))))
      obtain ⟨oc17, w16, c17, H18⟩ := H15.2
      refine z_virt (As := [.int (I a0 3)]) (st := [.long (32 * l2)]) (r1 := (some (.int w16))) (h1 := (g, I, P)) dX12_advance_115 kX12_byteAt wm_X12_82 ⟨by decide, by decide⟩ rfl rfl (Nat.le_of_ble_eq_true rfl) (by decide) (by decide) oc17 c17 ?_
      refine z_i2l dX12_advance_118 (z_ladd dX12_advance_119 (z_ldc2 dX12_advance_120 wk_X12_98 (z_lsub dX12_advance_123 (z_lstore_n (lv' := [(2, .long (((32 * l2) + w16.toInt64) - 96)), (0, .ref a0)]) dX12_advance_124 (by decide) rfl (z_aload_n 1 dX12_advance_125 rfl rfl (z_dup dX12_advance_126 rfl (z_getI dX12_advance_127 wf_X12_79 (by decide) (by decide) rfl H18.1 (z_iconst (w := 1) dX12_advance_130 (by decide) (z_iadd dX12_advance_131 (z_putI (g := g) (I := I) (Q := P) dX12_advance_132 wf_X12_79 (by decide) (by decide) rfl (Or.inl rfl) (zfit_int rfl) H18.2.1 (z_goto (t := 77) dX12_advance_135 (by decide) ?_)))))))))))
      exact z_less [1, 0] rfl H18.2.2
set_option maxRecDepth 10000 in
theorem wX12_advance_185 {g : zG} {I : Nat → Nat → Int32} {P : Nat → Nat → Option Nat} {r : Option Value} {h' : zH} {a0 : Nat} (H : zk g a0 12 ∧ zk g a0 12 ∧ ∃ (w1 : Int32), Cl mX12_byteAt [.ref a0, .int (I a0 3)] (g, I, P) (some (.int w1)) (g, I, P) ∧ ∃ (w4 : Int32), Cl mX12_isDigit [.int w1] (g, I, P) (some (.int w4)) (g, I, P) ∧ ((w4 = 0) → zk g a0 12 ∧ zk g a0 12 ∧ (((I a0 3) - (I a0 4) ≤ 2) → zk g a0 12 ∧ r = none ∧ h' = (g, zU I a0 5 1, P)) ∧ ((¬ (I a0 3) - (I a0 4) ≤ 2) → zk g a0 12 ∧ r = none ∧ h' = (g, zU I a0 5 4, P))) ∧ ((¬ w4 = 0) → zk g a0 12 ∧ zk g a0 12 ∧ ((2 ≤ (I a0 3) - (I a0 4)) → zk g a0 12 ∧ zk g a0 12 ∧ Zt none mX12_advance 0 0 185 [(0, .ref a0)] [] (g, zU I a0 3 ((I a0 3) + 1), P) r h') ∧ ((¬ 2 ≤ (I a0 3) - (I a0 4)) → zk g a0 12 ∧ zk g a0 12 ∧ zk g a0 12 ∧ ∃ (w13 : Int32), Cl mX12_byteAt [.ref a0, .int (I a0 3)] (g, I, P) (some (.int w13)) (g, I, P) ∧ zk g a0 12 ∧ zk g a0 12 ∧ zk g a0 12 ∧ Zt none mX12_advance 0 0 185 [(0, .ref a0)] [] (g, zU (zU I a0 6 (((10 * (I a0 6)) + w13) - 48)) a0 3 (((zU I a0 6 (((10 * (I a0 6)) + w13) - 48)) a0 3) + 1), P) r h'))) : Zt none mX12_advance 0 0 185 [(0, .ref a0)] [] (g, I, P) r h' := by
  refine z_aload_n 0 dX12_advance_185 rfl rfl (z_aload_n 0 dX12_advance_186 rfl rfl (z_getI dX12_advance_187 wf_X12_79 (by decide) (by decide) rfl H.1 ?_))
  obtain ⟨oc2, w1, c2, H3⟩ := H.2
  refine z_virt (As := [.int (I a0 3)]) (st := []) (r1 := (some (.int w1))) (h1 := (g, I, P)) dX12_advance_190 kX12_byteAt wm_X12_82 ⟨by decide, by decide⟩ rfl rfl (Nat.le_of_ble_eq_true rfl) (by decide) (by decide) oc2 c2 ?_
  obtain ⟨w4, c5, H6⟩ := H3
  refine z_stat (As := [.int w1]) (st := []) (r1 := (some (.int w4))) (h1 := (g, I, P)) dX12_advance_193 kX12_isDigit wm_X12_107 ⟨by decide, by decide⟩ rfl rfl (Nat.le_of_ble_eq_true rfl) (by decide) (by decide) c5 ?_
  refine z_if_eq (t := 248) dX12_advance_196 (by decide) (fun q => ?_) (fun q => ?_)
  · have H7 := H6.1 q
    refine z_aload_n 0 dX12_advance_248 rfl rfl (z_aload_n 0 dX12_advance_249 rfl rfl (z_getI dX12_advance_250 wf_X12_79 (by decide) (by decide) rfl H7.1 (z_aload_n 0 dX12_advance_253 rfl rfl (z_getI dX12_advance_254 wf_X12_86 (by decide) (by decide) rfl H7.2.1 (z_isub dX12_advance_257 (z_iconst (w := 2) dX12_advance_258 (by decide) ?_))))))
    refine z_icmp_le (t := 266) dX12_advance_259 (by decide) (fun q => ?_) (fun q => ?_)
    · have H8 := H7.2.2.1 q
      refine z_iconst (w := 1) dX12_advance_266 (by decide) (z_putI (g := g) (I := I) (Q := P) dX12_advance_267 wf_X12_89 (by decide) (by decide) rfl (Or.inl rfl) (zfit_int rfl) H8.1 (z_goto (t := 298) dX12_advance_270 (by decide) ?_))
      obtain ⟨rfl, rfl⟩ := H8.2
      exact z_vret dX12_advance_298 rfl (by decide) (by decide)
    · have H9 := H7.2.2.2 q
      refine z_iconst (w := 4) dX12_advance_262 (by decide) (z_goto (t := 267) dX12_advance_263 (by decide) (z_putI (g := g) (I := I) (Q := P) dX12_advance_267 wf_X12_89 (by decide) (by decide) rfl (Or.inl rfl) (zfit_int rfl) H9.1 (z_goto (t := 298) dX12_advance_270 (by decide) ?_)))
      obtain ⟨rfl, rfl⟩ := H9.2
      exact z_vret dX12_advance_298 rfl (by decide) (by decide)
  · have H10 := H6.2 q
    refine z_aload_n 0 dX12_advance_199 rfl rfl (z_getI dX12_advance_200 wf_X12_79 (by decide) (by decide) rfl H10.1 (z_aload_n 0 dX12_advance_203 rfl rfl (z_getI dX12_advance_204 wf_X12_86 (by decide) (by decide) rfl H10.2.1 (z_isub dX12_advance_207 (z_iconst (w := 2) dX12_advance_208 (by decide) ?_)))))
    refine z_icmp_ge (t := 235) dX12_advance_209 (by decide) (fun q => ?_) (fun q => ?_)
    · have H11 := H10.2.2.1 q
      refine z_aload_n 0 dX12_advance_235 rfl rfl (z_dup dX12_advance_236 rfl (z_getI dX12_advance_237 wf_X12_79 (by decide) (by decide) rfl H11.1 (z_iconst (w := 1) dX12_advance_240 (by decide) (z_iadd dX12_advance_241 (z_putI (g := g) (I := I) (Q := P) dX12_advance_242 wf_X12_79 (by decide) (by decide) rfl (Or.inl rfl) (zfit_int rfl) H11.2.1 (z_goto (t := 185) dX12_advance_245 (by decide) ?_))))))
      exact z_less [0] rfl H11.2.2
    · have H12 := H10.2.2.2 q
      refine z_aload_n 0 dX12_advance_212 rfl rfl (z_bipush (w := 10) dX12_advance_213 (by decide) (z_aload_n 0 dX12_advance_215 rfl rfl (z_getI dX12_advance_216 wf_X12_110 (by decide) (by decide) rfl H12.1 (z_imul dX12_advance_219 (z_aload_n 0 dX12_advance_220 rfl rfl (z_aload_n 0 dX12_advance_221 rfl rfl (z_getI dX12_advance_222 wf_X12_79 (by decide) (by decide) rfl H12.2.1 ?_)))))))
      obtain ⟨oc14, w13, c14, H15⟩ := H12.2.2
      refine z_virt (As := [.int (I a0 3)]) (st := [.int (10 * (I a0 6)), .ref a0]) (r1 := (some (.int w13))) (h1 := (g, I, P)) dX12_advance_225 kX12_byteAt wm_X12_82 ⟨by decide, by decide⟩ rfl rfl (Nat.le_of_ble_eq_true rfl) (by decide) (by decide) oc14 c14 ?_
      refine z_iadd dX12_advance_228 (z_bipush (w := 48) dX12_advance_229 (by decide) (z_isub dX12_advance_231 (z_putI (g := g) (I := I) (Q := P) dX12_advance_232 wf_X12_110 (by decide) (by decide) rfl (Or.inl rfl) (zfit_int rfl) H15.1 (z_aload_n 0 dX12_advance_235 rfl rfl (z_dup dX12_advance_236 rfl (z_getI dX12_advance_237 wf_X12_79 (by decide) (by decide) rfl H15.2.1 (z_iconst (w := 1) dX12_advance_240 (by decide) (z_iadd dX12_advance_241 (z_putI (g := g) (I := zU I a0 6 (((10 * (I a0 6)) + w13) - 48)) (Q := P) dX12_advance_242 wf_X12_79 (by decide) (by decide) rfl (Or.inl rfl) (zfit_int rfl) H15.2.2.1 (z_goto (t := 185) dX12_advance_245 (by decide) ?_))))))))))
      exact z_less [0] rfl H15.2.2.2
theorem dX12_ends_0 : decode cX12_ends 0 = .ok (.aload_n 0, 1) := by decide +kernel
theorem dX12_ends_1 : decode cX12_ends 1 = .ok (.getfield 113, 3) := by decide +kernel
theorem dX12_ends_4 : decode cX12_ends 4 = .ok (.ifCond .eq 4, 3) := by decide +kernel
theorem dX12_ends_7 : decode cX12_ends 7 = .ok (.return_, 1) := by decide +kernel
theorem dX12_ends_8 : decode cX12_ends 8 = .ok (.aload_n 0, 1) := by decide +kernel
theorem dX12_ends_9 : decode cX12_ends 9 = .ok (.iconst 1, 1) := by decide +kernel
theorem dX12_ends_10 : decode cX12_ends 10 = .ok (.putfield 113, 3) := by decide +kernel
theorem dX12_ends_13 : decode cX12_ends 13 = .ok (.aload_n 0, 1) := by decide +kernel
theorem dX12_ends_14 : decode cX12_ends 14 = .ok (.getfield 7, 3) := by decide +kernel
theorem dX12_ends_17 : decode cX12_ends 17 = .ok (.iconst 5, 1) := by decide +kernel
theorem dX12_ends_18 : decode cX12_ends 18 = .ok (.iconst 1, 1) := by decide +kernel
theorem dX12_ends_19 : decode cX12_ends 19 = .ok (.iastore, 1) := by decide +kernel
theorem dX12_ends_20 : decode cX12_ends 20 = .ok (.aload_n 0, 1) := by decide +kernel
theorem dX12_ends_21 : decode cX12_ends 21 = .ok (.getfield 7, 3) := by decide +kernel
theorem dX12_ends_24 : decode cX12_ends 24 = .ok (.bipush 6, 2) := by decide +kernel
theorem dX12_ends_26 : decode cX12_ends 26 = .ok (.aload_n 0, 1) := by decide +kernel
theorem dX12_ends_27 : decode cX12_ends 27 = .ok (.getfield 86, 3) := by decide +kernel
theorem dX12_ends_30 : decode cX12_ends 30 = .ok (.iastore, 1) := by decide +kernel
theorem dX12_ends_31 : decode cX12_ends 31 = .ok (.return_, 1) := by decide +kernel
set_option maxRecDepth 10000 in
theorem wX12_ends_0 {g : zG} {I : Nat → Nat → Int32} {P : Nat → Nat → Option Nat} {r : Option Value} {h' : zH} {a0 : Nat} (H : zk g a0 12 ∧ ((I a0 8 = 0) → zk g a0 12 ∧ zk g a0 12 ∧ ∃ b2, P a0 0 = some b2 ∧ zk g b2 13 ∧ vp_in 5 (g.2.2 b2) ∧ zk g a0 12 ∧ ∃ b5, P a0 0 = some b5 ∧ zk g a0 12 ∧ zk g b5 13 ∧ vp_in 6 (g.2.2 b5) ∧ r = none ∧ h' = (g, zU (zU (zU I a0 8 1) b2 (5 : Int32).toNatClampNeg 1) b5 (6 : Int32).toNatClampNeg ((zU (zU I a0 8 1) b2 (5 : Int32).toNatClampNeg 1) a0 4), P)) ∧ ((¬ I a0 8 = 0) → r = none ∧ h' = (g, I, P))) : Zt none mX12_ends 0 0 0 [(0, .ref a0)] [] (g, I, P) r h' := by
  refine z_aload_n 0 dX12_ends_0 rfl rfl (z_getI dX12_ends_1 wf_X12_113 (by decide) (by decide) rfl H.1 ?_)
  refine z_if_eq (t := 8) dX12_ends_4 (by decide) (fun q => ?_) (fun q => ?_)
  · have H1 := H.2.1 q
    refine z_aload_n 0 dX12_ends_8 rfl rfl (z_iconst (w := 1) dX12_ends_9 (by decide) (z_putI (g := g) (I := I) (Q := P) dX12_ends_10 wf_X12_113 (by decide) (by decide) rfl (Or.inl rfl) (zfit_bool rfl (Or.inr rfl)) H1.1 (z_aload_n 0 dX12_ends_13 rfl rfl ?_)))
    obtain ⟨oe4, b2, e4, H3⟩ := H1.2
    refine z_getP dX12_ends_14 wf_X12_7 (by decide) (by decide) rfl oe4 (fun q => (by cases q.symm.trans e4)) (fun j q => ?_)
    cases q.symm.trans e4
    refine z_iconst (w := 5) dX12_ends_17 (by decide) (z_iconst (w := 1) dX12_ends_18 (by decide) (z_iast (g := g) (I := zU I a0 8 1) (Q := P) dX12_ends_19 H3.1 H3.2.1 (z_aload_n 0 dX12_ends_20 rfl rfl ?_)))
    obtain ⟨oe7, b5, e7, H6⟩ := H3.2.2
    refine z_getP dX12_ends_21 wf_X12_7 (by decide) (by decide) rfl oe7 (fun q => (by cases q.symm.trans e7)) (fun j q => ?_)
    cases q.symm.trans e7
    refine z_bipush (w := 6) dX12_ends_24 (by decide) (z_aload_n 0 dX12_ends_26 rfl rfl (z_getI dX12_ends_27 wf_X12_86 (by decide) (by decide) rfl H6.1 (z_iast (g := g) (I := zU (zU I a0 8 1) b2 (5 : Int32).toNatClampNeg 1) (Q := P) dX12_ends_30 H6.2.1 H6.2.2.1 ?_)))
    obtain ⟨rfl, rfl⟩ := H6.2.2.2
    exact z_vret dX12_ends_31 rfl (by decide) (by decide)
  · have H8 := H.2.2 q
    obtain ⟨rfl, rfl⟩ := H8
    exact z_vret dX12_ends_7 rfl (by decide) (by decide)
theorem eX12_ends {g : zG} {I : Nat → Nat → Int32} {P : Nat → Nat → Option Nat} {r : Option Value} {h' : zH} {a0 : Nat} (H : Zt none mX12_ends 0 0 0 [(0, .ref a0)] [] (g, I, P) r h') : Cl mX12_ends [.ref a0] (g, I, P) r h' := Cl.of (by decide) (Nat.le_of_ble_eq_true rfl) H
theorem dX12_also_0 : decode cX12_also 0 = .ok (.aload_n 0, 1) := by decide +kernel
theorem dX12_also_1 : decode cX12_also 1 = .ok (.getfield 113, 3) := by decide +kernel
theorem dX12_also_4 : decode cX12_also 4 = .ok (.ifCond .ne 44, 3) := by decide +kernel
theorem dX12_also_7 : decode cX12_also 7 = .ok (.aload_n 0, 1) := by decide +kernel
theorem dX12_also_8 : decode cX12_also 8 = .ok (.getfield 7, 3) := by decide +kernel
theorem dX12_also_11 : decode cX12_also 11 = .ok (.iconst 5, 1) := by decide +kernel
theorem dX12_also_12 : decode cX12_also 12 = .ok (.iaload, 1) := by decide +kernel
theorem dX12_also_13 : decode cX12_also 13 = .ok (.ifCond .eq 36, 3) := by decide +kernel
theorem dX12_also_16 : decode cX12_also 16 = .ok (.aload_n 0, 1) := by decide +kernel
theorem dX12_also_17 : decode cX12_also 17 = .ok (.getfield 7, 3) := by decide +kernel
theorem dX12_also_20 : decode cX12_also 20 = .ok (.bipush 6, 2) := by decide +kernel
theorem dX12_also_22 : decode cX12_also 22 = .ok (.iaload, 1) := by decide +kernel
theorem dX12_also_23 : decode cX12_also 23 = .ok (.iload_n 2, 1) := by decide +kernel
theorem dX12_also_24 : decode cX12_also 24 = .ok (.if_icmp .lt 24, 3) := by decide +kernel
theorem dX12_also_27 : decode cX12_also 27 = .ok (.aload_n 0, 1) := by decide +kernel
theorem dX12_also_28 : decode cX12_also 28 = .ok (.getfield 7, 3) := by decide +kernel
theorem dX12_also_31 : decode cX12_also 31 = .ok (.bipush 6, 2) := by decide +kernel
theorem dX12_also_33 : decode cX12_also 33 = .ok (.iaload, 1) := by decide +kernel
theorem dX12_also_34 : decode cX12_also 34 = .ok (.iload_n 2, 1) := by decide +kernel
theorem dX12_also_35 : decode cX12_also 35 = .ok (.if_icmp .ne 14, 3) := by decide +kernel
theorem dX12_also_38 : decode cX12_also 38 = .ok (.aload_n 0, 1) := by decide +kernel
theorem dX12_also_39 : decode cX12_also 39 = .ok (.getfield 7, 3) := by decide +kernel
theorem dX12_also_42 : decode cX12_also 42 = .ok (.iconst 5, 1) := by decide +kernel
theorem dX12_also_43 : decode cX12_also 43 = .ok (.iaload, 1) := by decide +kernel
theorem dX12_also_44 : decode cX12_also 44 = .ok (.iload_n 1, 1) := by decide +kernel
theorem dX12_also_45 : decode cX12_also 45 = .ok (.if_icmp .gt 4, 3) := by decide +kernel
theorem dX12_also_48 : decode cX12_also 48 = .ok (.return_, 1) := by decide +kernel
theorem dX12_also_49 : decode cX12_also 49 = .ok (.aload_n 0, 1) := by decide +kernel
theorem dX12_also_50 : decode cX12_also 50 = .ok (.getfield 7, 3) := by decide +kernel
theorem dX12_also_53 : decode cX12_also 53 = .ok (.iconst 5, 1) := by decide +kernel
theorem dX12_also_54 : decode cX12_also 54 = .ok (.iload_n 1, 1) := by decide +kernel
theorem dX12_also_55 : decode cX12_also 55 = .ok (.iastore, 1) := by decide +kernel
theorem dX12_also_56 : decode cX12_also 56 = .ok (.aload_n 0, 1) := by decide +kernel
theorem dX12_also_57 : decode cX12_also 57 = .ok (.getfield 7, 3) := by decide +kernel
theorem dX12_also_60 : decode cX12_also 60 = .ok (.bipush 6, 2) := by decide +kernel
theorem dX12_also_62 : decode cX12_also 62 = .ok (.iload_n 2, 1) := by decide +kernel
theorem dX12_also_63 : decode cX12_also 63 = .ok (.iastore, 1) := by decide +kernel
theorem dX12_also_64 : decode cX12_also 64 = .ok (.return_, 1) := by decide +kernel
set_option maxRecDepth 10000 in
theorem wX12_also_0 {g : zG} {I : Nat → Nat → Int32} {P : Nat → Nat → Option Nat} {r : Option Value} {h' : zH} {a0 : Nat} {x1 : Int32} {x2 : Int32} (H : zk g a0 12 ∧ ((¬ I a0 8 = 0) → r = none ∧ h' = (g, I, P)) ∧ ((I a0 8 = 0) → zk g a0 12 ∧ ∃ b3, P a0 0 = some b3 ∧ zk g b3 13 ∧ vp_in 5 (g.2.2 b3) ∧ ((I b3 (5 : Int32).toNatClampNeg = 0) → zk g a0 12 ∧ ∃ b7, P a0 0 = some b7 ∧ zk g b7 13 ∧ vp_in 5 (g.2.2 b7) ∧ zk g a0 12 ∧ ∃ b10, P a0 0 = some b10 ∧ zk g b10 13 ∧ vp_in 6 (g.2.2 b10) ∧ r = none ∧ h' = (g, zU (zU I b7 (5 : Int32).toNatClampNeg x1) b10 (6 : Int32).toNatClampNeg x2, P)) ∧ ((¬ I b3 (5 : Int32).toNatClampNeg = 0) → zk g a0 12 ∧ ∃ b14, P a0 0 = some b14 ∧ zk g b14 13 ∧ vp_in 6 (g.2.2 b14) ∧ ((I b14 (6 : Int32).toNatClampNeg < x2) → r = none ∧ h' = (g, I, P)) ∧ ((¬ I b14 (6 : Int32).toNatClampNeg < x2) → zk g a0 12 ∧ ∃ b19, P a0 0 = some b19 ∧ zk g b19 13 ∧ vp_in 6 (g.2.2 b19) ∧ ((¬ (I b19 (6 : Int32).toNatClampNeg) = x2) → zk g a0 12 ∧ ∃ b23, P a0 0 = some b23 ∧ zk g b23 13 ∧ vp_in 5 (g.2.2 b23) ∧ zk g a0 12 ∧ ∃ b26, P a0 0 = some b26 ∧ zk g b26 13 ∧ vp_in 6 (g.2.2 b26) ∧ r = none ∧ h' = (g, zU (zU I b23 (5 : Int32).toNatClampNeg x1) b26 (6 : Int32).toNatClampNeg x2, P)) ∧ ((I b19 (6 : Int32).toNatClampNeg = x2) → zk g a0 12 ∧ ∃ b30, P a0 0 = some b30 ∧ zk g b30 13 ∧ vp_in 5 (g.2.2 b30) ∧ ((x1 < I b30 (5 : Int32).toNatClampNeg) → zk g a0 12 ∧ ∃ b34, P a0 0 = some b34 ∧ zk g b34 13 ∧ vp_in 5 (g.2.2 b34) ∧ zk g a0 12 ∧ ∃ b37, P a0 0 = some b37 ∧ zk g b37 13 ∧ vp_in 6 (g.2.2 b37) ∧ r = none ∧ h' = (g, zU (zU I b34 (5 : Int32).toNatClampNeg x1) b37 (6 : Int32).toNatClampNeg x2, P)) ∧ ((¬ x1 < I b30 (5 : Int32).toNatClampNeg) → r = none ∧ h' = (g, I, P))))))) : Zt none mX12_also 0 0 0 [(0, .ref a0), (1, .int x1), (2, .int x2)] [] (g, I, P) r h' := by
  refine z_aload_n 0 dX12_also_0 rfl rfl (z_getI dX12_also_1 wf_X12_113 (by decide) (by decide) rfl H.1 ?_)
  refine z_if_ne (t := 48) dX12_also_4 (by decide) (fun q => ?_) (fun q => ?_)
  · have H1 := H.2.1 q
    obtain ⟨rfl, rfl⟩ := H1
    exact z_vret dX12_also_48 rfl (by decide) (by decide)
  · have H2 := H.2.2 q
    refine z_aload_n 0 dX12_also_7 rfl rfl ?_
    obtain ⟨oe5, b3, e5, H4⟩ := H2
    refine z_getP dX12_also_8 wf_X12_7 (by decide) (by decide) rfl oe5 (fun q => (by cases q.symm.trans e5)) (fun j q => ?_)
    cases q.symm.trans e5
    refine z_iconst (w := 5) dX12_also_11 (by decide) (z_iald dX12_also_12 H4.1 H4.2.1 ?_)
    refine z_if_eq (t := 49) dX12_also_13 (by decide) (fun q => ?_) (fun q => ?_)
    · have H6 := H4.2.2.1 q
      refine z_aload_n 0 dX12_also_49 rfl rfl ?_
      obtain ⟨oe9, b7, e9, H8⟩ := H6
      refine z_getP dX12_also_50 wf_X12_7 (by decide) (by decide) rfl oe9 (fun q => (by cases q.symm.trans e9)) (fun j q => ?_)
      cases q.symm.trans e9
      refine z_iconst (w := 5) dX12_also_53 (by decide) (z_iload_n 1 dX12_also_54 rfl (z_iast (g := g) (I := I) (Q := P) dX12_also_55 H8.1 H8.2.1 (z_aload_n 0 dX12_also_56 rfl rfl ?_)))
      obtain ⟨oe12, b10, e12, H11⟩ := H8.2.2
      refine z_getP dX12_also_57 wf_X12_7 (by decide) (by decide) rfl oe12 (fun q => (by cases q.symm.trans e12)) (fun j q => ?_)
      cases q.symm.trans e12
      refine z_bipush (w := 6) dX12_also_60 (by decide) (z_iload_n 2 dX12_also_62 rfl (z_iast (g := g) (I := zU I b7 (5 : Int32).toNatClampNeg x1) (Q := P) dX12_also_63 H11.1 H11.2.1 ?_))
      obtain ⟨rfl, rfl⟩ := H11.2.2
      exact z_vret dX12_also_64 rfl (by decide) (by decide)
    · have H13 := H4.2.2.2 q
      refine z_aload_n 0 dX12_also_16 rfl rfl ?_
      obtain ⟨oe16, b14, e16, H15⟩ := H13
      refine z_getP dX12_also_17 wf_X12_7 (by decide) (by decide) rfl oe16 (fun q => (by cases q.symm.trans e16)) (fun j q => ?_)
      cases q.symm.trans e16
      refine z_bipush (w := 6) dX12_also_20 (by decide) (z_iald dX12_also_22 H15.1 H15.2.1 (z_iload_n 2 dX12_also_23 rfl ?_))
      refine z_icmp_lt (t := 48) dX12_also_24 (by decide) (fun q => ?_) (fun q => ?_)
      · have H17 := H15.2.2.1 q
        obtain ⟨rfl, rfl⟩ := H17
        exact z_vret dX12_also_48 rfl (by decide) (by decide)
      · have H18 := H15.2.2.2 q
        refine z_aload_n 0 dX12_also_27 rfl rfl ?_
        obtain ⟨oe21, b19, e21, H20⟩ := H18
        refine z_getP dX12_also_28 wf_X12_7 (by decide) (by decide) rfl oe21 (fun q => (by cases q.symm.trans e21)) (fun j q => ?_)
        cases q.symm.trans e21
        refine z_bipush (w := 6) dX12_also_31 (by decide) (z_iald dX12_also_33 H20.1 H20.2.1 (z_iload_n 2 dX12_also_34 rfl ?_))
        refine z_icmp_ne (t := 49) dX12_also_35 (by decide) (fun q => ?_) (fun q => ?_)
        · have H22 := H20.2.2.1 q
          refine z_aload_n 0 dX12_also_49 rfl rfl ?_
          obtain ⟨oe25, b23, e25, H24⟩ := H22
          refine z_getP dX12_also_50 wf_X12_7 (by decide) (by decide) rfl oe25 (fun q => (by cases q.symm.trans e25)) (fun j q => ?_)
          cases q.symm.trans e25
          refine z_iconst (w := 5) dX12_also_53 (by decide) (z_iload_n 1 dX12_also_54 rfl (z_iast (g := g) (I := I) (Q := P) dX12_also_55 H24.1 H24.2.1 (z_aload_n 0 dX12_also_56 rfl rfl ?_)))
          obtain ⟨oe28, b26, e28, H27⟩ := H24.2.2
          refine z_getP dX12_also_57 wf_X12_7 (by decide) (by decide) rfl oe28 (fun q => (by cases q.symm.trans e28)) (fun j q => ?_)
          cases q.symm.trans e28
          refine z_bipush (w := 6) dX12_also_60 (by decide) (z_iload_n 2 dX12_also_62 rfl (z_iast (g := g) (I := zU I b23 (5 : Int32).toNatClampNeg x1) (Q := P) dX12_also_63 H27.1 H27.2.1 ?_))
          obtain ⟨rfl, rfl⟩ := H27.2.2
          exact z_vret dX12_also_64 rfl (by decide) (by decide)
        · have H29 := H20.2.2.2 q
          refine z_aload_n 0 dX12_also_38 rfl rfl ?_
          obtain ⟨oe32, b30, e32, H31⟩ := H29
          refine z_getP dX12_also_39 wf_X12_7 (by decide) (by decide) rfl oe32 (fun q => (by cases q.symm.trans e32)) (fun j q => ?_)
          cases q.symm.trans e32
          refine z_iconst (w := 5) dX12_also_42 (by decide) (z_iald dX12_also_43 H31.1 H31.2.1 (z_iload_n 1 dX12_also_44 rfl ?_))
          refine z_icmp_gt (t := 49) dX12_also_45 (by decide) (fun q => ?_) (fun q => ?_)
          · have H33 := H31.2.2.1 q
            refine z_aload_n 0 dX12_also_49 rfl rfl ?_
            obtain ⟨oe36, b34, e36, H35⟩ := H33
            refine z_getP dX12_also_50 wf_X12_7 (by decide) (by decide) rfl oe36 (fun q => (by cases q.symm.trans e36)) (fun j q => ?_)
            cases q.symm.trans e36
            refine z_iconst (w := 5) dX12_also_53 (by decide) (z_iload_n 1 dX12_also_54 rfl (z_iast (g := g) (I := I) (Q := P) dX12_also_55 H35.1 H35.2.1 (z_aload_n 0 dX12_also_56 rfl rfl ?_)))
            obtain ⟨oe39, b37, e39, H38⟩ := H35.2.2
            refine z_getP dX12_also_57 wf_X12_7 (by decide) (by decide) rfl oe39 (fun q => (by cases q.symm.trans e39)) (fun j q => ?_)
            cases q.symm.trans e39
            refine z_bipush (w := 6) dX12_also_60 (by decide) (z_iload_n 2 dX12_also_62 rfl (z_iast (g := g) (I := zU I b34 (5 : Int32).toNatClampNeg x1) (Q := P) dX12_also_63 H38.1 H38.2.1 ?_))
            obtain ⟨rfl, rfl⟩ := H38.2.2
            exact z_vret dX12_also_64 rfl (by decide) (by decide)
          · have H40 := H31.2.2.2 q
            obtain ⟨rfl, rfl⟩ := H40
            exact z_vret dX12_also_48 rfl (by decide) (by decide)
theorem eX12_also {g : zG} {I : Nat → Nat → Int32} {P : Nat → Nat → Option Nat} {r : Option Value} {h' : zH} {a0 : Nat} {x1 : Int32} {x2 : Int32} (H : Zt none mX12_also 0 0 0 [(0, .ref a0), (1, .int x1), (2, .int x2)] [] (g, I, P) r h') : Cl mX12_also [.ref a0, .int x1, .int x2] (g, I, P) r h' := Cl.of (by decide) (Nat.le_of_ble_eq_true rfl) H
theorem dX12_numbered_0 : decode cX12_numbered 0 = .ok (.aload_n 0, 1) := by decide +kernel
theorem dX12_numbered_1 : decode cX12_numbered 1 = .ok (.getfield 113, 3) := by decide +kernel
theorem dX12_numbered_4 : decode cX12_numbered 4 = .ok (.ifCond .ne 11, 3) := by decide +kernel
theorem dX12_numbered_7 : decode cX12_numbered 7 = .ok (.aload_n 0, 1) := by decide +kernel
theorem dX12_numbered_8 : decode cX12_numbered 8 = .ok (.getfield 89, 3) := by decide +kernel
theorem dX12_numbered_11 : decode cX12_numbered 11 = .ok (.iconst 1, 1) := by decide +kernel
theorem dX12_numbered_12 : decode cX12_numbered 12 = .ok (.if_icmp .eq 9, 3) := by decide +kernel
theorem dX12_numbered_15 : decode cX12_numbered 15 = .ok (.aload_n 0, 1) := by decide +kernel
theorem dX12_numbered_16 : decode cX12_numbered 16 = .ok (.invokevirtual 117, 3) := by decide +kernel
theorem dX12_numbered_19 : decode cX12_numbered 19 = .ok (.iload_n 1, 1) := by decide +kernel
theorem dX12_numbered_20 : decode cX12_numbered 20 = .ok (.ireturn, 1) := by decide +kernel
theorem dX12_numbered_21 : decode cX12_numbered 21 = .ok (.aload_n 0, 1) := by decide +kernel
theorem dX12_numbered_22 : decode cX12_numbered 22 = .ok (.getfield 110, 3) := by decide +kernel
theorem dX12_numbered_25 : decode cX12_numbered 25 = .ok (.istore_n 3, 1) := by decide +kernel
theorem dX12_numbered_26 : decode cX12_numbered 26 = .ok (.iload_n 3, 1) := by decide +kernel
theorem dX12_numbered_27 : decode cX12_numbered 27 = .ok (.iload_n 1, 1) := by decide +kernel
theorem dX12_numbered_28 : decode cX12_numbered 28 = .ok (.iload_n 2, 1) := by decide +kernel
theorem dX12_numbered_29 : decode cX12_numbered 29 = .ok (.invokestatic 120, 3) := by decide +kernel
theorem dX12_numbered_32 : decode cX12_numbered 32 = .ok (.ifCond .ne 12, 3) := by decide +kernel
theorem dX12_numbered_35 : decode cX12_numbered 35 = .ok (.aload_n 0, 1) := by decide +kernel
theorem dX12_numbered_36 : decode cX12_numbered 36 = .ok (.iconst 2, 1) := by decide +kernel
theorem dX12_numbered_37 : decode cX12_numbered 37 = .ok (.aload_n 0, 1) := by decide +kernel
theorem dX12_numbered_38 : decode cX12_numbered 38 = .ok (.getfield 86, 3) := by decide +kernel
theorem dX12_numbered_41 : decode cX12_numbered 41 = .ok (.invokevirtual 124, 3) := by decide +kernel
theorem dX12_numbered_44 : decode cX12_numbered 44 = .ok (.aload_n 0, 1) := by decide +kernel
theorem dX12_numbered_45 : decode cX12_numbered 45 = .ok (.invokevirtual 128, 3) := by decide +kernel
theorem dX12_numbered_48 : decode cX12_numbered 48 = .ok (.iload_n 3, 1) := by decide +kernel
theorem dX12_numbered_49 : decode cX12_numbered 49 = .ok (.iload_n 1, 1) := by decide +kernel
theorem dX12_numbered_50 : decode cX12_numbered 50 = .ok (.iload_n 2, 1) := by decide +kernel
theorem dX12_numbered_51 : decode cX12_numbered 51 = .ok (.invokestatic 120, 3) := by decide +kernel
theorem dX12_numbered_54 : decode cX12_numbered 54 = .ok (.ifCond .eq 7, 3) := by decide +kernel
theorem dX12_numbered_57 : decode cX12_numbered 57 = .ok (.iload_n 3, 1) := by decide +kernel
theorem dX12_numbered_58 : decode cX12_numbered 58 = .ok (.goto 4, 3) := by decide +kernel
theorem dX12_numbered_61 : decode cX12_numbered 61 = .ok (.iload_n 1, 1) := by decide +kernel
theorem dX12_numbered_62 : decode cX12_numbered 62 = .ok (.ireturn, 1) := by decide +kernel
set_option maxRecDepth 10000 in
theorem wX12_numbered_0 {g : zG} {I : Nat → Nat → Int32} {P : Nat → Nat → Option Nat} {r : Option Value} {h' : zH} {a0 : Nat} {x1 : Int32} {x2 : Int32} (H : zk g a0 12 ∧ ((¬ I a0 8 = 0) → zk g a0 12 ∧ ∃ (I2 : Nat → Nat → Int32), Cl mX12_ends [.ref a0] (g, I, P) none (g, I2, P) ∧ r = some (.int x1) ∧ h' = (g, I2, P)) ∧ ((I a0 8 = 0) → zk g a0 12 ∧ ((I a0 5 = 1) → zk g a0 12 ∧ ∃ (w7 : Int32), Cl mX12_isIn [.int (I a0 6), .int x1, .int x2] (g, I, P) (some (.int w7)) (g, I, P) ∧ ((¬ w7 = 0) → zk g a0 12 ∧ ∃ (I11 : Nat → Nat → Int32), Cl mX12_advance [.ref a0] (g, I, P) none (g, I11, P) ∧ ∃ (w14 : Int32), Cl mX12_isIn [.int (I a0 6), .int x1, .int x2] (g, I11, P) (some (.int w14)) (g, I11, P) ∧ ((w14 = 0) → r = some (.int x1) ∧ h' = (g, I11, P)) ∧ ((¬ w14 = 0) → r = some (.int (I a0 6)) ∧ h' = (g, I11, P))) ∧ ((w7 = 0) → zk g a0 12 ∧ zk g a0 12 ∧ ∃ (I20 : Nat → Nat → Int32), Cl mX12_also [.ref a0, .int 2, .int (I a0 4)] (g, I, P) none (g, I20, P) ∧ zk g a0 12 ∧ ∃ (I23 : Nat → Nat → Int32), Cl mX12_advance [.ref a0] (g, I20, P) none (g, I23, P) ∧ ∃ (w26 : Int32), Cl mX12_isIn [.int (I a0 6), .int x1, .int x2] (g, I23, P) (some (.int w26)) (g, I23, P) ∧ ((w26 = 0) → r = some (.int x1) ∧ h' = (g, I23, P)) ∧ ((¬ w26 = 0) → r = some (.int (I a0 6)) ∧ h' = (g, I23, P)))) ∧ ((¬ I a0 5 = 1) → zk g a0 12 ∧ ∃ (I32 : Nat → Nat → Int32), Cl mX12_ends [.ref a0] (g, I, P) none (g, I32, P) ∧ r = some (.int x1) ∧ h' = (g, I32, P)))) : Zt none mX12_numbered 0 0 0 [(0, .ref a0), (1, .int x1), (2, .int x2)] [] (g, I, P) r h' := by
  refine z_aload_n 0 dX12_numbered_0 rfl rfl (z_getI dX12_numbered_1 wf_X12_113 (by decide) (by decide) rfl H.1 ?_)
  refine z_if_ne (t := 15) dX12_numbered_4 (by decide) (fun q => ?_) (fun q => ?_)
  · have H1 := H.2.1 q
    refine z_aload_n 0 dX12_numbered_15 rfl rfl ?_
    obtain ⟨oc3, I2, c3, H4⟩ := H1
    refine z_virt (As := []) (st := []) (r1 := none) (h1 := (g, I2, P)) dX12_numbered_16 kX12_ends wm_X12_117 ⟨by decide, by decide⟩ rfl rfl (Nat.le_of_ble_eq_true rfl) (by decide) (by decide) oc3 c3 ?_
    refine z_iload_n 1 dX12_numbered_19 rfl ?_
    obtain ⟨rfl, rfl⟩ := H4
    exact z_iret dX12_numbered_20 rfl (by decide) (by decide)
  · have H5 := H.2.2 q
    refine z_aload_n 0 dX12_numbered_7 rfl rfl (z_getI dX12_numbered_8 wf_X12_89 (by decide) (by decide) rfl H5.1 (z_iconst (w := 1) dX12_numbered_11 (by decide) ?_))
    refine z_icmp_eq (t := 21) dX12_numbered_12 (by decide) (fun q => ?_) (fun q => ?_)
    · have H6 := H5.2.1 q
      refine z_aload_n 0 dX12_numbered_21 rfl rfl (z_getI dX12_numbered_22 wf_X12_110 (by decide) (by decide) rfl H6.1 (z_istore_n (lv' := [(3, .int (I a0 6)), (0, .ref a0), (1, .int x1), (2, .int x2)]) dX12_numbered_25 (by decide) rfl (z_iload_n 0 dX12_numbered_26 rfl (z_iload_n 2 dX12_numbered_27 rfl (z_iload_n 3 dX12_numbered_28 rfl ?_)))))
      obtain ⟨w7, c8, H9⟩ := H6.2
      refine z_stat (As := [.int (I a0 6), .int x1, .int x2]) (st := []) (r1 := (some (.int w7))) (h1 := (g, I, P)) dX12_numbered_29 kX12_isIn wm_X12_120 ⟨by decide, by decide⟩ rfl rfl (Nat.le_of_ble_eq_true rfl) (by decide) (by decide) c8 ?_
      refine z_if_ne (t := 44) dX12_numbered_32 (by decide) (fun q => ?_) (fun q => ?_)
      · have H10 := H9.1 q
        refine z_aload_n 1 dX12_numbered_44 rfl rfl ?_
        obtain ⟨oc12, I11, c12, H13⟩ := H10
        refine z_virt (As := []) (st := []) (r1 := none) (h1 := (g, I11, P)) dX12_numbered_45 kX12_advance wm_X12_128 ⟨by decide, by decide⟩ rfl rfl (Nat.le_of_ble_eq_true rfl) (by decide) (by decide) oc12 c12 ?_
        refine z_iload_n 0 dX12_numbered_48 rfl (z_iload_n 2 dX12_numbered_49 rfl (z_iload_n 3 dX12_numbered_50 rfl ?_))
        obtain ⟨w14, c15, H16⟩ := H13
        refine z_stat (As := [.int (I a0 6), .int x1, .int x2]) (st := []) (r1 := (some (.int w14))) (h1 := (g, I11, P)) dX12_numbered_51 kX12_isIn wm_X12_120 ⟨by decide, by decide⟩ rfl rfl (Nat.le_of_ble_eq_true rfl) (by decide) (by decide) c15 ?_
        refine z_if_eq (t := 61) dX12_numbered_54 (by decide) (fun q => ?_) (fun q => ?_)
        · have H17 := H16.1 q
          refine z_iload_n 2 dX12_numbered_61 rfl ?_
          obtain ⟨rfl, rfl⟩ := H17
          exact z_iret dX12_numbered_62 rfl (by decide) (by decide)
        · have H18 := H16.2 q
          refine z_iload_n 0 dX12_numbered_57 rfl (z_goto (t := 62) dX12_numbered_58 (by decide) ?_)
          obtain ⟨rfl, rfl⟩ := H18
          exact z_iret dX12_numbered_62 rfl (by decide) (by decide)
      · have H19 := H9.2 q
        refine z_aload_n 1 dX12_numbered_35 rfl rfl (z_iconst (w := 2) dX12_numbered_36 (by decide) (z_aload_n 1 dX12_numbered_37 rfl rfl (z_getI dX12_numbered_38 wf_X12_86 (by decide) (by decide) rfl H19.1 ?_)))
        obtain ⟨oc21, I20, c21, H22⟩ := H19.2
        refine z_virt (As := [.int 2, .int (I a0 4)]) (st := []) (r1 := none) (h1 := (g, I20, P)) dX12_numbered_41 kX12_also wm_X12_124 ⟨by decide, by decide⟩ rfl rfl (Nat.le_of_ble_eq_true rfl) (by decide) (by decide) oc21 c21 ?_
        refine z_aload_n 1 dX12_numbered_44 rfl rfl ?_
        obtain ⟨oc24, I23, c24, H25⟩ := H22
        refine z_virt (As := []) (st := []) (r1 := none) (h1 := (g, I23, P)) dX12_numbered_45 kX12_advance wm_X12_128 ⟨by decide, by decide⟩ rfl rfl (Nat.le_of_ble_eq_true rfl) (by decide) (by decide) oc24 c24 ?_
        refine z_iload_n 0 dX12_numbered_48 rfl (z_iload_n 2 dX12_numbered_49 rfl (z_iload_n 3 dX12_numbered_50 rfl ?_))
        obtain ⟨w26, c27, H28⟩ := H25
        refine z_stat (As := [.int (I a0 6), .int x1, .int x2]) (st := []) (r1 := (some (.int w26))) (h1 := (g, I23, P)) dX12_numbered_51 kX12_isIn wm_X12_120 ⟨by decide, by decide⟩ rfl rfl (Nat.le_of_ble_eq_true rfl) (by decide) (by decide) c27 ?_
        refine z_if_eq (t := 61) dX12_numbered_54 (by decide) (fun q => ?_) (fun q => ?_)
        · have H29 := H28.1 q
          refine z_iload_n 2 dX12_numbered_61 rfl ?_
          obtain ⟨rfl, rfl⟩ := H29
          exact z_iret dX12_numbered_62 rfl (by decide) (by decide)
        · have H30 := H28.2 q
          refine z_iload_n 0 dX12_numbered_57 rfl (z_goto (t := 62) dX12_numbered_58 (by decide) ?_)
          obtain ⟨rfl, rfl⟩ := H30
          exact z_iret dX12_numbered_62 rfl (by decide) (by decide)
    · have H31 := H5.2.2 q
      refine z_aload_n 0 dX12_numbered_15 rfl rfl ?_
      obtain ⟨oc33, I32, c33, H34⟩ := H31
      refine z_virt (As := []) (st := []) (r1 := none) (h1 := (g, I32, P)) dX12_numbered_16 kX12_ends wm_X12_117 ⟨by decide, by decide⟩ rfl rfl (Nat.le_of_ble_eq_true rfl) (by decide) (by decide) oc33 c33 ?_
      refine z_iload_n 1 dX12_numbered_19 rfl ?_
      obtain ⟨rfl, rfl⟩ := H34
      exact z_iret dX12_numbered_20 rfl (by decide) (by decide)
theorem eX12_numbered {g : zG} {I : Nat → Nat → Int32} {P : Nat → Nat → Option Nat} {r : Option Value} {h' : zH} {a0 : Nat} {x1 : Int32} {x2 : Int32} (H : Zt none mX12_numbered 0 0 0 [(0, .ref a0), (1, .int x1), (2, .int x2)] [] (g, I, P) r h') : Cl mX12_numbered [.ref a0, .int x1, .int x2] (g, I, P) r h' := Cl.of (by decide) (Nat.le_of_ble_eq_true rfl) H
theorem dX12_wordIn_0 : decode cX12_wordIn 0 = .ok (.aload_n 0, 1) := by decide +kernel
theorem dX12_wordIn_1 : decode cX12_wordIn 1 = .ok (.getfield 113, 3) := by decide +kernel
theorem dX12_wordIn_4 : decode cX12_wordIn 4 = .ok (.ifCond .ne 23, 3) := by decide +kernel
theorem dX12_wordIn_7 : decode cX12_wordIn 7 = .ok (.aload_n 0, 1) := by decide +kernel
theorem dX12_wordIn_8 : decode cX12_wordIn 8 = .ok (.getfield 89, 3) := by decide +kernel
theorem dX12_wordIn_11 : decode cX12_wordIn 11 = .ok (.iconst 3, 1) := by decide +kernel
theorem dX12_wordIn_12 : decode cX12_wordIn 12 = .ok (.if_icmp .ne 15, 3) := by decide +kernel
theorem dX12_wordIn_15 : decode cX12_wordIn 15 = .ok (.aload_n 0, 1) := by decide +kernel
theorem dX12_wordIn_16 : decode cX12_wordIn 16 = .ok (.getfield 104, 3) := by decide +kernel
theorem dX12_wordIn_19 : decode cX12_wordIn 19 = .ok (.iload_n 1, 1) := by decide +kernel
theorem dX12_wordIn_20 : decode cX12_wordIn 20 = .ok (.iload_n 2, 1) := by decide +kernel
theorem dX12_wordIn_21 : decode cX12_wordIn 21 = .ok (.invokestatic 120, 3) := by decide +kernel
theorem dX12_wordIn_24 : decode cX12_wordIn 24 = .ok (.ifCond .ne 9, 3) := by decide +kernel
theorem dX12_wordIn_27 : decode cX12_wordIn 27 = .ok (.aload_n 0, 1) := by decide +kernel
theorem dX12_wordIn_28 : decode cX12_wordIn 28 = .ok (.invokevirtual 117, 3) := by decide +kernel
theorem dX12_wordIn_31 : decode cX12_wordIn 31 = .ok (.iconst 0, 1) := by decide +kernel
theorem dX12_wordIn_32 : decode cX12_wordIn 32 = .ok (.ireturn, 1) := by decide +kernel
theorem dX12_wordIn_33 : decode cX12_wordIn 33 = .ok (.aload_n 0, 1) := by decide +kernel
theorem dX12_wordIn_34 : decode cX12_wordIn 34 = .ok (.getfield 104, 3) := by decide +kernel
theorem dX12_wordIn_37 : decode cX12_wordIn 37 = .ok (.istore_n 3, 1) := by decide +kernel
theorem dX12_wordIn_38 : decode cX12_wordIn 38 = .ok (.aload_n 0, 1) := by decide +kernel
theorem dX12_wordIn_39 : decode cX12_wordIn 39 = .ok (.invokevirtual 128, 3) := by decide +kernel
theorem dX12_wordIn_42 : decode cX12_wordIn 42 = .ok (.iload_n 3, 1) := by decide +kernel
theorem dX12_wordIn_43 : decode cX12_wordIn 43 = .ok (.ireturn, 1) := by decide +kernel
set_option maxRecDepth 10000 in
theorem wX12_wordIn_0 {g : zG} {I : Nat → Nat → Int32} {P : Nat → Nat → Option Nat} {r : Option Value} {h' : zH} {a0 : Nat} {x1 : Int32} {x2 : Int32} (H : zk g a0 12 ∧ ((¬ I a0 8 = 0) → zk g a0 12 ∧ ∃ (I2 : Nat → Nat → Int32), Cl mX12_ends [.ref a0] (g, I, P) none (g, I2, P) ∧ r = some (.int 0) ∧ h' = (g, I2, P)) ∧ ((I a0 8 = 0) → zk g a0 12 ∧ ((¬ (I a0 5) = 3) → zk g a0 12 ∧ ∃ (I7 : Nat → Nat → Int32), Cl mX12_ends [.ref a0] (g, I, P) none (g, I7, P) ∧ r = some (.int 0) ∧ h' = (g, I7, P)) ∧ ((I a0 5 = 3) → zk g a0 12 ∧ ∃ (w11 : Int32), Cl mX12_isIn [.int (I a0 7), .int x1, .int x2] (g, I, P) (some (.int w11)) (g, I, P) ∧ ((¬ w11 = 0) → zk g a0 12 ∧ zk g a0 12 ∧ ∃ (I15 : Nat → Nat → Int32), Cl mX12_advance [.ref a0] (g, I, P) none (g, I15, P) ∧ r = some (.int (I a0 7)) ∧ h' = (g, I15, P)) ∧ ((w11 = 0) → zk g a0 12 ∧ ∃ (I19 : Nat → Nat → Int32), Cl mX12_ends [.ref a0] (g, I, P) none (g, I19, P) ∧ r = some (.int 0) ∧ h' = (g, I19, P))))) : Zt none mX12_wordIn 0 0 0 [(0, .ref a0), (1, .int x1), (2, .int x2)] [] (g, I, P) r h' := by
  refine z_aload_n 0 dX12_wordIn_0 rfl rfl (z_getI dX12_wordIn_1 wf_X12_113 (by decide) (by decide) rfl H.1 ?_)
  refine z_if_ne (t := 27) dX12_wordIn_4 (by decide) (fun q => ?_) (fun q => ?_)
  · have H1 := H.2.1 q
    refine z_aload_n 0 dX12_wordIn_27 rfl rfl ?_
    obtain ⟨oc3, I2, c3, H4⟩ := H1
    refine z_virt (As := []) (st := []) (r1 := none) (h1 := (g, I2, P)) dX12_wordIn_28 kX12_ends wm_X12_117 ⟨by decide, by decide⟩ rfl rfl (Nat.le_of_ble_eq_true rfl) (by decide) (by decide) oc3 c3 ?_
    refine z_iconst (w := 0) dX12_wordIn_31 (by decide) ?_
    obtain ⟨rfl, rfl⟩ := H4
    exact z_iret dX12_wordIn_32 rfl (by decide) (by decide)
  · have H5 := H.2.2 q
    refine z_aload_n 0 dX12_wordIn_7 rfl rfl (z_getI dX12_wordIn_8 wf_X12_89 (by decide) (by decide) rfl H5.1 (z_iconst (w := 3) dX12_wordIn_11 (by decide) ?_))
    refine z_icmp_ne (t := 27) dX12_wordIn_12 (by decide) (fun q => ?_) (fun q => ?_)
    · have H6 := H5.2.1 q
      refine z_aload_n 0 dX12_wordIn_27 rfl rfl ?_
      obtain ⟨oc8, I7, c8, H9⟩ := H6
      refine z_virt (As := []) (st := []) (r1 := none) (h1 := (g, I7, P)) dX12_wordIn_28 kX12_ends wm_X12_117 ⟨by decide, by decide⟩ rfl rfl (Nat.le_of_ble_eq_true rfl) (by decide) (by decide) oc8 c8 ?_
      refine z_iconst (w := 0) dX12_wordIn_31 (by decide) ?_
      obtain ⟨rfl, rfl⟩ := H9
      exact z_iret dX12_wordIn_32 rfl (by decide) (by decide)
    · have H10 := H5.2.2 q
      refine z_aload_n 0 dX12_wordIn_15 rfl rfl (z_getI dX12_wordIn_16 wf_X12_104 (by decide) (by decide) rfl H10.1 (z_iload_n 1 dX12_wordIn_19 rfl (z_iload_n 2 dX12_wordIn_20 rfl ?_)))
      obtain ⟨w11, c12, H13⟩ := H10.2
      refine z_stat (As := [.int (I a0 7), .int x1, .int x2]) (st := []) (r1 := (some (.int w11))) (h1 := (g, I, P)) dX12_wordIn_21 kX12_isIn wm_X12_120 ⟨by decide, by decide⟩ rfl rfl (Nat.le_of_ble_eq_true rfl) (by decide) (by decide) c12 ?_
      refine z_if_ne (t := 33) dX12_wordIn_24 (by decide) (fun q => ?_) (fun q => ?_)
      · have H14 := H13.1 q
        refine z_aload_n 0 dX12_wordIn_33 rfl rfl (z_getI dX12_wordIn_34 wf_X12_104 (by decide) (by decide) rfl H14.1 (z_istore_n (lv' := [(3, .int (I a0 7)), (0, .ref a0), (1, .int x1), (2, .int x2)]) dX12_wordIn_37 (by decide) rfl (z_aload_n 1 dX12_wordIn_38 rfl rfl ?_)))
        obtain ⟨oc16, I15, c16, H17⟩ := H14.2
        refine z_virt (As := []) (st := []) (r1 := none) (h1 := (g, I15, P)) dX12_wordIn_39 kX12_advance wm_X12_128 ⟨by decide, by decide⟩ rfl rfl (Nat.le_of_ble_eq_true rfl) (by decide) (by decide) oc16 c16 ?_
        refine z_iload_n 0 dX12_wordIn_42 rfl ?_
        obtain ⟨rfl, rfl⟩ := H17
        exact z_iret dX12_wordIn_43 rfl (by decide) (by decide)
      · have H18 := H13.2 q
        refine z_aload_n 0 dX12_wordIn_27 rfl rfl ?_
        obtain ⟨oc20, I19, c20, H21⟩ := H18
        refine z_virt (As := []) (st := []) (r1 := none) (h1 := (g, I19, P)) dX12_wordIn_28 kX12_ends wm_X12_117 ⟨by decide, by decide⟩ rfl rfl (Nat.le_of_ble_eq_true rfl) (by decide) (by decide) oc20 c20 ?_
        refine z_iconst (w := 0) dX12_wordIn_31 (by decide) ?_
        obtain ⟨rfl, rfl⟩ := H21
        exact z_iret dX12_wordIn_32 rfl (by decide) (by decide)
theorem eX12_wordIn {g : zG} {I : Nat → Nat → Int32} {P : Nat → Nat → Option Nat} {r : Option Value} {h' : zH} {a0 : Nat} {x1 : Int32} {x2 : Int32} (H : Zt none mX12_wordIn 0 0 0 [(0, .ref a0), (1, .int x1), (2, .int x2)] [] (g, I, P) r h') : Cl mX12_wordIn [.ref a0, .int x1, .int x2] (g, I, P) r h' := Cl.of (by decide) (Nat.le_of_ble_eq_true rfl) H
theorem dX12_endsLine_0 : decode cX12_endsLine 0 = .ok (.aload_n 0, 1) := by decide +kernel
theorem dX12_endsLine_1 : decode cX12_endsLine 1 = .ok (.getfield 113, 3) := by decide +kernel
theorem dX12_endsLine_4 : decode cX12_endsLine 4 = .ok (.ifCond .ne 18, 3) := by decide +kernel
theorem dX12_endsLine_7 : decode cX12_endsLine 7 = .ok (.aload_n 0, 1) := by decide +kernel
theorem dX12_endsLine_8 : decode cX12_endsLine 8 = .ok (.getfield 89, 3) := by decide +kernel
theorem dX12_endsLine_11 : decode cX12_endsLine 11 = .ok (.iconst 2, 1) := by decide +kernel
theorem dX12_endsLine_12 : decode cX12_endsLine 12 = .ok (.if_icmp .ne 10, 3) := by decide +kernel
theorem dX12_endsLine_15 : decode cX12_endsLine 15 = .ok (.aload_n 0, 1) := by decide +kernel
theorem dX12_endsLine_16 : decode cX12_endsLine 16 = .ok (.invokevirtual 128, 3) := by decide +kernel
theorem dX12_endsLine_19 : decode cX12_endsLine 19 = .ok (.goto 7, 3) := by decide +kernel
theorem dX12_endsLine_22 : decode cX12_endsLine 22 = .ok (.aload_n 0, 1) := by decide +kernel
theorem dX12_endsLine_23 : decode cX12_endsLine 23 = .ok (.invokevirtual 117, 3) := by decide +kernel
theorem dX12_endsLine_26 : decode cX12_endsLine 26 = .ok (.return_, 1) := by decide +kernel
set_option maxRecDepth 10000 in
theorem wX12_endsLine_0 {g : zG} {I : Nat → Nat → Int32} {P : Nat → Nat → Option Nat} {r : Option Value} {h' : zH} {a0 : Nat} (H : zk g a0 12 ∧ ((¬ I a0 8 = 0) → zk g a0 12 ∧ ∃ (I2 : Nat → Nat → Int32), Cl mX12_ends [.ref a0] (g, I, P) none (g, I2, P) ∧ r = none ∧ h' = (g, I2, P)) ∧ ((I a0 8 = 0) → zk g a0 12 ∧ ((¬ (I a0 5) = 2) → zk g a0 12 ∧ ∃ (I7 : Nat → Nat → Int32), Cl mX12_ends [.ref a0] (g, I, P) none (g, I7, P) ∧ r = none ∧ h' = (g, I7, P)) ∧ ((I a0 5 = 2) → zk g a0 12 ∧ ∃ (I11 : Nat → Nat → Int32), Cl mX12_advance [.ref a0] (g, I, P) none (g, I11, P) ∧ r = none ∧ h' = (g, I11, P)))) : Zt none mX12_endsLine 0 0 0 [(0, .ref a0)] [] (g, I, P) r h' := by
  refine z_aload_n 0 dX12_endsLine_0 rfl rfl (z_getI dX12_endsLine_1 wf_X12_113 (by decide) (by decide) rfl H.1 ?_)
  refine z_if_ne (t := 22) dX12_endsLine_4 (by decide) (fun q => ?_) (fun q => ?_)
  · have H1 := H.2.1 q
    refine z_aload_n 0 dX12_endsLine_22 rfl rfl ?_
    obtain ⟨oc3, I2, c3, H4⟩ := H1
    refine z_virt (As := []) (st := []) (r1 := none) (h1 := (g, I2, P)) dX12_endsLine_23 kX12_ends wm_X12_117 ⟨by decide, by decide⟩ rfl rfl (Nat.le_of_ble_eq_true rfl) (by decide) (by decide) oc3 c3 ?_
    obtain ⟨rfl, rfl⟩ := H4
    exact z_vret dX12_endsLine_26 rfl (by decide) (by decide)
  · have H5 := H.2.2 q
    refine z_aload_n 0 dX12_endsLine_7 rfl rfl (z_getI dX12_endsLine_8 wf_X12_89 (by decide) (by decide) rfl H5.1 (z_iconst (w := 2) dX12_endsLine_11 (by decide) ?_))
    refine z_icmp_ne (t := 22) dX12_endsLine_12 (by decide) (fun q => ?_) (fun q => ?_)
    · have H6 := H5.2.1 q
      refine z_aload_n 0 dX12_endsLine_22 rfl rfl ?_
      obtain ⟨oc8, I7, c8, H9⟩ := H6
      refine z_virt (As := []) (st := []) (r1 := none) (h1 := (g, I7, P)) dX12_endsLine_23 kX12_ends wm_X12_117 ⟨by decide, by decide⟩ rfl rfl (Nat.le_of_ble_eq_true rfl) (by decide) (by decide) oc8 c8 ?_
      obtain ⟨rfl, rfl⟩ := H9
      exact z_vret dX12_endsLine_26 rfl (by decide) (by decide)
    · have H10 := H5.2.2 q
      refine z_aload_n 0 dX12_endsLine_15 rfl rfl ?_
      obtain ⟨oc12, I11, c12, H13⟩ := H10
      refine z_virt (As := []) (st := []) (r1 := none) (h1 := (g, I11, P)) dX12_endsLine_16 kX12_advance wm_X12_128 ⟨by decide, by decide⟩ rfl rfl (Nat.le_of_ble_eq_true rfl) (by decide) (by decide) oc12 c12 ?_
      refine z_goto (t := 26) dX12_endsLine_19 (by decide) ?_
      obtain ⟨rfl, rfl⟩ := H13
      exact z_vret dX12_endsLine_26 rfl (by decide) (by decide)
theorem eX12_endsLine {g : zG} {I : Nat → Nat → Int32} {P : Nat → Nat → Option Nat} {r : Option Value} {h' : zH} {a0 : Nat} (H : Zt none mX12_endsLine 0 0 0 [(0, .ref a0)] [] (g, I, P) r h') : Cl mX12_endsLine [.ref a0] (g, I, P) r h' := Cl.of (by decide) (Nat.le_of_ble_eq_true rfl) H
theorem dX12_rowTold_0 : decode cX12_rowTold 0 = .ok (.aload_n 0, 1) := by decide +kernel
theorem dX12_rowTold_1 : decode cX12_rowTold 1 = .ok (.iconst 0, 1) := by decide +kernel
theorem dX12_rowTold_2 : decode cX12_rowTold 2 = .ok (.putfield 131, 3) := by decide +kernel
theorem dX12_rowTold_5 : decode cX12_rowTold 5 = .ok (.aload_n 0, 1) := by decide +kernel
theorem dX12_rowTold_6 : decode cX12_rowTold 6 = .ok (.getfield 113, 3) := by decide +kernel
theorem dX12_rowTold_9 : decode cX12_rowTold 9 = .ok (.ifCond .ne 11, 3) := by decide +kernel
theorem dX12_rowTold_12 : decode cX12_rowTold 12 = .ok (.aload_n 0, 1) := by decide +kernel
theorem dX12_rowTold_13 : decode cX12_rowTold 13 = .ok (.getfield 89, 3) := by decide +kernel
theorem dX12_rowTold_16 : decode cX12_rowTold 16 = .ok (.iconst 3, 1) := by decide +kernel
theorem dX12_rowTold_17 : decode cX12_rowTold 17 = .ok (.if_icmp .eq 8, 3) := by decide +kernel
theorem dX12_rowTold_20 : decode cX12_rowTold 20 = .ok (.aload_n 0, 1) := by decide +kernel
theorem dX12_rowTold_21 : decode cX12_rowTold 21 = .ok (.invokevirtual 117, 3) := by decide +kernel
theorem dX12_rowTold_24 : decode cX12_rowTold 24 = .ok (.return_, 1) := by decide +kernel
theorem dX12_rowTold_25 : decode cX12_rowTold 25 = .ok (.aload_n 0, 1) := by decide +kernel
theorem dX12_rowTold_26 : decode cX12_rowTold 26 = .ok (.getfield 79, 3) := by decide +kernel
theorem dX12_rowTold_29 : decode cX12_rowTold 29 = .ok (.aload_n 0, 1) := by decide +kernel
theorem dX12_rowTold_30 : decode cX12_rowTold 30 = .ok (.getfield 86, 3) := by decide +kernel
theorem dX12_rowTold_33 : decode cX12_rowTold 33 = .ok (.isub, 1) := by decide +kernel
theorem dX12_rowTold_34 : decode cX12_rowTold 34 = .ok (.iload_n 1, 1) := by decide +kernel
theorem dX12_rowTold_35 : decode cX12_rowTold 35 = .ok (.if_icmp .gt 7, 3) := by decide +kernel
theorem dX12_rowTold_38 : decode cX12_rowTold 38 = .ok (.iconst 1, 1) := by decide +kernel
theorem dX12_rowTold_39 : decode cX12_rowTold 39 = .ok (.goto 4, 3) := by decide +kernel
theorem dX12_rowTold_42 : decode cX12_rowTold 42 = .ok (.iconst 0, 1) := by decide +kernel
theorem dX12_rowTold_43 : decode cX12_rowTold 43 = .ok (.istore_n 2, 1) := by decide +kernel
theorem dX12_rowTold_44 : decode cX12_rowTold 44 = .ok (.aload_n 0, 1) := by decide +kernel
theorem dX12_rowTold_45 : decode cX12_rowTold 45 = .ok (.getfield 86, 3) := by decide +kernel
theorem dX12_rowTold_48 : decode cX12_rowTold 48 = .ok (.istore_n 3, 1) := by decide +kernel
theorem dX12_rowTold_49 : decode cX12_rowTold 49 = .ok (.iload_n 3, 1) := by decide +kernel
theorem dX12_rowTold_50 : decode cX12_rowTold 50 = .ok (.aload_n 0, 1) := by decide +kernel
theorem dX12_rowTold_51 : decode cX12_rowTold 51 = .ok (.getfield 79, 3) := by decide +kernel
theorem dX12_rowTold_54 : decode cX12_rowTold 54 = .ok (.if_icmp .ge 64, 3) := by decide +kernel
theorem dX12_rowTold_57 : decode cX12_rowTold 57 = .ok (.iload_n 2, 1) := by decide +kernel
theorem dX12_rowTold_58 : decode cX12_rowTold 58 = .ok (.ifCond .eq 60, 3) := by decide +kernel
theorem dX12_rowTold_61 : decode cX12_rowTold 61 = .ok (.aload_n 0, 1) := by decide +kernel
theorem dX12_rowTold_62 : decode cX12_rowTold 62 = .ok (.iload_n 3, 1) := by decide +kernel
theorem dX12_rowTold_63 : decode cX12_rowTold 63 = .ok (.invokevirtual 82, 3) := by decide +kernel
theorem dX12_rowTold_66 : decode cX12_rowTold 66 = .ok (.bipush 97, 2) := by decide +kernel
theorem dX12_rowTold_68 : decode cX12_rowTold 68 = .ok (.isub, 1) := by decide +kernel
theorem dX12_rowTold_69 : decode cX12_rowTold 69 = .ok (.istore 4, 2) := by decide +kernel
theorem dX12_rowTold_71 : decode cX12_rowTold 71 = .ok (.iload 4, 2) := by decide +kernel
theorem dX12_rowTold_73 : decode cX12_rowTold 73 = .ok (.bipush 6, 2) := by decide +kernel
theorem dX12_rowTold_75 : decode cX12_rowTold 75 = .ok (.if_icmp .ge 7, 3) := by decide +kernel
theorem dX12_rowTold_78 : decode cX12_rowTold 78 = .ok (.iconst 1, 1) := by decide +kernel
theorem dX12_rowTold_79 : decode cX12_rowTold 79 = .ok (.goto 4, 3) := by decide +kernel
theorem dX12_rowTold_82 : decode cX12_rowTold 82 = .ok (.iconst 0, 1) := by decide +kernel
theorem dX12_rowTold_83 : decode cX12_rowTold 83 = .ok (.istore_n 2, 1) := by decide +kernel
theorem dX12_rowTold_84 : decode cX12_rowTold 84 = .ok (.iload_n 2, 1) := by decide +kernel
theorem dX12_rowTold_85 : decode cX12_rowTold 85 = .ok (.ifCond .ne 6, 3) := by decide +kernel
theorem dX12_rowTold_88 : decode cX12_rowTold 88 = .ok (.goto 24, 3) := by decide +kernel
theorem dX12_rowTold_91 : decode cX12_rowTold 91 = .ok (.aload_n 0, 1) := by decide +kernel
theorem dX12_rowTold_92 : decode cX12_rowTold 92 = .ok (.getfield 20, 3) := by decide +kernel
theorem dX12_rowTold_95 : decode cX12_rowTold 95 = .ok (.aload_n 0, 1) := by decide +kernel
theorem dX12_rowTold_96 : decode cX12_rowTold 96 = .ok (.getfield 131, 3) := by decide +kernel
theorem dX12_rowTold_99 : decode cX12_rowTold 99 = .ok (.iload 4, 2) := by decide +kernel
theorem dX12_rowTold_101 : decode cX12_rowTold 101 = .ok (.iastore, 1) := by decide +kernel
theorem dX12_rowTold_102 : decode cX12_rowTold 102 = .ok (.aload_n 0, 1) := by decide +kernel
theorem dX12_rowTold_103 : decode cX12_rowTold 103 = .ok (.dup, 1) := by decide +kernel
theorem dX12_rowTold_104 : decode cX12_rowTold 104 = .ok (.getfield 131, 3) := by decide +kernel
theorem dX12_rowTold_107 : decode cX12_rowTold 107 = .ok (.iconst 1, 1) := by decide +kernel
theorem dX12_rowTold_108 : decode cX12_rowTold 108 = .ok (.iadd, 1) := by decide +kernel
theorem dX12_rowTold_109 : decode cX12_rowTold 109 = .ok (.putfield 131, 3) := by decide +kernel
theorem dX12_rowTold_112 : decode cX12_rowTold 112 = .ok (.iinc 3 1, 3) := by decide +kernel
theorem dX12_rowTold_115 : decode cX12_rowTold 115 = .ok (.goto (-66), 3) := by decide +kernel
theorem dX12_rowTold_118 : decode cX12_rowTold 118 = .ok (.iload_n 2, 1) := by decide +kernel
theorem dX12_rowTold_119 : decode cX12_rowTold 119 = .ok (.ifCond .ne 12, 3) := by decide +kernel
theorem dX12_rowTold_122 : decode cX12_rowTold 122 = .ok (.aload_n 0, 1) := by decide +kernel
theorem dX12_rowTold_123 : decode cX12_rowTold 123 = .ok (.iconst 2, 1) := by decide +kernel
theorem dX12_rowTold_124 : decode cX12_rowTold 124 = .ok (.aload_n 0, 1) := by decide +kernel
theorem dX12_rowTold_125 : decode cX12_rowTold 125 = .ok (.getfield 86, 3) := by decide +kernel
theorem dX12_rowTold_128 : decode cX12_rowTold 128 = .ok (.invokevirtual 124, 3) := by decide +kernel
theorem dX12_rowTold_131 : decode cX12_rowTold 131 = .ok (.aload_n 0, 1) := by decide +kernel
theorem dX12_rowTold_132 : decode cX12_rowTold 132 = .ok (.invokevirtual 128, 3) := by decide +kernel
theorem dX12_rowTold_135 : decode cX12_rowTold 135 = .ok (.return_, 1) := by decide +kernel
set_option maxRecDepth 10000 in
theorem wX12_rowTold_0 {g : zG} {I : Nat → Nat → Int32} {P : Nat → Nat → Option Nat} {r : Option Value} {h' : zH} {a0 : Nat} {x1 : Int32} (H : zk g a0 12 ∧ zk g a0 12 ∧ ((¬ (zU I a0 12 0) a0 8 = 0) → zk g a0 12 ∧ ∃ (I2 : Nat → Nat → Int32), Cl mX12_ends [.ref a0] (g, zU I a0 12 0, P) none (g, I2, P) ∧ r = none ∧ h' = (g, I2, P)) ∧ (((zU I a0 12 0) a0 8 = 0) → zk g a0 12 ∧ (((zU I a0 12 0) a0 5 = 3) → zk g a0 12 ∧ zk g a0 12 ∧ ((x1 < ((zU I a0 12 0) a0 3) - ((zU I a0 12 0) a0 4)) → zk g a0 12 ∧ Zt none mX12_rowTold 0 0 49 [(0, .ref a0), (2, .int 0), (3, .int ((zU I a0 12 0) a0 4))] [] (g, zU I a0 12 0, P) r h') ∧ ((¬ x1 < ((zU I a0 12 0) a0 3) - ((zU I a0 12 0) a0 4)) → zk g a0 12 ∧ Zt none mX12_rowTold 0 0 49 [(0, .ref a0), (2, .int 1), (3, .int ((zU I a0 12 0) a0 4))] [] (g, zU I a0 12 0, P) r h')) ∧ ((¬ (zU I a0 12 0) a0 5 = 3) → zk g a0 12 ∧ ∃ (I10 : Nat → Nat → Int32), Cl mX12_ends [.ref a0] (g, zU I a0 12 0, P) none (g, I10, P) ∧ r = none ∧ h' = (g, I10, P)))) : Zt none mX12_rowTold 0 0 0 [(0, .ref a0), (1, .int x1)] [] (g, I, P) r h' := by
  refine z_aload_n 0 dX12_rowTold_0 rfl rfl (z_iconst (w := 0) dX12_rowTold_1 (by decide) (z_putI (g := g) (I := I) (Q := P) dX12_rowTold_2 wf_X12_131 (by decide) (by decide) rfl (Or.inl rfl) (zfit_int rfl) H.1 (z_aload_n 0 dX12_rowTold_5 rfl rfl (z_getI dX12_rowTold_6 wf_X12_113 (by decide) (by decide) rfl H.2.1 ?_))))
  refine z_if_ne (t := 20) dX12_rowTold_9 (by decide) (fun q => ?_) (fun q => ?_)
  · have H1 := H.2.2.1 q
    refine z_aload_n 0 dX12_rowTold_20 rfl rfl ?_
    obtain ⟨oc3, I2, c3, H4⟩ := H1
    refine z_virt (As := []) (st := []) (r1 := none) (h1 := (g, I2, P)) dX12_rowTold_21 kX12_ends wm_X12_117 ⟨by decide, by decide⟩ rfl rfl (Nat.le_of_ble_eq_true rfl) (by decide) (by decide) oc3 c3 ?_
    obtain ⟨rfl, rfl⟩ := H4
    exact z_vret dX12_rowTold_24 rfl (by decide) (by decide)
  · have H5 := H.2.2.2 q
    refine z_aload_n 0 dX12_rowTold_12 rfl rfl (z_getI dX12_rowTold_13 wf_X12_89 (by decide) (by decide) rfl H5.1 (z_iconst (w := 3) dX12_rowTold_16 (by decide) ?_))
    refine z_icmp_eq (t := 25) dX12_rowTold_17 (by decide) (fun q => ?_) (fun q => ?_)
    · have H6 := H5.2.1 q
      refine z_aload_n 0 dX12_rowTold_25 rfl rfl (z_getI dX12_rowTold_26 wf_X12_79 (by decide) (by decide) rfl H6.1 (z_aload_n 0 dX12_rowTold_29 rfl rfl (z_getI dX12_rowTold_30 wf_X12_86 (by decide) (by decide) rfl H6.2.1 (z_isub dX12_rowTold_33 (z_iload_n 1 dX12_rowTold_34 rfl ?_)))))
      refine z_icmp_gt (t := 42) dX12_rowTold_35 (by decide) (fun q => ?_) (fun q => ?_)
      · have H7 := H6.2.2.1 q
        refine z_iconst (w := 0) dX12_rowTold_42 (by decide) (z_istore_n (lv' := [(2, .int 0), (0, .ref a0), (1, .int x1)]) dX12_rowTold_43 (by decide) rfl (z_aload_n 1 dX12_rowTold_44 rfl rfl (z_getI dX12_rowTold_45 wf_X12_86 (by decide) (by decide) rfl H7.1 (z_istore_n (lv' := [(3, .int ((zU I a0 12 0) a0 4)), (2, .int 0), (0, .ref a0), (1, .int x1)]) dX12_rowTold_48 (by decide) rfl ?_))))
        exact z_less [2, 1, 0] rfl H7.2
      · have H8 := H6.2.2.2 q
        refine z_iconst (w := 1) dX12_rowTold_38 (by decide) (z_goto (t := 43) dX12_rowTold_39 (by decide) (z_istore_n (lv' := [(2, .int 1), (0, .ref a0), (1, .int x1)]) dX12_rowTold_43 (by decide) rfl (z_aload_n 1 dX12_rowTold_44 rfl rfl (z_getI dX12_rowTold_45 wf_X12_86 (by decide) (by decide) rfl H8.1 (z_istore_n (lv' := [(3, .int ((zU I a0 12 0) a0 4)), (2, .int 1), (0, .ref a0), (1, .int x1)]) dX12_rowTold_48 (by decide) rfl ?_)))))
        exact z_less [2, 1, 0] rfl H8.2
    · have H9 := H5.2.2 q
      refine z_aload_n 0 dX12_rowTold_20 rfl rfl ?_
      obtain ⟨oc11, I10, c11, H12⟩ := H9
      refine z_virt (As := []) (st := []) (r1 := none) (h1 := (g, I10, P)) dX12_rowTold_21 kX12_ends wm_X12_117 ⟨by decide, by decide⟩ rfl rfl (Nat.le_of_ble_eq_true rfl) (by decide) (by decide) oc11 c11 ?_
      obtain ⟨rfl, rfl⟩ := H12
      exact z_vret dX12_rowTold_24 rfl (by decide) (by decide)
theorem eX12_rowTold {g : zG} {I : Nat → Nat → Int32} {P : Nat → Nat → Option Nat} {r : Option Value} {h' : zH} {a0 : Nat} {x1 : Int32} (H : Zt none mX12_rowTold 0 0 0 [(0, .ref a0), (1, .int x1)] [] (g, I, P) r h') : Cl mX12_rowTold [.ref a0, .int x1] (g, I, P) r h' := Cl.of (by decide) (Nat.le_of_ble_eq_true rfl) H
set_option maxRecDepth 10000 in
theorem wX12_rowTold_49 {g : zG} {I : Nat → Nat → Int32} {P : Nat → Nat → Option Nat} {r : Option Value} {h' : zH} {a0 : Nat} {x2 : Int32} {x3 : Int32} (H : zk g a0 12 ∧ ((I a0 3 ≤ x3) → ((¬ x2 = 0) → zk g a0 12 ∧ ∃ (I3 : Nat → Nat → Int32), Cl mX12_advance [.ref a0] (g, I, P) none (g, I3, P) ∧ r = none ∧ h' = (g, I3, P)) ∧ ((x2 = 0) → zk g a0 12 ∧ zk g a0 12 ∧ ∃ (I7 : Nat → Nat → Int32), Cl mX12_also [.ref a0, .int 2, .int (I a0 4)] (g, I, P) none (g, I7, P) ∧ zk g a0 12 ∧ ∃ (I10 : Nat → Nat → Int32), Cl mX12_advance [.ref a0] (g, I7, P) none (g, I10, P) ∧ r = none ∧ h' = (g, I10, P))) ∧ ((¬ I a0 3 ≤ x3) → ((x2 = 0) → ((¬ x2 = 0) → zk g a0 12 ∧ ∃ (I16 : Nat → Nat → Int32), Cl mX12_advance [.ref a0] (g, I, P) none (g, I16, P) ∧ r = none ∧ h' = (g, I16, P)) ∧ ((x2 = 0) → zk g a0 12 ∧ zk g a0 12 ∧ ∃ (I20 : Nat → Nat → Int32), Cl mX12_also [.ref a0, .int 2, .int (I a0 4)] (g, I, P) none (g, I20, P) ∧ zk g a0 12 ∧ ∃ (I23 : Nat → Nat → Int32), Cl mX12_advance [.ref a0] (g, I20, P) none (g, I23, P) ∧ r = none ∧ h' = (g, I23, P))) ∧ ((¬ x2 = 0) → zk g a0 12 ∧ ∃ (w27 : Int32), Cl mX12_byteAt [.ref a0, .int x3] (g, I, P) (some (.int w27)) (g, I, P) ∧ ((6 ≤ w27 - 97) → Zt none mX12_rowTold 0 0 83 [(0, .ref a0), (3, .int x3), (4, .int (w27 - 97))] [.int 0] (g, I, P) r h') ∧ ((¬ 6 ≤ w27 - 97) → Zt none mX12_rowTold 0 0 83 [(0, .ref a0), (3, .int x3), (4, .int (w27 - 97))] [.int 1] (g, I, P) r h')))) : Zt none mX12_rowTold 0 0 49 [(0, .ref a0), (2, .int x2), (3, .int x3)] [] (g, I, P) r h' := by
  refine z_iload_n 2 dX12_rowTold_49 rfl (z_aload_n 0 dX12_rowTold_50 rfl rfl (z_getI dX12_rowTold_51 wf_X12_79 (by decide) (by decide) rfl H.1 ?_))
  refine z_icmp_ge (t := 118) dX12_rowTold_54 (by decide) (fun q => ?_) (fun q => ?_)
  · have H1 := H.2.1 q
    refine z_iload_n 1 dX12_rowTold_118 rfl ?_
    refine z_if_ne (t := 131) dX12_rowTold_119 (by decide) (fun q => ?_) (fun q => ?_)
    · have H2 := H1.1 q
      refine z_aload_n 0 dX12_rowTold_131 rfl rfl ?_
      obtain ⟨oc4, I3, c4, H5⟩ := H2
      refine z_virt (As := []) (st := []) (r1 := none) (h1 := (g, I3, P)) dX12_rowTold_132 kX12_advance wm_X12_128 ⟨by decide, by decide⟩ rfl rfl (Nat.le_of_ble_eq_true rfl) (by decide) (by decide) oc4 c4 ?_
      obtain ⟨rfl, rfl⟩ := H5
      exact z_vret dX12_rowTold_135 rfl (by decide) (by decide)
    · have H6 := H1.2 q
      refine z_aload_n 0 dX12_rowTold_122 rfl rfl (z_iconst (w := 2) dX12_rowTold_123 (by decide) (z_aload_n 0 dX12_rowTold_124 rfl rfl (z_getI dX12_rowTold_125 wf_X12_86 (by decide) (by decide) rfl H6.1 ?_)))
      obtain ⟨oc8, I7, c8, H9⟩ := H6.2
      refine z_virt (As := [.int 2, .int (I a0 4)]) (st := []) (r1 := none) (h1 := (g, I7, P)) dX12_rowTold_128 kX12_also wm_X12_124 ⟨by decide, by decide⟩ rfl rfl (Nat.le_of_ble_eq_true rfl) (by decide) (by decide) oc8 c8 ?_
      refine z_aload_n 0 dX12_rowTold_131 rfl rfl ?_
      obtain ⟨oc11, I10, c11, H12⟩ := H9
      refine z_virt (As := []) (st := []) (r1 := none) (h1 := (g, I10, P)) dX12_rowTold_132 kX12_advance wm_X12_128 ⟨by decide, by decide⟩ rfl rfl (Nat.le_of_ble_eq_true rfl) (by decide) (by decide) oc11 c11 ?_
      obtain ⟨rfl, rfl⟩ := H12
      exact z_vret dX12_rowTold_135 rfl (by decide) (by decide)
  · have H13 := H.2.2 q
    refine z_iload_n 1 dX12_rowTold_57 rfl ?_
    refine z_if_eq (t := 118) dX12_rowTold_58 (by decide) (fun q => ?_) (fun q => ?_)
    · have H14 := H13.1 q
      refine z_iload_n 1 dX12_rowTold_118 rfl ?_
      refine z_if_ne (t := 131) dX12_rowTold_119 (by decide) (fun q => ?_) (fun q => ?_)
      · have H15 := H14.1 q
        refine z_aload_n 0 dX12_rowTold_131 rfl rfl ?_
        obtain ⟨oc17, I16, c17, H18⟩ := H15
        refine z_virt (As := []) (st := []) (r1 := none) (h1 := (g, I16, P)) dX12_rowTold_132 kX12_advance wm_X12_128 ⟨by decide, by decide⟩ rfl rfl (Nat.le_of_ble_eq_true rfl) (by decide) (by decide) oc17 c17 ?_
        obtain ⟨rfl, rfl⟩ := H18
        exact z_vret dX12_rowTold_135 rfl (by decide) (by decide)
      · have H19 := H14.2 q
        refine z_aload_n 0 dX12_rowTold_122 rfl rfl (z_iconst (w := 2) dX12_rowTold_123 (by decide) (z_aload_n 0 dX12_rowTold_124 rfl rfl (z_getI dX12_rowTold_125 wf_X12_86 (by decide) (by decide) rfl H19.1 ?_)))
        obtain ⟨oc21, I20, c21, H22⟩ := H19.2
        refine z_virt (As := [.int 2, .int (I a0 4)]) (st := []) (r1 := none) (h1 := (g, I20, P)) dX12_rowTold_128 kX12_also wm_X12_124 ⟨by decide, by decide⟩ rfl rfl (Nat.le_of_ble_eq_true rfl) (by decide) (by decide) oc21 c21 ?_
        refine z_aload_n 0 dX12_rowTold_131 rfl rfl ?_
        obtain ⟨oc24, I23, c24, H25⟩ := H22
        refine z_virt (As := []) (st := []) (r1 := none) (h1 := (g, I23, P)) dX12_rowTold_132 kX12_advance wm_X12_128 ⟨by decide, by decide⟩ rfl rfl (Nat.le_of_ble_eq_true rfl) (by decide) (by decide) oc24 c24 ?_
        obtain ⟨rfl, rfl⟩ := H25
        exact z_vret dX12_rowTold_135 rfl (by decide) (by decide)
    · have H26 := H13.2 q
      refine z_aload_n 0 dX12_rowTold_61 rfl rfl (z_iload_n 2 dX12_rowTold_62 rfl ?_)
      obtain ⟨oc28, w27, c28, H29⟩ := H26
      refine z_virt (As := [.int x3]) (st := []) (r1 := (some (.int w27))) (h1 := (g, I, P)) dX12_rowTold_63 kX12_byteAt wm_X12_82 ⟨by decide, by decide⟩ rfl rfl (Nat.le_of_ble_eq_true rfl) (by decide) (by decide) oc28 c28 ?_
      refine z_bipush (w := 97) dX12_rowTold_66 (by decide) (z_isub dX12_rowTold_68 (z_istore (lv' := [(4, .int (w27 - 97)), (0, .ref a0), (2, .int x2), (3, .int x3)]) dX12_rowTold_69 (by decide) rfl (z_iload 0 dX12_rowTold_71 rfl (z_bipush (w := 6) dX12_rowTold_73 (by decide) ?_))))
      refine z_icmp_ge (t := 82) dX12_rowTold_75 (by decide) (fun q => ?_) (fun q => ?_)
      · have H30 := H29.1 q
        refine z_iconst (w := 0) dX12_rowTold_82 (by decide) ?_
        exact z_less [1, 3, 0] rfl H30
      · have H31 := H29.2 q
        refine z_iconst (w := 1) dX12_rowTold_78 (by decide) (z_goto (t := 83) dX12_rowTold_79 (by decide) ?_)
        exact z_less [1, 3, 0] rfl H31
set_option maxRecDepth 10000 in
theorem wX12_rowTold_83 {g : zG} {I : Nat → Nat → Int32} {P : Nat → Nat → Option Nat} {r : Option Value} {h' : zH} {a0 : Nat} {x3 : Int32} {x4 : Int32} {xs0 : Int32} (H : ((¬ xs0 = 0) → zk g a0 12 ∧ ∃ b2, P a0 11 = some b2 ∧ zk g a0 12 ∧ zk g b2 13 ∧ vp_in (I a0 12) (g.2.2 b2) ∧ zk g a0 12 ∧ zk g a0 12 ∧ Zt none mX12_rowTold 0 0 49 [(0, .ref a0), (2, .int xs0), (3, .int (x3 + 1))] [] (g, zU (zU I b2 (I a0 12).toNatClampNeg x4) a0 12 (((zU I b2 (I a0 12).toNatClampNeg x4) a0 12) + 1), P) r h') ∧ ((xs0 = 0) → Zt none mX12_rowTold 0 0 49 [(0, .ref a0), (2, .int xs0), (3, .int (x3 + 1))] [] (g, I, P) r h')) : Zt none mX12_rowTold 0 0 83 [(0, .ref a0), (3, .int x3), (4, .int x4)] [.int xs0] (g, I, P) r h' := by
  refine z_istore_n (lv' := [(2, .int xs0), (0, .ref a0), (3, .int x3), (4, .int x4)]) dX12_rowTold_83 (by decide) rfl (z_iload_n 0 dX12_rowTold_84 rfl ?_)
  refine z_if_ne (t := 91) dX12_rowTold_85 (by decide) (fun q => ?_) (fun q => ?_)
  · have H1 := H.1 q
    refine z_aload_n 1 dX12_rowTold_91 rfl rfl ?_
    obtain ⟨oe4, b2, e4, H3⟩ := H1
    refine z_getP dX12_rowTold_92 wf_X12_20 (by decide) (by decide) rfl oe4 (fun q => (by cases q.symm.trans e4)) (fun j q => ?_)
    cases q.symm.trans e4
    refine z_aload_n 1 dX12_rowTold_95 rfl rfl (z_getI dX12_rowTold_96 wf_X12_131 (by decide) (by decide) rfl H3.1 (z_iload 3 dX12_rowTold_99 rfl (z_iast (g := g) (I := I) (Q := P) dX12_rowTold_101 H3.2.1 H3.2.2.1 (z_aload_n 1 dX12_rowTold_102 rfl rfl (z_dup dX12_rowTold_103 rfl (z_getI dX12_rowTold_104 wf_X12_131 (by decide) (by decide) rfl H3.2.2.2.1 (z_iconst (w := 1) dX12_rowTold_107 (by decide) (z_iadd dX12_rowTold_108 (z_putI (g := g) (I := zU I b2 (I a0 12).toNatClampNeg x4) (Q := P) dX12_rowTold_109 wf_X12_131 (by decide) (by decide) rfl (Or.inl rfl) (zfit_int rfl) H3.2.2.2.2.1 (z_iinc (y := x3 + 1) (lv' := [(3, .int (x3 + 1)), (2, .int xs0), (0, .ref a0), (4, .int x4)]) 2 dX12_rowTold_112 rfl rfl (by decide) rfl (z_goto (t := 49) dX12_rowTold_115 (by decide) ?_)))))))))))
    exact z_less [2, 1, 0] rfl H3.2.2.2.2.2
  · have H5 := H.2 q
    refine z_goto (t := 112) dX12_rowTold_88 (by decide) (z_iinc (y := x3 + 1) (lv' := [(3, .int (x3 + 1)), (2, .int xs0), (0, .ref a0), (4, .int x4)]) 2 dX12_rowTold_112 rfl rfl (by decide) rfl (z_goto (t := 49) dX12_rowTold_115 (by decide) ?_))
    exact z_less [2, 1, 0] rfl H5
theorem dX12_wordTold_0 : decode cX12_wordTold 0 = .ok (.aload_n 0, 1) := by decide +kernel
theorem dX12_wordTold_1 : decode cX12_wordTold 1 = .ok (.iconst 0, 1) := by decide +kernel
theorem dX12_wordTold_2 : decode cX12_wordTold 2 = .ok (.bipush 9, 2) := by decide +kernel
theorem dX12_wordTold_4 : decode cX12_wordTold 4 = .ok (.invokevirtual 134, 3) := by decide +kernel
theorem dX12_wordTold_7 : decode cX12_wordTold 7 = .ok (.istore_n 1, 1) := by decide +kernel
theorem dX12_wordTold_8 : decode cX12_wordTold 8 = .ok (.aload_n 0, 1) := by decide +kernel
theorem dX12_wordTold_9 : decode cX12_wordTold 9 = .ok (.iload_n 1, 1) := by decide +kernel
theorem dX12_wordTold_10 : decode cX12_wordTold 10 = .ok (.aload_n 0, 1) := by decide +kernel
theorem dX12_wordTold_11 : decode cX12_wordTold 11 = .ok (.getfield 138, 3) := by decide +kernel
theorem dX12_wordTold_14 : decode cX12_wordTold 14 = .ok (.if_icmp .le 7, 3) := by decide +kernel
theorem dX12_wordTold_17 : decode cX12_wordTold 17 = .ok (.iload_n 1, 1) := by decide +kernel
theorem dX12_wordTold_18 : decode cX12_wordTold 18 = .ok (.goto 7, 3) := by decide +kernel
theorem dX12_wordTold_21 : decode cX12_wordTold 21 = .ok (.aload_n 0, 1) := by decide +kernel
theorem dX12_wordTold_22 : decode cX12_wordTold 22 = .ok (.getfield 138, 3) := by decide +kernel
theorem dX12_wordTold_25 : decode cX12_wordTold 25 = .ok (.putfield 138, 3) := by decide +kernel
theorem dX12_wordTold_28 : decode cX12_wordTold 28 = .ok (.iload_n 1, 1) := by decide +kernel
theorem dX12_wordTold_29 : decode cX12_wordTold 29 = .ok (.ireturn, 1) := by decide +kernel
set_option maxRecDepth 10000 in
theorem wX12_wordTold_0 {g : zG} {I : Nat → Nat → Int32} {P : Nat → Nat → Option Nat} {r : Option Value} {h' : zH} {a0 : Nat} (H : zk g a0 12 ∧ ∃ (w1 : Int32) (I2 : Nat → Nat → Int32), Cl mX12_numbered [.ref a0, .int 0, .int 9] (g, I, P) (some (.int w1)) (g, I2, P) ∧ zk g a0 12 ∧ ((w1 ≤ I2 a0 9) → zk g a0 12 ∧ zk g a0 12 ∧ r = some (.int w1) ∧ h' = (g, zU I2 a0 9 (I2 a0 9), P)) ∧ ((¬ w1 ≤ I2 a0 9) → zk g a0 12 ∧ r = some (.int w1) ∧ h' = (g, zU I2 a0 9 w1, P))) : Zt none mX12_wordTold 0 0 0 [(0, .ref a0)] [] (g, I, P) r h' := by
  refine z_aload_n 0 dX12_wordTold_0 rfl rfl (z_iconst (w := 0) dX12_wordTold_1 (by decide) (z_bipush (w := 9) dX12_wordTold_2 (by decide) ?_))
  obtain ⟨oc3, w1, I2, c3, H4⟩ := H
  refine z_virt (As := [.int 0, .int 9]) (st := []) (r1 := (some (.int w1))) (h1 := (g, I2, P)) dX12_wordTold_4 kX12_numbered wm_X12_134 ⟨by decide, by decide⟩ rfl rfl (Nat.le_of_ble_eq_true rfl) (by decide) (by decide) oc3 c3 ?_
  refine z_istore_n (lv' := [(1, .int w1), (0, .ref a0)]) dX12_wordTold_7 (by decide) rfl (z_aload_n 1 dX12_wordTold_8 rfl rfl (z_iload_n 0 dX12_wordTold_9 rfl (z_aload_n 1 dX12_wordTold_10 rfl rfl (z_getI dX12_wordTold_11 wf_X12_138 (by decide) (by decide) rfl H4.1 ?_))))
  refine z_icmp_le (t := 21) dX12_wordTold_14 (by decide) (fun q => ?_) (fun q => ?_)
  · have H5 := H4.2.1 q
    refine z_aload_n 1 dX12_wordTold_21 rfl rfl (z_getI dX12_wordTold_22 wf_X12_138 (by decide) (by decide) rfl H5.1 (z_putI (g := g) (I := I2) (Q := P) dX12_wordTold_25 wf_X12_138 (by decide) (by decide) rfl (Or.inl rfl) (zfit_int rfl) H5.2.1 (z_iload_n 0 dX12_wordTold_28 rfl ?_)))
    obtain ⟨rfl, rfl⟩ := H5.2.2
    exact z_iret dX12_wordTold_29 rfl (by decide) (by decide)
  · have H6 := H4.2.2 q
    refine z_iload_n 0 dX12_wordTold_17 rfl (z_goto (t := 25) dX12_wordTold_18 (by decide) (z_putI (g := g) (I := I2) (Q := P) dX12_wordTold_25 wf_X12_138 (by decide) (by decide) rfl (Or.inl rfl) (zfit_int rfl) H6.1 (z_iload_n 0 dX12_wordTold_28 rfl ?_)))
    obtain ⟨rfl, rfl⟩ := H6.2
    exact z_iret dX12_wordTold_29 rfl (by decide) (by decide)
theorem eX12_wordTold {g : zG} {I : Nat → Nat → Int32} {P : Nat → Nat → Option Nat} {r : Option Value} {h' : zH} {a0 : Nat} (H : Zt none mX12_wordTold 0 0 0 [(0, .ref a0)] [] (g, I, P) r h') : Cl mX12_wordTold [.ref a0] (g, I, P) r h' := Cl.of (by decide) (Nat.le_of_ble_eq_true rfl) H
theorem dX12_wordLine_0 : decode cX12_wordLine 0 = .ok (.aload_n 0, 1) := by decide +kernel
theorem dX12_wordLine_1 : decode cX12_wordLine 1 = .ok (.getfield 17, 3) := by decide +kernel
theorem dX12_wordLine_4 : decode cX12_wordLine 4 = .ok (.iconst 1, 1) := by decide +kernel
theorem dX12_wordLine_5 : decode cX12_wordLine 5 = .ok (.iaload, 1) := by decide +kernel
theorem dX12_wordLine_6 : decode cX12_wordLine 6 = .ok (.bipush 10, 2) := by decide +kernel
theorem dX12_wordLine_8 : decode cX12_wordLine 8 = .ok (.if_icmp .ge 7, 3) := by decide +kernel
theorem dX12_wordLine_11 : decode cX12_wordLine 11 = .ok (.iconst 1, 1) := by decide +kernel
theorem dX12_wordLine_12 : decode cX12_wordLine 12 = .ok (.goto 4, 3) := by decide +kernel
theorem dX12_wordLine_15 : decode cX12_wordLine 15 = .ok (.iconst 0, 1) := by decide +kernel
theorem dX12_wordLine_16 : decode cX12_wordLine 16 = .ok (.istore_n 2, 1) := by decide +kernel
theorem dX12_wordLine_17 : decode cX12_wordLine 17 = .ok (.iload_n 2, 1) := by decide +kernel
theorem dX12_wordLine_18 : decode cX12_wordLine 18 = .ok (.ifCond .ne 9, 3) := by decide +kernel
theorem dX12_wordLine_21 : decode cX12_wordLine 21 = .ok (.aload_n 0, 1) := by decide +kernel
theorem dX12_wordLine_22 : decode cX12_wordLine 22 = .ok (.iconst 3, 1) := by decide +kernel
theorem dX12_wordLine_23 : decode cX12_wordLine 23 = .ok (.iload_n 1, 1) := by decide +kernel
theorem dX12_wordLine_24 : decode cX12_wordLine 24 = .ok (.invokevirtual 124, 3) := by decide +kernel
theorem dX12_wordLine_27 : decode cX12_wordLine 27 = .ok (.aload_n 0, 1) := by decide +kernel
theorem dX12_wordLine_28 : decode cX12_wordLine 28 = .ok (.bipush 6, 2) := by decide +kernel
theorem dX12_wordLine_30 : decode cX12_wordLine 30 = .ok (.invokevirtual 141, 3) := by decide +kernel
theorem dX12_wordLine_33 : decode cX12_wordLine 33 = .ok (.aload_n 0, 1) := by decide +kernel
theorem dX12_wordLine_34 : decode cX12_wordLine 34 = .ok (.iconst 0, 1) := by decide +kernel
theorem dX12_wordLine_35 : decode cX12_wordLine 35 = .ok (.bipush 99, 2) := by decide +kernel
theorem dX12_wordLine_37 : decode cX12_wordLine 37 = .ok (.invokevirtual 134, 3) := by decide +kernel
theorem dX12_wordLine_40 : decode cX12_wordLine 40 = .ok (.istore_n 3, 1) := by decide +kernel
theorem dX12_wordLine_41 : decode cX12_wordLine 41 = .ok (.iload_n 2, 1) := by decide +kernel
theorem dX12_wordLine_42 : decode cX12_wordLine 42 = .ok (.ifCond .ne 4, 3) := by decide +kernel
theorem dX12_wordLine_45 : decode cX12_wordLine 45 = .ok (.return_, 1) := by decide +kernel
theorem dX12_wordLine_46 : decode cX12_wordLine 46 = .ok (.iconst 2, 1) := by decide +kernel
theorem dX12_wordLine_47 : decode cX12_wordLine 47 = .ok (.bipush 8, 2) := by decide +kernel
theorem dX12_wordLine_49 : decode cX12_wordLine 49 = .ok (.aload_n 0, 1) := by decide +kernel
theorem dX12_wordLine_50 : decode cX12_wordLine 50 = .ok (.getfield 17, 3) := by decide +kernel
theorem dX12_wordLine_53 : decode cX12_wordLine 53 = .ok (.iconst 1, 1) := by decide +kernel
theorem dX12_wordLine_54 : decode cX12_wordLine 54 = .ok (.iaload, 1) := by decide +kernel
theorem dX12_wordLine_55 : decode cX12_wordLine 55 = .ok (.imul, 1) := by decide +kernel
theorem dX12_wordLine_56 : decode cX12_wordLine 56 = .ok (.iadd, 1) := by decide +kernel
theorem dX12_wordLine_57 : decode cX12_wordLine 57 = .ok (.istore 4, 2) := by decide +kernel
theorem dX12_wordLine_59 : decode cX12_wordLine 59 = .ok (.aload_n 0, 1) := by decide +kernel
theorem dX12_wordLine_60 : decode cX12_wordLine 60 = .ok (.getfield 17, 3) := by decide +kernel
theorem dX12_wordLine_63 : decode cX12_wordLine 63 = .ok (.iload 4, 2) := by decide +kernel
theorem dX12_wordLine_65 : decode cX12_wordLine 65 = .ok (.aload_n 0, 1) := by decide +kernel
theorem dX12_wordLine_66 : decode cX12_wordLine 66 = .ok (.getfield 131, 3) := by decide +kernel
theorem dX12_wordLine_69 : decode cX12_wordLine 69 = .ok (.iastore, 1) := by decide +kernel
theorem dX12_wordLine_70 : decode cX12_wordLine 70 = .ok (.aload_n 0, 1) := by decide +kernel
theorem dX12_wordLine_71 : decode cX12_wordLine 71 = .ok (.getfield 17, 3) := by decide +kernel
theorem dX12_wordLine_74 : decode cX12_wordLine 74 = .ok (.iload 4, 2) := by decide +kernel
theorem dX12_wordLine_76 : decode cX12_wordLine 76 = .ok (.iconst 1, 1) := by decide +kernel
theorem dX12_wordLine_77 : decode cX12_wordLine 77 = .ok (.iadd, 1) := by decide +kernel
theorem dX12_wordLine_78 : decode cX12_wordLine 78 = .ok (.iload_n 3, 1) := by decide +kernel
theorem dX12_wordLine_79 : decode cX12_wordLine 79 = .ok (.iastore, 1) := by decide +kernel
theorem dX12_wordLine_80 : decode cX12_wordLine 80 = .ok (.iconst 0, 1) := by decide +kernel
theorem dX12_wordLine_81 : decode cX12_wordLine 81 = .ok (.istore 5, 2) := by decide +kernel
theorem dX12_wordLine_83 : decode cX12_wordLine 83 = .ok (.iload 5, 2) := by decide +kernel
theorem dX12_wordLine_85 : decode cX12_wordLine 85 = .ok (.aload_n 0, 1) := by decide +kernel
theorem dX12_wordLine_86 : decode cX12_wordLine 86 = .ok (.getfield 131, 3) := by decide +kernel
theorem dX12_wordLine_89 : decode cX12_wordLine 89 = .ok (.if_icmp .ge 28, 3) := by decide +kernel
theorem dX12_wordLine_92 : decode cX12_wordLine 92 = .ok (.aload_n 0, 1) := by decide +kernel
theorem dX12_wordLine_93 : decode cX12_wordLine 93 = .ok (.getfield 17, 3) := by decide +kernel
theorem dX12_wordLine_96 : decode cX12_wordLine 96 = .ok (.iload 4, 2) := by decide +kernel
theorem dX12_wordLine_98 : decode cX12_wordLine 98 = .ok (.iconst 2, 1) := by decide +kernel
theorem dX12_wordLine_99 : decode cX12_wordLine 99 = .ok (.iadd, 1) := by decide +kernel
theorem dX12_wordLine_100 : decode cX12_wordLine 100 = .ok (.iload 5, 2) := by decide +kernel
theorem dX12_wordLine_102 : decode cX12_wordLine 102 = .ok (.iadd, 1) := by decide +kernel
theorem dX12_wordLine_103 : decode cX12_wordLine 103 = .ok (.aload_n 0, 1) := by decide +kernel
theorem dX12_wordLine_104 : decode cX12_wordLine 104 = .ok (.getfield 20, 3) := by decide +kernel
theorem dX12_wordLine_107 : decode cX12_wordLine 107 = .ok (.iload 5, 2) := by decide +kernel
theorem dX12_wordLine_109 : decode cX12_wordLine 109 = .ok (.iaload, 1) := by decide +kernel
theorem dX12_wordLine_110 : decode cX12_wordLine 110 = .ok (.iastore, 1) := by decide +kernel
theorem dX12_wordLine_111 : decode cX12_wordLine 111 = .ok (.iinc 5 1, 3) := by decide +kernel
theorem dX12_wordLine_114 : decode cX12_wordLine 114 = .ok (.goto (-31), 3) := by decide +kernel
theorem dX12_wordLine_117 : decode cX12_wordLine 117 = .ok (.aload_n 0, 1) := by decide +kernel
theorem dX12_wordLine_118 : decode cX12_wordLine 118 = .ok (.getfield 17, 3) := by decide +kernel
theorem dX12_wordLine_121 : decode cX12_wordLine 121 = .ok (.iconst 1, 1) := by decide +kernel
theorem dX12_wordLine_122 : decode cX12_wordLine 122 = .ok (.dup2, 1) := by decide +kernel
theorem dX12_wordLine_123 : decode cX12_wordLine 123 = .ok (.iaload, 1) := by decide +kernel
theorem dX12_wordLine_124 : decode cX12_wordLine 124 = .ok (.iconst 1, 1) := by decide +kernel
theorem dX12_wordLine_125 : decode cX12_wordLine 125 = .ok (.iadd, 1) := by decide +kernel
theorem dX12_wordLine_126 : decode cX12_wordLine 126 = .ok (.iastore, 1) := by decide +kernel
theorem dX12_wordLine_127 : decode cX12_wordLine 127 = .ok (.return_, 1) := by decide +kernel
set_option maxRecDepth 10000 in
theorem wX12_wordLine_0 {g : zG} {I : Nat → Nat → Int32} {P : Nat → Nat → Option Nat} {r : Option Value} {h' : zH} {a0 : Nat} {x1 : Int32} (H : zk g a0 12 ∧ ∃ b1, P a0 10 = some b1 ∧ zk g b1 13 ∧ vp_in 1 (g.2.2 b1) ∧ ((10 ≤ I b1 (1 : Int32).toNatClampNeg) → ((¬ (0 : Int32) = 0) → Zt none mX12_wordLine 0 0 27 [(0, .ref a0), (2, .int 0)] [] (g, I, P) r h') ∧ (((0 : Int32) = 0) → zk g a0 12 ∧ ∃ (I7 : Nat → Nat → Int32), Cl mX12_also [.ref a0, .int 3, .int x1] (g, I, P) none (g, I7, P) ∧ Zt none mX12_wordLine 0 0 27 [(0, .ref a0), (2, .int 0)] [] (g, I7, P) r h')) ∧ ((¬ 10 ≤ I b1 (1 : Int32).toNatClampNeg) → ((¬ (1 : Int32) = 0) → Zt none mX12_wordLine 0 0 27 [(0, .ref a0), (2, .int 1)] [] (g, I, P) r h') ∧ (((1 : Int32) = 0) → zk g a0 12 ∧ ∃ (I13 : Nat → Nat → Int32), Cl mX12_also [.ref a0, .int 3, .int x1] (g, I, P) none (g, I13, P) ∧ Zt none mX12_wordLine 0 0 27 [(0, .ref a0), (2, .int 1)] [] (g, I13, P) r h'))) : Zt none mX12_wordLine 0 0 0 [(0, .ref a0), (1, .int x1)] [] (g, I, P) r h' := by
  refine z_aload_n 0 dX12_wordLine_0 rfl rfl ?_
  obtain ⟨oe3, b1, e3, H2⟩ := H
  refine z_getP dX12_wordLine_1 wf_X12_17 (by decide) (by decide) rfl oe3 (fun q => (by cases q.symm.trans e3)) (fun j q => ?_)
  cases q.symm.trans e3
  refine z_iconst (w := 1) dX12_wordLine_4 (by decide) (z_iald dX12_wordLine_5 H2.1 H2.2.1 (z_bipush (w := 10) dX12_wordLine_6 (by decide) ?_))
  refine z_icmp_ge (t := 15) dX12_wordLine_8 (by decide) (fun q => ?_) (fun q => ?_)
  · have H4 := H2.2.2.1 q
    refine z_iconst (w := 0) dX12_wordLine_15 (by decide) (z_istore_n (lv' := [(2, .int 0), (0, .ref a0), (1, .int x1)]) dX12_wordLine_16 (by decide) rfl (z_iload_n 0 dX12_wordLine_17 rfl ?_))
    refine z_if_ne (t := 27) dX12_wordLine_18 (by decide) (fun q => ?_) (fun q => ?_)
    · have H5 := H4.1 q
      exact z_less [1, 0] rfl H5
    · have H6 := H4.2 q
      refine z_aload_n 1 dX12_wordLine_21 rfl rfl (z_iconst (w := 3) dX12_wordLine_22 (by decide) (z_iload_n 2 dX12_wordLine_23 rfl ?_))
      obtain ⟨oc8, I7, c8, H9⟩ := H6
      refine z_virt (As := [.int 3, .int x1]) (st := []) (r1 := none) (h1 := (g, I7, P)) dX12_wordLine_24 kX12_also wm_X12_124 ⟨by decide, by decide⟩ rfl rfl (Nat.le_of_ble_eq_true rfl) (by decide) (by decide) oc8 c8 ?_
      exact z_less [1, 0] rfl H9
  · have H10 := H2.2.2.2 q
    refine z_iconst (w := 1) dX12_wordLine_11 (by decide) (z_goto (t := 16) dX12_wordLine_12 (by decide) (z_istore_n (lv' := [(2, .int 1), (0, .ref a0), (1, .int x1)]) dX12_wordLine_16 (by decide) rfl (z_iload_n 0 dX12_wordLine_17 rfl ?_)))
    refine z_if_ne (t := 27) dX12_wordLine_18 (by decide) (fun q => ?_) (fun q => ?_)
    · have H11 := H10.1 q
      exact z_less [1, 0] rfl H11
    · have H12 := H10.2 q
      refine z_aload_n 1 dX12_wordLine_21 rfl rfl (z_iconst (w := 3) dX12_wordLine_22 (by decide) (z_iload_n 2 dX12_wordLine_23 rfl ?_))
      obtain ⟨oc14, I13, c14, H15⟩ := H12
      refine z_virt (As := [.int 3, .int x1]) (st := []) (r1 := none) (h1 := (g, I13, P)) dX12_wordLine_24 kX12_also wm_X12_124 ⟨by decide, by decide⟩ rfl rfl (Nat.le_of_ble_eq_true rfl) (by decide) (by decide) oc14 c14 ?_
      exact z_less [1, 0] rfl H15
theorem eX12_wordLine {g : zG} {I : Nat → Nat → Int32} {P : Nat → Nat → Option Nat} {r : Option Value} {h' : zH} {a0 : Nat} {x1 : Int32} (H : Zt none mX12_wordLine 0 0 0 [(0, .ref a0), (1, .int x1)] [] (g, I, P) r h') : Cl mX12_wordLine [.ref a0, .int x1] (g, I, P) r h' := Cl.of (by decide) (Nat.le_of_ble_eq_true rfl) H
set_option maxRecDepth 10000 in
theorem wX12_wordLine_27 {g : zG} {I : Nat → Nat → Int32} {P : Nat → Nat → Option Nat} {r : Option Value} {h' : zH} {a0 : Nat} {x2 : Int32} (H : zk g a0 12 ∧ ∃ (I1 : Nat → Nat → Int32), Cl mX12_rowTold [.ref a0, .int 6] (g, I, P) none (g, I1, P) ∧ zk g a0 12 ∧ ∃ (w4 : Int32) (I5 : Nat → Nat → Int32), Cl mX12_numbered [.ref a0, .int 0, .int 99] (g, I1, P) (some (.int w4)) (g, I5, P) ∧ ((¬ x2 = 0) → zk g a0 12 ∧ ∃ b9, P a0 10 = some b9 ∧ zk g b9 13 ∧ vp_in 1 (g.2.2 b9) ∧ ∀ y12 : Int32, y12 = 2 + (8 * (I5 b9 (1 : Int32).toNatClampNeg)) → zk g a0 12 ∧ ∃ b14, P a0 10 = some b14 ∧ zk g a0 12 ∧ zk g b14 13 ∧ vp_in y12 (g.2.2 b14) ∧ zk g a0 12 ∧ ∃ b17, P a0 10 = some b17 ∧ zk g b17 13 ∧ vp_in (y12 + 1) (g.2.2 b17) ∧ Zt none mX12_wordLine 0 0 83 [(0, .ref a0), (4, .int y12), (5, .int 0)] [] (g, zU (zU I5 b14 y12.toNatClampNeg (I5 a0 12)) b17 (y12 + 1).toNatClampNeg w4, P) r h') ∧ ((x2 = 0) → r = none ∧ h' = (g, I5, P))) : Zt none mX12_wordLine 0 0 27 [(0, .ref a0), (2, .int x2)] [] (g, I, P) r h' := by
  refine z_aload_n 0 dX12_wordLine_27 rfl rfl (z_bipush (w := 6) dX12_wordLine_28 (by decide) ?_)
  obtain ⟨oc2, I1, c2, H3⟩ := H
  refine z_virt (As := [.int 6]) (st := []) (r1 := none) (h1 := (g, I1, P)) dX12_wordLine_30 kX12_rowTold wm_X12_141 ⟨by decide, by decide⟩ rfl rfl (Nat.le_of_ble_eq_true rfl) (by decide) (by decide) oc2 c2 ?_
  refine z_aload_n 0 dX12_wordLine_33 rfl rfl (z_iconst (w := 0) dX12_wordLine_34 (by decide) (z_bipush (w := 99) dX12_wordLine_35 (by decide) ?_))
  obtain ⟨oc6, w4, I5, c6, H7⟩ := H3
  refine z_virt (As := [.int 0, .int 99]) (st := []) (r1 := (some (.int w4))) (h1 := (g, I5, P)) dX12_wordLine_37 kX12_numbered wm_X12_134 ⟨by decide, by decide⟩ rfl rfl (Nat.le_of_ble_eq_true rfl) (by decide) (by decide) oc6 c6 ?_
  refine z_istore_n (lv' := [(3, .int w4), (0, .ref a0), (2, .int x2)]) dX12_wordLine_40 (by decide) rfl (z_iload_n 2 dX12_wordLine_41 rfl ?_)
  refine z_if_ne (t := 46) dX12_wordLine_42 (by decide) (fun q => ?_) (fun q => ?_)
  · have H8 := H7.1 q
    refine z_iconst (w := 2) dX12_wordLine_46 (by decide) (z_bipush (w := 8) dX12_wordLine_47 (by decide) (z_aload_n 1 dX12_wordLine_49 rfl rfl ?_))
    obtain ⟨oe11, b9, e11, H10⟩ := H8
    refine z_getP dX12_wordLine_50 wf_X12_17 (by decide) (by decide) rfl oe11 (fun q => (by cases q.symm.trans e11)) (fun j q => ?_)
    cases q.symm.trans e11
    refine z_iconst (w := 1) dX12_wordLine_53 (by decide) (z_iald dX12_wordLine_54 H10.1 H10.2.1 (z_imul dX12_wordLine_55 (z_iadd dX12_wordLine_56 ?_)))
    refine z_nm (fun y12 e_y12 => ?_)
    have H13 := H10.2.2 y12 e_y12
    refine z_istore (lv' := [(4, .int y12), (3, .int w4), (0, .ref a0), (2, .int x2)]) dX12_wordLine_57 (by decide) rfl (z_aload_n 2 dX12_wordLine_59 rfl rfl ?_)
    obtain ⟨oe16, b14, e16, H15⟩ := H13
    refine z_getP dX12_wordLine_60 wf_X12_17 (by decide) (by decide) rfl oe16 (fun q => (by cases q.symm.trans e16)) (fun j q => ?_)
    cases q.symm.trans e16
    refine z_iload 0 dX12_wordLine_63 rfl (z_aload_n 2 dX12_wordLine_65 rfl rfl (z_getI dX12_wordLine_66 wf_X12_131 (by decide) (by decide) rfl H15.1 (z_iast (g := g) (I := I5) (Q := P) dX12_wordLine_69 H15.2.1 H15.2.2.1 (z_aload_n 2 dX12_wordLine_70 rfl rfl ?_))))
    obtain ⟨oe19, b17, e19, H18⟩ := H15.2.2.2
    refine z_getP dX12_wordLine_71 wf_X12_17 (by decide) (by decide) rfl oe19 (fun q => (by cases q.symm.trans e19)) (fun j q => ?_)
    cases q.symm.trans e19
    refine z_iload 0 dX12_wordLine_74 rfl (z_iconst (w := 1) dX12_wordLine_76 (by decide) (z_iadd dX12_wordLine_77 (z_iload_n 1 dX12_wordLine_78 rfl (z_iast (g := g) (I := zU I5 b14 y12.toNatClampNeg (I5 a0 12)) (Q := P) dX12_wordLine_79 H18.1 H18.2.1 (z_iconst (w := 0) dX12_wordLine_80 (by decide) (z_istore (lv' := [(5, .int 0), (4, .int y12), (3, .int w4), (0, .ref a0), (2, .int x2)]) dX12_wordLine_81 (by decide) rfl ?_))))))
    exact z_less [3, 1, 0] rfl H18.2.2
  · have H20 := H7.2 q
    obtain ⟨rfl, rfl⟩ := H20
    exact z_vret dX12_wordLine_45 rfl (by decide) (by decide)
set_option maxRecDepth 10000 in
theorem wX12_wordLine_83 {g : zG} {I : Nat → Nat → Int32} {P : Nat → Nat → Option Nat} {r : Option Value} {h' : zH} {a0 : Nat} {x4 : Int32} {x5 : Int32} (H : zk g a0 12 ∧ ((I a0 12 ≤ x5) → zk g a0 12 ∧ ∃ b2, P a0 10 = some b2 ∧ zk g b2 13 ∧ vp_in 1 (g.2.2 b2) ∧ zk g b2 13 ∧ vp_in 1 (g.2.2 b2) ∧ r = none ∧ h' = (g, zU I b2 (1 : Int32).toNatClampNeg ((I b2 (1 : Int32).toNatClampNeg) + 1), P)) ∧ ((¬ I a0 12 ≤ x5) → zk g a0 12 ∧ ∃ b6, P a0 10 = some b6 ∧ zk g a0 12 ∧ ∃ b9, P a0 11 = some b9 ∧ zk g b9 13 ∧ vp_in x5 (g.2.2 b9) ∧ zk g b6 13 ∧ vp_in ((x4 + 2) + x5) (g.2.2 b6) ∧ Zt none mX12_wordLine 0 0 83 [(0, .ref a0), (4, .int x4), (5, .int (x5 + 1))] [] (g, zU I b6 ((x4 + 2) + x5).toNatClampNeg (I b9 x5.toNatClampNeg), P) r h')) : Zt none mX12_wordLine 0 0 83 [(0, .ref a0), (4, .int x4), (5, .int x5)] [] (g, I, P) r h' := by
  refine z_iload 2 dX12_wordLine_83 rfl (z_aload_n 0 dX12_wordLine_85 rfl rfl (z_getI dX12_wordLine_86 wf_X12_131 (by decide) (by decide) rfl H.1 ?_))
  refine z_icmp_ge (t := 117) dX12_wordLine_89 (by decide) (fun q => ?_) (fun q => ?_)
  · have H1 := H.2.1 q
    refine z_aload_n 0 dX12_wordLine_117 rfl rfl ?_
    obtain ⟨oe4, b2, e4, H3⟩ := H1
    refine z_getP dX12_wordLine_118 wf_X12_17 (by decide) (by decide) rfl oe4 (fun q => (by cases q.symm.trans e4)) (fun j q => ?_)
    cases q.symm.trans e4
    refine z_iconst (w := 1) dX12_wordLine_121 (by decide) (z_dup2 dX12_wordLine_122 rfl rfl (z_iald dX12_wordLine_123 H3.1 H3.2.1 (z_iconst (w := 1) dX12_wordLine_124 (by decide) (z_iadd dX12_wordLine_125 (z_iast (g := g) (I := I) (Q := P) dX12_wordLine_126 H3.2.2.1 H3.2.2.2.1 ?_)))))
    obtain ⟨rfl, rfl⟩ := H3.2.2.2.2
    exact z_vret dX12_wordLine_127 rfl (by decide) (by decide)
  · have H5 := H.2.2 q
    refine z_aload_n 0 dX12_wordLine_92 rfl rfl ?_
    obtain ⟨oe8, b6, e8, H7⟩ := H5
    refine z_getP dX12_wordLine_93 wf_X12_17 (by decide) (by decide) rfl oe8 (fun q => (by cases q.symm.trans e8)) (fun j q => ?_)
    cases q.symm.trans e8
    refine z_iload 1 dX12_wordLine_96 rfl (z_iconst (w := 2) dX12_wordLine_98 (by decide) (z_iadd dX12_wordLine_99 (z_iload 2 dX12_wordLine_100 rfl (z_iadd dX12_wordLine_102 (z_aload_n 0 dX12_wordLine_103 rfl rfl ?_)))))
    obtain ⟨oe11, b9, e11, H10⟩ := H7
    refine z_getP dX12_wordLine_104 wf_X12_20 (by decide) (by decide) rfl oe11 (fun q => (by cases q.symm.trans e11)) (fun j q => ?_)
    cases q.symm.trans e11
    refine z_iload 2 dX12_wordLine_107 rfl (z_iald dX12_wordLine_109 H10.1 H10.2.1 (z_iast (g := g) (I := I) (Q := P) dX12_wordLine_110 H10.2.2.1 H10.2.2.2.1 (z_iinc (y := x5 + 1) (lv' := [(5, .int (x5 + 1)), (0, .ref a0), (4, .int x4)]) 2 dX12_wordLine_111 rfl rfl (by decide) rfl (z_goto (t := 83) dX12_wordLine_114 (by decide) ?_))))
    exact z_less [1, 2, 0] rfl H10.2.2.2.2
theorem dX12_hillLine_0 : decode cX12_hillLine 0 = .ok (.aload_n 0, 1) := by decide +kernel
theorem dX12_hillLine_1 : decode cX12_hillLine 1 = .ok (.getfield 86, 3) := by decide +kernel
theorem dX12_hillLine_4 : decode cX12_hillLine 4 = .ok (.istore_n 1, 1) := by decide +kernel
theorem dX12_hillLine_5 : decode cX12_hillLine 5 = .ok (.aload_n 0, 1) := by decide +kernel
theorem dX12_hillLine_6 : decode cX12_hillLine 6 = .ok (.iconst 1, 1) := by decide +kernel
theorem dX12_hillLine_7 : decode cX12_hillLine 7 = .ok (.iconst 4, 1) := by decide +kernel
theorem dX12_hillLine_8 : decode cX12_hillLine 8 = .ok (.invokevirtual 145, 3) := by decide +kernel
theorem dX12_hillLine_11 : decode cX12_hillLine 11 = .ok (.istore_n 2, 1) := by decide +kernel
theorem dX12_hillLine_12 : decode cX12_hillLine 12 = .ok (.iload_n 2, 1) := by decide +kernel
theorem dX12_hillLine_13 : decode cX12_hillLine 13 = .ok (.iconst 1, 1) := by decide +kernel
theorem dX12_hillLine_14 : decode cX12_hillLine 14 = .ok (.if_icmp .ne 11, 3) := by decide +kernel
theorem dX12_hillLine_17 : decode cX12_hillLine 17 = .ok (.aload_n 0, 1) := by decide +kernel
theorem dX12_hillLine_18 : decode cX12_hillLine 18 = .ok (.iload_n 1, 1) := by decide +kernel
theorem dX12_hillLine_19 : decode cX12_hillLine 19 = .ok (.invokevirtual 148, 3) := by decide +kernel
theorem dX12_hillLine_22 : decode cX12_hillLine 22 = .ok (.goto 100, 3) := by decide +kernel
theorem dX12_hillLine_25 : decode cX12_hillLine 25 = .ok (.iload_n 2, 1) := by decide +kernel
theorem dX12_hillLine_26 : decode cX12_hillLine 26 = .ok (.iconst 4, 1) := by decide +kernel
theorem dX12_hillLine_27 : decode cX12_hillLine 27 = .ok (.if_icmp .ne 18, 3) := by decide +kernel
theorem dX12_hillLine_30 : decode cX12_hillLine 30 = .ok (.aload_n 0, 1) := by decide +kernel
theorem dX12_hillLine_31 : decode cX12_hillLine 31 = .ok (.getfield 17, 3) := by decide +kernel
theorem dX12_hillLine_34 : decode cX12_hillLine 34 = .ok (.iconst 0, 1) := by decide +kernel
theorem dX12_hillLine_35 : decode cX12_hillLine 35 = .ok (.aload_n 0, 1) := by decide +kernel
theorem dX12_hillLine_36 : decode cX12_hillLine 36 = .ok (.iconst 1, 1) := by decide +kernel
theorem dX12_hillLine_37 : decode cX12_hillLine 37 = .ok (.iconst 4, 1) := by decide +kernel
theorem dX12_hillLine_38 : decode cX12_hillLine 38 = .ok (.invokevirtual 134, 3) := by decide +kernel
theorem dX12_hillLine_41 : decode cX12_hillLine 41 = .ok (.iastore, 1) := by decide +kernel
theorem dX12_hillLine_42 : decode cX12_hillLine 42 = .ok (.goto 80, 3) := by decide +kernel
theorem dX12_hillLine_45 : decode cX12_hillLine 45 = .ok (.iload_n 2, 1) := by decide +kernel
theorem dX12_hillLine_46 : decode cX12_hillLine 46 = .ok (.ifCond .eq 76, 3) := by decide +kernel
theorem dX12_hillLine_49 : decode cX12_hillLine 49 = .ok (.iload_n 2, 1) := by decide +kernel
theorem dX12_hillLine_50 : decode cX12_hillLine 50 = .ok (.iconst 2, 1) := by decide +kernel
theorem dX12_hillLine_51 : decode cX12_hillLine 51 = .ok (.if_icmp .ne 10, 3) := by decide +kernel
theorem dX12_hillLine_54 : decode cX12_hillLine 54 = .ok (.aload_n 0, 1) := by decide +kernel
theorem dX12_hillLine_55 : decode cX12_hillLine 55 = .ok (.invokevirtual 151, 3) := by decide +kernel
theorem dX12_hillLine_58 : decode cX12_hillLine 58 = .ok (.goto 9, 3) := by decide +kernel
theorem dX12_hillLine_61 : decode cX12_hillLine 61 = .ok (.aload_n 0, 1) := by decide +kernel
theorem dX12_hillLine_62 : decode cX12_hillLine 62 = .ok (.iconst 0, 1) := by decide +kernel
theorem dX12_hillLine_63 : decode cX12_hillLine 63 = .ok (.iconst 5, 1) := by decide +kernel
theorem dX12_hillLine_64 : decode cX12_hillLine 64 = .ok (.invokevirtual 134, 3) := by decide +kernel
theorem dX12_hillLine_67 : decode cX12_hillLine 67 = .ok (.istore_n 3, 1) := by decide +kernel
theorem dX12_hillLine_68 : decode cX12_hillLine 68 = .ok (.aload_n 0, 1) := by decide +kernel
theorem dX12_hillLine_69 : decode cX12_hillLine 69 = .ok (.invokevirtual 151, 3) := by decide +kernel
theorem dX12_hillLine_72 : decode cX12_hillLine 72 = .ok (.istore 4, 2) := by decide +kernel
theorem dX12_hillLine_74 : decode cX12_hillLine 74 = .ok (.iload_n 2, 1) := by decide +kernel
theorem dX12_hillLine_75 : decode cX12_hillLine 75 = .ok (.iconst 2, 1) := by decide +kernel
theorem dX12_hillLine_76 : decode cX12_hillLine 76 = .ok (.if_icmp .ne 30, 3) := by decide +kernel
theorem dX12_hillLine_79 : decode cX12_hillLine 79 = .ok (.aload_n 0, 1) := by decide +kernel
theorem dX12_hillLine_80 : decode cX12_hillLine 80 = .ok (.getfield 17, 3) := by decide +kernel
theorem dX12_hillLine_83 : decode cX12_hillLine 83 = .ok (.bipush 82, 2) := by decide +kernel
theorem dX12_hillLine_85 : decode cX12_hillLine 85 = .ok (.iload_n 3, 1) := by decide +kernel
theorem dX12_hillLine_86 : decode cX12_hillLine 86 = .ok (.iadd, 1) := by decide +kernel
theorem dX12_hillLine_87 : decode cX12_hillLine 87 = .ok (.dup2, 1) := by decide +kernel
theorem dX12_hillLine_88 : decode cX12_hillLine 88 = .ok (.iaload, 1) := by decide +kernel
theorem dX12_hillLine_89 : decode cX12_hillLine 89 = .ok (.iconst 1, 1) := by decide +kernel
theorem dX12_hillLine_90 : decode cX12_hillLine 90 = .ok (.iload 4, 2) := by decide +kernel
theorem dX12_hillLine_92 : decode cX12_hillLine 92 = .ok (.ishl, 1) := by decide +kernel
theorem dX12_hillLine_93 : decode cX12_hillLine 93 = .ok (.ior, 1) := by decide +kernel
theorem dX12_hillLine_94 : decode cX12_hillLine 94 = .ok (.iastore, 1) := by decide +kernel
theorem dX12_hillLine_95 : decode cX12_hillLine 95 = .ok (.aload_n 0, 1) := by decide +kernel
theorem dX12_hillLine_96 : decode cX12_hillLine 96 = .ok (.getfield 17, 3) := by decide +kernel
theorem dX12_hillLine_99 : decode cX12_hillLine 99 = .ok (.bipush 98, 2) := by decide +kernel
theorem dX12_hillLine_101 : decode cX12_hillLine 101 = .ok (.iconst 1, 1) := by decide +kernel
theorem dX12_hillLine_102 : decode cX12_hillLine 102 = .ok (.iastore, 1) := by decide +kernel
theorem dX12_hillLine_103 : decode cX12_hillLine 103 = .ok (.goto 19, 3) := by decide +kernel
theorem dX12_hillLine_106 : decode cX12_hillLine 106 = .ok (.aload_n 0, 1) := by decide +kernel
theorem dX12_hillLine_107 : decode cX12_hillLine 107 = .ok (.getfield 17, 3) := by decide +kernel
theorem dX12_hillLine_110 : decode cX12_hillLine 110 = .ok (.bipush 92, 2) := by decide +kernel
theorem dX12_hillLine_112 : decode cX12_hillLine 112 = .ok (.iload_n 3, 1) := by decide +kernel
theorem dX12_hillLine_113 : decode cX12_hillLine 113 = .ok (.iadd, 1) := by decide +kernel
theorem dX12_hillLine_114 : decode cX12_hillLine 114 = .ok (.dup2, 1) := by decide +kernel
theorem dX12_hillLine_115 : decode cX12_hillLine 115 = .ok (.iaload, 1) := by decide +kernel
theorem dX12_hillLine_116 : decode cX12_hillLine 116 = .ok (.iconst 1, 1) := by decide +kernel
theorem dX12_hillLine_117 : decode cX12_hillLine 117 = .ok (.iload 4, 2) := by decide +kernel
theorem dX12_hillLine_119 : decode cX12_hillLine 119 = .ok (.ishl, 1) := by decide +kernel
theorem dX12_hillLine_120 : decode cX12_hillLine 120 = .ok (.ior, 1) := by decide +kernel
theorem dX12_hillLine_121 : decode cX12_hillLine 121 = .ok (.iastore, 1) := by decide +kernel
theorem dX12_hillLine_122 : decode cX12_hillLine 122 = .ok (.aload_n 0, 1) := by decide +kernel
theorem dX12_hillLine_123 : decode cX12_hillLine 123 = .ok (.invokevirtual 155, 3) := by decide +kernel
theorem dX12_hillLine_126 : decode cX12_hillLine 126 = .ok (.return_, 1) := by decide +kernel
set_option maxRecDepth 10000 in
theorem wX12_hillLine_0 {g : zG} {I : Nat → Nat → Int32} {P : Nat → Nat → Option Nat} {r : Option Value} {h' : zH} {a0 : Nat} (H : zk g a0 12 ∧ zk g a0 12 ∧ ∃ (w1 : Int32) (I2 : Nat → Nat → Int32), Cl mX12_wordIn [.ref a0, .int 1, .int 4] (g, I, P) (some (.int w1)) (g, I2, P) ∧ ((¬ w1 = 1) → ((¬ w1 = 4) → ((w1 = 0) → zk g a0 12 ∧ ∃ (I8 : Nat → Nat → Int32), Cl mX12_endsLine [.ref a0] (g, I2, P) none (g, I8, P) ∧ r = none ∧ h' = (g, I8, P)) ∧ ((¬ w1 = 0) → ((¬ w1 = 2) → zk g a0 12 ∧ ∃ (w13 : Int32) (I14 : Nat → Nat → Int32), Cl mX12_numbered [.ref a0, .int 0, .int 5] (g, I2, P) (some (.int w13)) (g, I14, P) ∧ Zt none mX12_hillLine 0 0 67 [(0, .ref a0), (2, .int w1)] [.int w13] (g, I14, P) r h') ∧ ((w1 = 2) → zk g a0 12 ∧ ∃ (w18 : Int32) (I19 : Nat → Nat → Int32), Cl mX12_wordTold [.ref a0] (g, I2, P) (some (.int w18)) (g, I19, P) ∧ Zt none mX12_hillLine 0 0 67 [(0, .ref a0), (2, .int w1)] [.int w18] (g, I19, P) r h'))) ∧ ((w1 = 4) → zk g a0 12 ∧ ∃ b23, P a0 10 = some b23 ∧ zk g a0 12 ∧ ∃ (w26 : Int32) (I27 : Nat → Nat → Int32), Cl mX12_numbered [.ref a0, .int 1, .int 4] (g, I2, P) (some (.int w26)) (g, I27, P) ∧ zk g b23 13 ∧ vp_in 0 (g.2.2 b23) ∧ zk g a0 12 ∧ ∃ (I30 : Nat → Nat → Int32), Cl mX12_endsLine [.ref a0] (g, zU I27 b23 (0 : Int32).toNatClampNeg w26, P) none (g, I30, P) ∧ r = none ∧ h' = (g, I30, P))) ∧ ((w1 = 1) → zk g a0 12 ∧ ∃ (I34 : Nat → Nat → Int32), Cl mX12_wordLine [.ref a0, .int (I a0 4)] (g, I2, P) none (g, I34, P) ∧ zk g a0 12 ∧ ∃ (I37 : Nat → Nat → Int32), Cl mX12_endsLine [.ref a0] (g, I34, P) none (g, I37, P) ∧ r = none ∧ h' = (g, I37, P))) : Zt none mX12_hillLine 0 0 0 [(0, .ref a0)] [] (g, I, P) r h' := by
  refine z_aload_n 0 dX12_hillLine_0 rfl rfl (z_getI dX12_hillLine_1 wf_X12_86 (by decide) (by decide) rfl H.1 (z_istore_n (lv' := [(1, .int (I a0 4)), (0, .ref a0)]) dX12_hillLine_4 (by decide) rfl (z_aload_n 1 dX12_hillLine_5 rfl rfl (z_iconst (w := 1) dX12_hillLine_6 (by decide) (z_iconst (w := 4) dX12_hillLine_7 (by decide) ?_)))))
  obtain ⟨oc3, w1, I2, c3, H4⟩ := H.2
  refine z_virt (As := [.int 1, .int 4]) (st := []) (r1 := (some (.int w1))) (h1 := (g, I2, P)) dX12_hillLine_8 kX12_wordIn wm_X12_145 ⟨by decide, by decide⟩ rfl rfl (Nat.le_of_ble_eq_true rfl) (by decide) (by decide) oc3 c3 ?_
  refine z_istore_n (lv' := [(2, .int w1), (1, .int (I a0 4)), (0, .ref a0)]) dX12_hillLine_11 (by decide) rfl (z_iload_n 0 dX12_hillLine_12 rfl (z_iconst (w := 1) dX12_hillLine_13 (by decide) ?_))
  refine z_icmp_ne (t := 25) dX12_hillLine_14 (by decide) (fun q => ?_) (fun q => ?_)
  · have H5 := H4.1 q
    refine z_iload_n 0 dX12_hillLine_25 rfl (z_iconst (w := 4) dX12_hillLine_26 (by decide) ?_)
    refine z_icmp_ne (t := 45) dX12_hillLine_27 (by decide) (fun q => ?_) (fun q => ?_)
    · have H6 := H5.1 q
      refine z_iload_n 0 dX12_hillLine_45 rfl ?_
      refine z_if_eq (t := 122) dX12_hillLine_46 (by decide) (fun q => ?_) (fun q => ?_)
      · have H7 := H6.1 q
        refine z_aload_n 2 dX12_hillLine_122 rfl rfl ?_
        obtain ⟨oc9, I8, c9, H10⟩ := H7
        refine z_virt (As := []) (st := []) (r1 := none) (h1 := (g, I8, P)) dX12_hillLine_123 kX12_endsLine wm_X12_155 ⟨by decide, by decide⟩ rfl rfl (Nat.le_of_ble_eq_true rfl) (by decide) (by decide) oc9 c9 ?_
        obtain ⟨rfl, rfl⟩ := H10
        exact z_vret dX12_hillLine_126 rfl (by decide) (by decide)
      · have H11 := H6.2 q
        refine z_iload_n 0 dX12_hillLine_49 rfl (z_iconst (w := 2) dX12_hillLine_50 (by decide) ?_)
        refine z_icmp_ne (t := 61) dX12_hillLine_51 (by decide) (fun q => ?_) (fun q => ?_)
        · have H12 := H11.1 q
          refine z_aload_n 2 dX12_hillLine_61 rfl rfl (z_iconst (w := 0) dX12_hillLine_62 (by decide) (z_iconst (w := 5) dX12_hillLine_63 (by decide) ?_))
          obtain ⟨oc15, w13, I14, c15, H16⟩ := H12
          refine z_virt (As := [.int 0, .int 5]) (st := []) (r1 := (some (.int w13))) (h1 := (g, I14, P)) dX12_hillLine_64 kX12_numbered wm_X12_134 ⟨by decide, by decide⟩ rfl rfl (Nat.le_of_ble_eq_true rfl) (by decide) (by decide) oc15 c15 ?_
          exact z_less [2, 0] rfl H16
        · have H17 := H11.2 q
          refine z_aload_n 2 dX12_hillLine_54 rfl rfl ?_
          obtain ⟨oc20, w18, I19, c20, H21⟩ := H17
          refine z_virt (As := []) (st := []) (r1 := (some (.int w18))) (h1 := (g, I19, P)) dX12_hillLine_55 kX12_wordTold wm_X12_151 ⟨by decide, by decide⟩ rfl rfl (Nat.le_of_ble_eq_true rfl) (by decide) (by decide) oc20 c20 ?_
          refine z_goto (t := 67) dX12_hillLine_58 (by decide) ?_
          exact z_less [2, 0] rfl H21
    · have H22 := H5.2 q
      refine z_aload_n 2 dX12_hillLine_30 rfl rfl ?_
      obtain ⟨oe25, b23, e25, H24⟩ := H22
      refine z_getP dX12_hillLine_31 wf_X12_17 (by decide) (by decide) rfl oe25 (fun q => (by cases q.symm.trans e25)) (fun j q => ?_)
      cases q.symm.trans e25
      refine z_iconst (w := 0) dX12_hillLine_34 (by decide) (z_aload_n 2 dX12_hillLine_35 rfl rfl (z_iconst (w := 1) dX12_hillLine_36 (by decide) (z_iconst (w := 4) dX12_hillLine_37 (by decide) ?_)))
      obtain ⟨oc28, w26, I27, c28, H29⟩ := H24
      refine z_virt (As := [.int 1, .int 4]) (st := [.int 0, .ref b23]) (r1 := (some (.int w26))) (h1 := (g, I27, P)) dX12_hillLine_38 kX12_numbered wm_X12_134 ⟨by decide, by decide⟩ rfl rfl (Nat.le_of_ble_eq_true rfl) (by decide) (by decide) oc28 c28 ?_
      refine z_iast (g := g) (I := I27) (Q := P) dX12_hillLine_41 H29.1 H29.2.1 (z_goto (t := 122) dX12_hillLine_42 (by decide) (z_aload_n 2 dX12_hillLine_122 rfl rfl ?_))
      obtain ⟨oc31, I30, c31, H32⟩ := H29.2.2
      refine z_virt (As := []) (st := []) (r1 := none) (h1 := (g, I30, P)) dX12_hillLine_123 kX12_endsLine wm_X12_155 ⟨by decide, by decide⟩ rfl rfl (Nat.le_of_ble_eq_true rfl) (by decide) (by decide) oc31 c31 ?_
      obtain ⟨rfl, rfl⟩ := H32
      exact z_vret dX12_hillLine_126 rfl (by decide) (by decide)
  · have H33 := H4.2 q
    refine z_aload_n 2 dX12_hillLine_17 rfl rfl (z_iload_n 1 dX12_hillLine_18 rfl ?_)
    obtain ⟨oc35, I34, c35, H36⟩ := H33
    refine z_virt (As := [.int (I a0 4)]) (st := []) (r1 := none) (h1 := (g, I34, P)) dX12_hillLine_19 kX12_wordLine wm_X12_148 ⟨by decide, by decide⟩ rfl rfl (Nat.le_of_ble_eq_true rfl) (by decide) (by decide) oc35 c35 ?_
    refine z_goto (t := 122) dX12_hillLine_22 (by decide) (z_aload_n 2 dX12_hillLine_122 rfl rfl ?_)
    obtain ⟨oc38, I37, c38, H39⟩ := H36
    refine z_virt (As := []) (st := []) (r1 := none) (h1 := (g, I37, P)) dX12_hillLine_123 kX12_endsLine wm_X12_155 ⟨by decide, by decide⟩ rfl rfl (Nat.le_of_ble_eq_true rfl) (by decide) (by decide) oc38 c38 ?_
    obtain ⟨rfl, rfl⟩ := H39
    exact z_vret dX12_hillLine_126 rfl (by decide) (by decide)
theorem eX12_hillLine {g : zG} {I : Nat → Nat → Int32} {P : Nat → Nat → Option Nat} {r : Option Value} {h' : zH} {a0 : Nat} (H : Zt none mX12_hillLine 0 0 0 [(0, .ref a0)] [] (g, I, P) r h') : Cl mX12_hillLine [.ref a0] (g, I, P) r h' := Cl.of (by decide) (Nat.le_of_ble_eq_true rfl) H
set_option maxRecDepth 10000 in
theorem wX12_hillLine_67 {g : zG} {I : Nat → Nat → Int32} {P : Nat → Nat → Option Nat} {r : Option Value} {h' : zH} {a0 : Nat} {x2 : Int32} {xs0 : Int32} (H : zk g a0 12 ∧ ∃ (w1 : Int32) (I2 : Nat → Nat → Int32), Cl mX12_wordTold [.ref a0] (g, I, P) (some (.int w1)) (g, I2, P) ∧ ((¬ x2 = 2) → zk g a0 12 ∧ ∃ b6, P a0 10 = some b6 ∧ zk g b6 13 ∧ vp_in (92 + xs0) (g.2.2 b6) ∧ zk g b6 13 ∧ vp_in (92 + xs0) (g.2.2 b6) ∧ zk g a0 12 ∧ ∃ (I9 : Nat → Nat → Int32), Cl mX12_endsLine [.ref a0] (g, zU I2 b6 (92 + xs0).toNatClampNeg ((I2 b6 (92 + xs0).toNatClampNeg) ||| ((1 : Int32) <<< (w1 &&& 31))), P) none (g, I9, P) ∧ r = none ∧ h' = (g, I9, P)) ∧ ((x2 = 2) → zk g a0 12 ∧ ∃ b13, P a0 10 = some b13 ∧ zk g b13 13 ∧ vp_in (82 + xs0) (g.2.2 b13) ∧ zk g b13 13 ∧ vp_in (82 + xs0) (g.2.2 b13) ∧ zk g a0 12 ∧ ∃ b16, P a0 10 = some b16 ∧ zk g b16 13 ∧ vp_in 98 (g.2.2 b16) ∧ zk g a0 12 ∧ ∃ (I19 : Nat → Nat → Int32), Cl mX12_endsLine [.ref a0] (g, zU (zU I2 b13 (82 + xs0).toNatClampNeg ((I2 b13 (82 + xs0).toNatClampNeg) ||| ((1 : Int32) <<< (w1 &&& 31)))) b16 (98 : Int32).toNatClampNeg 1, P) none (g, I19, P) ∧ r = none ∧ h' = (g, I19, P))) : Zt none mX12_hillLine 0 0 67 [(0, .ref a0), (2, .int x2)] [.int xs0] (g, I, P) r h' := by
  refine z_istore_n (lv' := [(3, .int xs0), (0, .ref a0), (2, .int x2)]) dX12_hillLine_67 (by decide) rfl (z_aload_n 1 dX12_hillLine_68 rfl rfl ?_)
  obtain ⟨oc3, w1, I2, c3, H4⟩ := H
  refine z_virt (As := []) (st := []) (r1 := (some (.int w1))) (h1 := (g, I2, P)) dX12_hillLine_69 kX12_wordTold wm_X12_151 ⟨by decide, by decide⟩ rfl rfl (Nat.le_of_ble_eq_true rfl) (by decide) (by decide) oc3 c3 ?_
  refine z_istore (lv' := [(4, .int w1), (3, .int xs0), (0, .ref a0), (2, .int x2)]) dX12_hillLine_72 (by decide) rfl (z_iload_n 3 dX12_hillLine_74 rfl (z_iconst (w := 2) dX12_hillLine_75 (by decide) ?_))
  refine z_icmp_ne (t := 106) dX12_hillLine_76 (by decide) (fun q => ?_) (fun q => ?_)
  · have H5 := H4.1 q
    refine z_aload_n 2 dX12_hillLine_106 rfl rfl ?_
    obtain ⟨oe8, b6, e8, H7⟩ := H5
    refine z_getP dX12_hillLine_107 wf_X12_17 (by decide) (by decide) rfl oe8 (fun q => (by cases q.symm.trans e8)) (fun j q => ?_)
    cases q.symm.trans e8
    refine z_bipush (w := 92) dX12_hillLine_110 (by decide) (z_iload_n 1 dX12_hillLine_112 rfl (z_iadd dX12_hillLine_113 (z_dup2 dX12_hillLine_114 rfl rfl (z_iald dX12_hillLine_115 H7.1 H7.2.1 (z_iconst (w := 1) dX12_hillLine_116 (by decide) (z_iload 0 dX12_hillLine_117 rfl (z_ishl dX12_hillLine_119 (z_ior dX12_hillLine_120 (z_iast (g := g) (I := I2) (Q := P) dX12_hillLine_121 H7.2.2.1 H7.2.2.2.1 (z_aload_n 2 dX12_hillLine_122 rfl rfl ?_))))))))))
    obtain ⟨oc10, I9, c10, H11⟩ := H7.2.2.2.2
    refine z_virt (As := []) (st := []) (r1 := none) (h1 := (g, I9, P)) dX12_hillLine_123 kX12_endsLine wm_X12_155 ⟨by decide, by decide⟩ rfl rfl (Nat.le_of_ble_eq_true rfl) (by decide) (by decide) oc10 c10 ?_
    obtain ⟨rfl, rfl⟩ := H11
    exact z_vret dX12_hillLine_126 rfl (by decide) (by decide)
  · have H12 := H4.2 q
    refine z_aload_n 2 dX12_hillLine_79 rfl rfl ?_
    obtain ⟨oe15, b13, e15, H14⟩ := H12
    refine z_getP dX12_hillLine_80 wf_X12_17 (by decide) (by decide) rfl oe15 (fun q => (by cases q.symm.trans e15)) (fun j q => ?_)
    cases q.symm.trans e15
    refine z_bipush (w := 82) dX12_hillLine_83 (by decide) (z_iload_n 1 dX12_hillLine_85 rfl (z_iadd dX12_hillLine_86 (z_dup2 dX12_hillLine_87 rfl rfl (z_iald dX12_hillLine_88 H14.1 H14.2.1 (z_iconst (w := 1) dX12_hillLine_89 (by decide) (z_iload 0 dX12_hillLine_90 rfl (z_ishl dX12_hillLine_92 (z_ior dX12_hillLine_93 (z_iast (g := g) (I := I2) (Q := P) dX12_hillLine_94 H14.2.2.1 H14.2.2.2.1 (z_aload_n 2 dX12_hillLine_95 rfl rfl ?_))))))))))
    obtain ⟨oe18, b16, e18, H17⟩ := H14.2.2.2.2
    refine z_getP dX12_hillLine_96 wf_X12_17 (by decide) (by decide) rfl oe18 (fun q => (by cases q.symm.trans e18)) (fun j q => ?_)
    cases q.symm.trans e18
    refine z_bipush (w := 98) dX12_hillLine_99 (by decide) (z_iconst (w := 1) dX12_hillLine_101 (by decide) (z_iast (g := g) (I := zU I2 b13 (82 + xs0).toNatClampNeg ((I2 b13 (82 + xs0).toNatClampNeg) ||| ((1 : Int32) <<< (w1 &&& 31)))) (Q := P) dX12_hillLine_102 H17.1 H17.2.1 (z_goto (t := 122) dX12_hillLine_103 (by decide) (z_aload_n 2 dX12_hillLine_122 rfl rfl ?_))))
    obtain ⟨oc20, I19, c20, H21⟩ := H17.2.2
    refine z_virt (As := []) (st := []) (r1 := none) (h1 := (g, I19, P)) dX12_hillLine_123 kX12_endsLine wm_X12_155 ⟨by decide, by decide⟩ rfl rfl (Nat.le_of_ble_eq_true rfl) (by decide) (by decide) oc20 c20 ?_
    obtain ⟨rfl, rfl⟩ := H21
    exact z_vret dX12_hillLine_126 rfl (by decide) (by decide)
theorem dX12_centuryLine_0 : decode cX12_centuryLine 0 = .ok (.aload_n 0, 1) := by decide +kernel
theorem dX12_centuryLine_1 : decode cX12_centuryLine 1 = .ok (.getfield 86, 3) := by decide +kernel
theorem dX12_centuryLine_4 : decode cX12_centuryLine 4 = .ok (.istore_n 1, 1) := by decide +kernel
theorem dX12_centuryLine_5 : decode cX12_centuryLine 5 = .ok (.aload_n 0, 1) := by decide +kernel
theorem dX12_centuryLine_6 : decode cX12_centuryLine 6 = .ok (.iconst 5, 1) := by decide +kernel
theorem dX12_centuryLine_7 : decode cX12_centuryLine 7 = .ok (.bipush 9, 2) := by decide +kernel
theorem dX12_centuryLine_9 : decode cX12_centuryLine 9 = .ok (.invokevirtual 145, 3) := by decide +kernel
theorem dX12_centuryLine_12 : decode cX12_centuryLine 12 = .ok (.iconst 5, 1) := by decide +kernel
theorem dX12_centuryLine_13 : decode cX12_centuryLine 13 = .ok (.isub, 1) := by decide +kernel
theorem dX12_centuryLine_14 : decode cX12_centuryLine 14 = .ok (.istore_n 2, 1) := by decide +kernel
theorem dX12_centuryLine_15 : decode cX12_centuryLine 15 = .ok (.aload_n 0, 1) := by decide +kernel
theorem dX12_centuryLine_16 : decode cX12_centuryLine 16 = .ok (.getfield 113, 3) := by decide +kernel
theorem dX12_centuryLine_19 : decode cX12_centuryLine 19 = .ok (.ifCond .ne 20, 3) := by decide +kernel
theorem dX12_centuryLine_22 : decode cX12_centuryLine 22 = .ok (.aload_n 0, 1) := by decide +kernel
theorem dX12_centuryLine_23 : decode cX12_centuryLine 23 = .ok (.getfield 17, 3) := by decide +kernel
theorem dX12_centuryLine_26 : decode cX12_centuryLine 26 = .ok (.iconst 0, 1) := by decide +kernel
theorem dX12_centuryLine_27 : decode cX12_centuryLine 27 = .ok (.iaload, 1) := by decide +kernel
theorem dX12_centuryLine_28 : decode cX12_centuryLine 28 = .ok (.bipush 40, 2) := by decide +kernel
theorem dX12_centuryLine_30 : decode cX12_centuryLine 30 = .ok (.if_icmp .lt 9, 3) := by decide +kernel
theorem dX12_centuryLine_33 : decode cX12_centuryLine 33 = .ok (.aload_n 0, 1) := by decide +kernel
theorem dX12_centuryLine_34 : decode cX12_centuryLine 34 = .ok (.iconst 3, 1) := by decide +kernel
theorem dX12_centuryLine_35 : decode cX12_centuryLine 35 = .ok (.iload_n 1, 1) := by decide +kernel
theorem dX12_centuryLine_36 : decode cX12_centuryLine 36 = .ok (.invokevirtual 124, 3) := by decide +kernel
theorem dX12_centuryLine_39 : decode cX12_centuryLine 39 = .ok (.aload_n 0, 1) := by decide +kernel
theorem dX12_centuryLine_40 : decode cX12_centuryLine 40 = .ok (.iconst 0, 1) := by decide +kernel
theorem dX12_centuryLine_41 : decode cX12_centuryLine 41 = .ok (.iconst 3, 1) := by decide +kernel
theorem dX12_centuryLine_42 : decode cX12_centuryLine 42 = .ok (.invokevirtual 134, 3) := by decide +kernel
theorem dX12_centuryLine_45 : decode cX12_centuryLine 45 = .ok (.istore_n 3, 1) := by decide +kernel
theorem dX12_centuryLine_46 : decode cX12_centuryLine 46 = .ok (.iconst (-1), 1) := by decide +kernel
theorem dX12_centuryLine_47 : decode cX12_centuryLine 47 = .ok (.istore 4, 2) := by decide +kernel
theorem dX12_centuryLine_49 : decode cX12_centuryLine 49 = .ok (.iload_n 2, 1) := by decide +kernel
theorem dX12_centuryLine_50 : decode cX12_centuryLine 50 = .ok (.iconst 2, 1) := by decide +kernel
theorem dX12_centuryLine_51 : decode cX12_centuryLine 51 = .ok (.if_icmp .ge 27, 3) := by decide +kernel
theorem dX12_centuryLine_54 : decode cX12_centuryLine 54 = .ok (.aload_n 0, 1) := by decide +kernel
theorem dX12_centuryLine_55 : decode cX12_centuryLine 55 = .ok (.iconst 1, 1) := by decide +kernel
theorem dX12_centuryLine_56 : decode cX12_centuryLine 56 = .ok (.invokevirtual 141, 3) := by decide +kernel
theorem dX12_centuryLine_59 : decode cX12_centuryLine 59 = .ok (.aload_n 0, 1) := by decide +kernel
theorem dX12_centuryLine_60 : decode cX12_centuryLine 60 = .ok (.getfield 131, 3) := by decide +kernel
theorem dX12_centuryLine_63 : decode cX12_centuryLine 63 = .ok (.ifCond .le 12, 3) := by decide +kernel
theorem dX12_centuryLine_66 : decode cX12_centuryLine 66 = .ok (.aload_n 0, 1) := by decide +kernel
theorem dX12_centuryLine_67 : decode cX12_centuryLine 67 = .ok (.getfield 20, 3) := by decide +kernel
theorem dX12_centuryLine_70 : decode cX12_centuryLine 70 = .ok (.iconst 0, 1) := by decide +kernel
theorem dX12_centuryLine_71 : decode cX12_centuryLine 71 = .ok (.iaload, 1) := by decide +kernel
theorem dX12_centuryLine_72 : decode cX12_centuryLine 72 = .ok (.goto 4, 3) := by decide +kernel
theorem dX12_centuryLine_75 : decode cX12_centuryLine 75 = .ok (.iconst 0, 1) := by decide +kernel
theorem dX12_centuryLine_76 : decode cX12_centuryLine 76 = .ok (.istore 4, 2) := by decide +kernel
theorem dX12_centuryLine_78 : decode cX12_centuryLine 78 = .ok (.aload_n 0, 1) := by decide +kernel
theorem dX12_centuryLine_79 : decode cX12_centuryLine 79 = .ok (.getfield 17, 3) := by decide +kernel
theorem dX12_centuryLine_82 : decode cX12_centuryLine 82 = .ok (.iconst 0, 1) := by decide +kernel
theorem dX12_centuryLine_83 : decode cX12_centuryLine 83 = .ok (.iaload, 1) := by decide +kernel
theorem dX12_centuryLine_84 : decode cX12_centuryLine 84 = .ok (.bipush 40, 2) := by decide +kernel
theorem dX12_centuryLine_86 : decode cX12_centuryLine 86 = .ok (.if_icmp .ge 54, 3) := by decide +kernel
theorem dX12_centuryLine_89 : decode cX12_centuryLine 89 = .ok (.iconst 1, 1) := by decide +kernel
theorem dX12_centuryLine_90 : decode cX12_centuryLine 90 = .ok (.iconst 3, 1) := by decide +kernel
theorem dX12_centuryLine_91 : decode cX12_centuryLine 91 = .ok (.aload_n 0, 1) := by decide +kernel
theorem dX12_centuryLine_92 : decode cX12_centuryLine 92 = .ok (.getfield 17, 3) := by decide +kernel
theorem dX12_centuryLine_95 : decode cX12_centuryLine 95 = .ok (.iconst 0, 1) := by decide +kernel
theorem dX12_centuryLine_96 : decode cX12_centuryLine 96 = .ok (.iaload, 1) := by decide +kernel
theorem dX12_centuryLine_97 : decode cX12_centuryLine 97 = .ok (.imul, 1) := by decide +kernel
theorem dX12_centuryLine_98 : decode cX12_centuryLine 98 = .ok (.iadd, 1) := by decide +kernel
theorem dX12_centuryLine_99 : decode cX12_centuryLine 99 = .ok (.istore 5, 2) := by decide +kernel
theorem dX12_centuryLine_101 : decode cX12_centuryLine 101 = .ok (.aload_n 0, 1) := by decide +kernel
theorem dX12_centuryLine_102 : decode cX12_centuryLine 102 = .ok (.getfield 17, 3) := by decide +kernel
theorem dX12_centuryLine_105 : decode cX12_centuryLine 105 = .ok (.iload 5, 2) := by decide +kernel
theorem dX12_centuryLine_107 : decode cX12_centuryLine 107 = .ok (.iload_n 2, 1) := by decide +kernel
theorem dX12_centuryLine_108 : decode cX12_centuryLine 108 = .ok (.iastore, 1) := by decide +kernel
theorem dX12_centuryLine_109 : decode cX12_centuryLine 109 = .ok (.aload_n 0, 1) := by decide +kernel
theorem dX12_centuryLine_110 : decode cX12_centuryLine 110 = .ok (.getfield 17, 3) := by decide +kernel
theorem dX12_centuryLine_113 : decode cX12_centuryLine 113 = .ok (.iload 5, 2) := by decide +kernel
theorem dX12_centuryLine_115 : decode cX12_centuryLine 115 = .ok (.iconst 1, 1) := by decide +kernel
theorem dX12_centuryLine_116 : decode cX12_centuryLine 116 = .ok (.iadd, 1) := by decide +kernel
theorem dX12_centuryLine_117 : decode cX12_centuryLine 117 = .ok (.iload_n 3, 1) := by decide +kernel
theorem dX12_centuryLine_118 : decode cX12_centuryLine 118 = .ok (.iastore, 1) := by decide +kernel
theorem dX12_centuryLine_119 : decode cX12_centuryLine 119 = .ok (.aload_n 0, 1) := by decide +kernel
theorem dX12_centuryLine_120 : decode cX12_centuryLine 120 = .ok (.getfield 17, 3) := by decide +kernel
theorem dX12_centuryLine_123 : decode cX12_centuryLine 123 = .ok (.iload 5, 2) := by decide +kernel
theorem dX12_centuryLine_125 : decode cX12_centuryLine 125 = .ok (.iconst 2, 1) := by decide +kernel
theorem dX12_centuryLine_126 : decode cX12_centuryLine 126 = .ok (.iadd, 1) := by decide +kernel
theorem dX12_centuryLine_127 : decode cX12_centuryLine 127 = .ok (.iload 4, 2) := by decide +kernel
theorem dX12_centuryLine_129 : decode cX12_centuryLine 129 = .ok (.iastore, 1) := by decide +kernel
theorem dX12_centuryLine_130 : decode cX12_centuryLine 130 = .ok (.aload_n 0, 1) := by decide +kernel
theorem dX12_centuryLine_131 : decode cX12_centuryLine 131 = .ok (.getfield 17, 3) := by decide +kernel
theorem dX12_centuryLine_134 : decode cX12_centuryLine 134 = .ok (.iconst 0, 1) := by decide +kernel
theorem dX12_centuryLine_135 : decode cX12_centuryLine 135 = .ok (.dup2, 1) := by decide +kernel
theorem dX12_centuryLine_136 : decode cX12_centuryLine 136 = .ok (.iaload, 1) := by decide +kernel
theorem dX12_centuryLine_137 : decode cX12_centuryLine 137 = .ok (.iconst 1, 1) := by decide +kernel
theorem dX12_centuryLine_138 : decode cX12_centuryLine 138 = .ok (.iadd, 1) := by decide +kernel
theorem dX12_centuryLine_139 : decode cX12_centuryLine 139 = .ok (.iastore, 1) := by decide +kernel
theorem dX12_centuryLine_140 : decode cX12_centuryLine 140 = .ok (.aload_n 0, 1) := by decide +kernel
theorem dX12_centuryLine_141 : decode cX12_centuryLine 141 = .ok (.invokevirtual 155, 3) := by decide +kernel
theorem dX12_centuryLine_144 : decode cX12_centuryLine 144 = .ok (.return_, 1) := by decide +kernel
set_option maxRecDepth 10000 in
theorem wX12_centuryLine_0 {g : zG} {I : Nat → Nat → Int32} {P : Nat → Nat → Option Nat} {r : Option Value} {h' : zH} {a0 : Nat} (H : zk g a0 12 ∧ zk g a0 12 ∧ ∃ (w1 : Int32) (I2 : Nat → Nat → Int32), Cl mX12_wordIn [.ref a0, .int 5, .int 9] (g, I, P) (some (.int w1)) (g, I2, P) ∧ zk g a0 12 ∧ ((¬ I2 a0 8 = 0) → Zt none mX12_centuryLine 0 0 39 [(0, .ref a0), (2, .int (w1 - 5))] [] (g, I2, P) r h') ∧ ((I2 a0 8 = 0) → zk g a0 12 ∧ ∃ b7, P a0 10 = some b7 ∧ zk g b7 13 ∧ vp_in 0 (g.2.2 b7) ∧ ((I2 b7 (0 : Int32).toNatClampNeg < 40) → Zt none mX12_centuryLine 0 0 39 [(0, .ref a0), (2, .int (w1 - 5))] [] (g, I2, P) r h') ∧ ((¬ I2 b7 (0 : Int32).toNatClampNeg < 40) → zk g a0 12 ∧ ∃ (I12 : Nat → Nat → Int32), Cl mX12_also [.ref a0, .int 3, .int (I a0 4)] (g, I2, P) none (g, I12, P) ∧ Zt none mX12_centuryLine 0 0 39 [(0, .ref a0), (2, .int (w1 - 5))] [] (g, I12, P) r h'))) : Zt none mX12_centuryLine 0 0 0 [(0, .ref a0)] [] (g, I, P) r h' := by
  refine z_aload_n 0 dX12_centuryLine_0 rfl rfl (z_getI dX12_centuryLine_1 wf_X12_86 (by decide) (by decide) rfl H.1 (z_istore_n (lv' := [(1, .int (I a0 4)), (0, .ref a0)]) dX12_centuryLine_4 (by decide) rfl (z_aload_n 1 dX12_centuryLine_5 rfl rfl (z_iconst (w := 5) dX12_centuryLine_6 (by decide) (z_bipush (w := 9) dX12_centuryLine_7 (by decide) ?_)))))
  obtain ⟨oc3, w1, I2, c3, H4⟩ := H.2
  refine z_virt (As := [.int 5, .int 9]) (st := []) (r1 := (some (.int w1))) (h1 := (g, I2, P)) dX12_centuryLine_9 kX12_wordIn wm_X12_145 ⟨by decide, by decide⟩ rfl rfl (Nat.le_of_ble_eq_true rfl) (by decide) (by decide) oc3 c3 ?_
  refine z_iconst (w := 5) dX12_centuryLine_12 (by decide) (z_isub dX12_centuryLine_13 (z_istore_n (lv' := [(2, .int (w1 - 5)), (1, .int (I a0 4)), (0, .ref a0)]) dX12_centuryLine_14 (by decide) rfl (z_aload_n 2 dX12_centuryLine_15 rfl rfl (z_getI dX12_centuryLine_16 wf_X12_113 (by decide) (by decide) rfl H4.1 ?_))))
  refine z_if_ne (t := 39) dX12_centuryLine_19 (by decide) (fun q => ?_) (fun q => ?_)
  · have H5 := H4.2.1 q
    exact z_less [2, 0] rfl H5
  · have H6 := H4.2.2 q
    refine z_aload_n 2 dX12_centuryLine_22 rfl rfl ?_
    obtain ⟨oe9, b7, e9, H8⟩ := H6
    refine z_getP dX12_centuryLine_23 wf_X12_17 (by decide) (by decide) rfl oe9 (fun q => (by cases q.symm.trans e9)) (fun j q => ?_)
    cases q.symm.trans e9
    refine z_iconst (w := 0) dX12_centuryLine_26 (by decide) (z_iald dX12_centuryLine_27 H8.1 H8.2.1 (z_bipush (w := 40) dX12_centuryLine_28 (by decide) ?_))
    refine z_icmp_lt (t := 39) dX12_centuryLine_30 (by decide) (fun q => ?_) (fun q => ?_)
    · have H10 := H8.2.2.1 q
      exact z_less [2, 0] rfl H10
    · have H11 := H8.2.2.2 q
      refine z_aload_n 2 dX12_centuryLine_33 rfl rfl (z_iconst (w := 3) dX12_centuryLine_34 (by decide) (z_iload_n 1 dX12_centuryLine_35 rfl ?_))
      obtain ⟨oc13, I12, c13, H14⟩ := H11
      refine z_virt (As := [.int 3, .int (I a0 4)]) (st := []) (r1 := none) (h1 := (g, I12, P)) dX12_centuryLine_36 kX12_also wm_X12_124 ⟨by decide, by decide⟩ rfl rfl (Nat.le_of_ble_eq_true rfl) (by decide) (by decide) oc13 c13 ?_
      exact z_less [2, 0] rfl H14
theorem eX12_centuryLine {g : zG} {I : Nat → Nat → Int32} {P : Nat → Nat → Option Nat} {r : Option Value} {h' : zH} {a0 : Nat} (H : Zt none mX12_centuryLine 0 0 0 [(0, .ref a0)] [] (g, I, P) r h') : Cl mX12_centuryLine [.ref a0] (g, I, P) r h' := Cl.of (by decide) (Nat.le_of_ble_eq_true rfl) H
set_option maxRecDepth 10000 in
theorem wX12_centuryLine_39 {g : zG} {I : Nat → Nat → Int32} {P : Nat → Nat → Option Nat} {r : Option Value} {h' : zH} {a0 : Nat} {x2 : Int32} (H : zk g a0 12 ∧ ∃ (w1 : Int32) (I2 : Nat → Nat → Int32), Cl mX12_numbered [.ref a0, .int 0, .int 3] (g, I, P) (some (.int w1)) (g, I2, P) ∧ ((2 ≤ x2) → Zt none mX12_centuryLine 0 0 78 [(0, .ref a0), (2, .int x2), (3, .int w1), (4, .int (-1))] [] (g, I2, P) r h') ∧ ((¬ 2 ≤ x2) → zk g a0 12 ∧ ∃ (I7 : Nat → Nat → Int32), Cl mX12_rowTold [.ref a0, .int 1] (g, I2, P) none (g, I7, P) ∧ zk g a0 12 ∧ ((I7 a0 12 ≤ 0) → Zt none mX12_centuryLine 0 0 78 [(0, .ref a0), (2, .int x2), (3, .int w1), (4, .int 0)] [] (g, I7, P) r h') ∧ ((¬ I7 a0 12 ≤ 0) → zk g a0 12 ∧ ∃ b12, P a0 11 = some b12 ∧ zk g b12 13 ∧ vp_in 0 (g.2.2 b12) ∧ ∀ y15 : Int32, y15 = I7 b12 (0 : Int32).toNatClampNeg → Zt none mX12_centuryLine 0 0 78 [(0, .ref a0), (2, .int x2), (3, .int w1), (4, .int y15)] [] (g, I7, P) r h'))) : Zt none mX12_centuryLine 0 0 39 [(0, .ref a0), (2, .int x2)] [] (g, I, P) r h' := by
  refine z_aload_n 0 dX12_centuryLine_39 rfl rfl (z_iconst (w := 0) dX12_centuryLine_40 (by decide) (z_iconst (w := 3) dX12_centuryLine_41 (by decide) ?_))
  obtain ⟨oc3, w1, I2, c3, H4⟩ := H
  refine z_virt (As := [.int 0, .int 3]) (st := []) (r1 := (some (.int w1))) (h1 := (g, I2, P)) dX12_centuryLine_42 kX12_numbered wm_X12_134 ⟨by decide, by decide⟩ rfl rfl (Nat.le_of_ble_eq_true rfl) (by decide) (by decide) oc3 c3 ?_
  refine z_istore_n (lv' := [(3, .int w1), (0, .ref a0), (2, .int x2)]) dX12_centuryLine_45 (by decide) rfl (z_iconst (w := (-1)) dX12_centuryLine_46 (by decide) (z_istore (lv' := [(4, .int (-1)), (3, .int w1), (0, .ref a0), (2, .int x2)]) dX12_centuryLine_47 (by decide) rfl (z_iload_n 3 dX12_centuryLine_49 rfl (z_iconst (w := 2) dX12_centuryLine_50 (by decide) ?_))))
  refine z_icmp_ge (t := 78) dX12_centuryLine_51 (by decide) (fun q => ?_) (fun q => ?_)
  · have H5 := H4.1 q
    exact z_less [2, 3, 1, 0] rfl H5
  · have H6 := H4.2 q
    refine z_aload_n 2 dX12_centuryLine_54 rfl rfl (z_iconst (w := 1) dX12_centuryLine_55 (by decide) ?_)
    obtain ⟨oc8, I7, c8, H9⟩ := H6
    refine z_virt (As := [.int 1]) (st := []) (r1 := none) (h1 := (g, I7, P)) dX12_centuryLine_56 kX12_rowTold wm_X12_141 ⟨by decide, by decide⟩ rfl rfl (Nat.le_of_ble_eq_true rfl) (by decide) (by decide) oc8 c8 ?_
    refine z_aload_n 2 dX12_centuryLine_59 rfl rfl (z_getI dX12_centuryLine_60 wf_X12_131 (by decide) (by decide) rfl H9.1 ?_)
    refine z_if_le (t := 75) dX12_centuryLine_63 (by decide) (fun q => ?_) (fun q => ?_)
    · have H10 := H9.2.1 q
      refine z_iconst (w := 0) dX12_centuryLine_75 (by decide) (z_istore (lv' := [(4, .int 0), (3, .int w1), (0, .ref a0), (2, .int x2)]) dX12_centuryLine_76 (by decide) rfl ?_)
      exact z_less [2, 3, 1, 0] rfl H10
    · have H11 := H9.2.2 q
      refine z_aload_n 2 dX12_centuryLine_66 rfl rfl ?_
      obtain ⟨oe14, b12, e14, H13⟩ := H11
      refine z_getP dX12_centuryLine_67 wf_X12_20 (by decide) (by decide) rfl oe14 (fun q => (by cases q.symm.trans e14)) (fun j q => ?_)
      cases q.symm.trans e14
      refine z_iconst (w := 0) dX12_centuryLine_70 (by decide) (z_iald dX12_centuryLine_71 H13.1 H13.2.1 (z_goto (t := 76) dX12_centuryLine_72 (by decide) ?_))
      refine z_nm (fun y15 e_y15 => ?_)
      have H16 := H13.2.2 y15 e_y15
      refine z_istore (lv' := [(4, .int y15), (3, .int w1), (0, .ref a0), (2, .int x2)]) dX12_centuryLine_76 (by decide) rfl ?_
      exact z_less [2, 3, 1, 0] rfl H16
set_option maxRecDepth 10000 in
theorem wX12_centuryLine_78 {g : zG} {I : Nat → Nat → Int32} {P : Nat → Nat → Option Nat} {r : Option Value} {h' : zH} {a0 : Nat} {x2 : Int32} {x3 : Int32} {x4 : Int32} (H : zk g a0 12 ∧ ∃ b1, P a0 10 = some b1 ∧ zk g b1 13 ∧ vp_in 0 (g.2.2 b1) ∧ ((40 ≤ I b1 (0 : Int32).toNatClampNeg) → zk g a0 12 ∧ ∃ (I5 : Nat → Nat → Int32), Cl mX12_endsLine [.ref a0] (g, I, P) none (g, I5, P) ∧ r = none ∧ h' = (g, I5, P)) ∧ ((¬ 40 ≤ I b1 (0 : Int32).toNatClampNeg) → zk g a0 12 ∧ ∃ b9, P a0 10 = some b9 ∧ zk g b9 13 ∧ vp_in 0 (g.2.2 b9) ∧ ∀ y12 : Int32, y12 = 1 + (3 * (I b9 (0 : Int32).toNatClampNeg)) → zk g a0 12 ∧ ∃ b14, P a0 10 = some b14 ∧ zk g b14 13 ∧ vp_in y12 (g.2.2 b14) ∧ zk g a0 12 ∧ ∃ b17, P a0 10 = some b17 ∧ zk g b17 13 ∧ vp_in (y12 + 1) (g.2.2 b17) ∧ zk g a0 12 ∧ ∃ b20, P a0 10 = some b20 ∧ zk g b20 13 ∧ vp_in (y12 + 2) (g.2.2 b20) ∧ zk g a0 12 ∧ ∃ b23, P a0 10 = some b23 ∧ zk g b23 13 ∧ vp_in 0 (g.2.2 b23) ∧ zk g b23 13 ∧ vp_in 0 (g.2.2 b23) ∧ zk g a0 12 ∧ ∃ (I26 : Nat → Nat → Int32), Cl mX12_endsLine [.ref a0] (g, zU (zU (zU (zU I b14 y12.toNatClampNeg x2) b17 (y12 + 1).toNatClampNeg x3) b20 (y12 + 2).toNatClampNeg x4) b23 (0 : Int32).toNatClampNeg (((zU (zU (zU I b14 y12.toNatClampNeg x2) b17 (y12 + 1).toNatClampNeg x3) b20 (y12 + 2).toNatClampNeg x4) b23 (0 : Int32).toNatClampNeg) + 1), P) none (g, I26, P) ∧ r = none ∧ h' = (g, I26, P))) : Zt none mX12_centuryLine 0 0 78 [(0, .ref a0), (2, .int x2), (3, .int x3), (4, .int x4)] [] (g, I, P) r h' := by
  refine z_aload_n 0 dX12_centuryLine_78 rfl rfl ?_
  obtain ⟨oe3, b1, e3, H2⟩ := H
  refine z_getP dX12_centuryLine_79 wf_X12_17 (by decide) (by decide) rfl oe3 (fun q => (by cases q.symm.trans e3)) (fun j q => ?_)
  cases q.symm.trans e3
  refine z_iconst (w := 0) dX12_centuryLine_82 (by decide) (z_iald dX12_centuryLine_83 H2.1 H2.2.1 (z_bipush (w := 40) dX12_centuryLine_84 (by decide) ?_))
  refine z_icmp_ge (t := 140) dX12_centuryLine_86 (by decide) (fun q => ?_) (fun q => ?_)
  · have H4 := H2.2.2.1 q
    refine z_aload_n 0 dX12_centuryLine_140 rfl rfl ?_
    obtain ⟨oc6, I5, c6, H7⟩ := H4
    refine z_virt (As := []) (st := []) (r1 := none) (h1 := (g, I5, P)) dX12_centuryLine_141 kX12_endsLine wm_X12_155 ⟨by decide, by decide⟩ rfl rfl (Nat.le_of_ble_eq_true rfl) (by decide) (by decide) oc6 c6 ?_
    obtain ⟨rfl, rfl⟩ := H7
    exact z_vret dX12_centuryLine_144 rfl (by decide) (by decide)
  · have H8 := H2.2.2.2 q
    refine z_iconst (w := 1) dX12_centuryLine_89 (by decide) (z_iconst (w := 3) dX12_centuryLine_90 (by decide) (z_aload_n 0 dX12_centuryLine_91 rfl rfl ?_))
    obtain ⟨oe11, b9, e11, H10⟩ := H8
    refine z_getP dX12_centuryLine_92 wf_X12_17 (by decide) (by decide) rfl oe11 (fun q => (by cases q.symm.trans e11)) (fun j q => ?_)
    cases q.symm.trans e11
    refine z_iconst (w := 0) dX12_centuryLine_95 (by decide) (z_iald dX12_centuryLine_96 H10.1 H10.2.1 (z_imul dX12_centuryLine_97 (z_iadd dX12_centuryLine_98 ?_)))
    refine z_nm (fun y12 e_y12 => ?_)
    have H13 := H10.2.2 y12 e_y12
    refine z_istore (lv' := [(5, .int y12), (0, .ref a0), (2, .int x2), (3, .int x3), (4, .int x4)]) dX12_centuryLine_99 (by decide) rfl (z_aload_n 1 dX12_centuryLine_101 rfl rfl ?_)
    obtain ⟨oe16, b14, e16, H15⟩ := H13
    refine z_getP dX12_centuryLine_102 wf_X12_17 (by decide) (by decide) rfl oe16 (fun q => (by cases q.symm.trans e16)) (fun j q => ?_)
    cases q.symm.trans e16
    refine z_iload 0 dX12_centuryLine_105 rfl (z_iload_n 2 dX12_centuryLine_107 rfl (z_iast (g := g) (I := I) (Q := P) dX12_centuryLine_108 H15.1 H15.2.1 (z_aload_n 1 dX12_centuryLine_109 rfl rfl ?_)))
    obtain ⟨oe19, b17, e19, H18⟩ := H15.2.2
    refine z_getP dX12_centuryLine_110 wf_X12_17 (by decide) (by decide) rfl oe19 (fun q => (by cases q.symm.trans e19)) (fun j q => ?_)
    cases q.symm.trans e19
    refine z_iload 0 dX12_centuryLine_113 rfl (z_iconst (w := 1) dX12_centuryLine_115 (by decide) (z_iadd dX12_centuryLine_116 (z_iload_n 3 dX12_centuryLine_117 rfl (z_iast (g := g) (I := zU I b14 y12.toNatClampNeg x2) (Q := P) dX12_centuryLine_118 H18.1 H18.2.1 (z_aload_n 1 dX12_centuryLine_119 rfl rfl ?_)))))
    obtain ⟨oe22, b20, e22, H21⟩ := H18.2.2
    refine z_getP dX12_centuryLine_120 wf_X12_17 (by decide) (by decide) rfl oe22 (fun q => (by cases q.symm.trans e22)) (fun j q => ?_)
    cases q.symm.trans e22
    refine z_iload 0 dX12_centuryLine_123 rfl (z_iconst (w := 2) dX12_centuryLine_125 (by decide) (z_iadd dX12_centuryLine_126 (z_iload 4 dX12_centuryLine_127 rfl (z_iast (g := g) (I := zU (zU I b14 y12.toNatClampNeg x2) b17 (y12 + 1).toNatClampNeg x3) (Q := P) dX12_centuryLine_129 H21.1 H21.2.1 (z_aload_n 1 dX12_centuryLine_130 rfl rfl ?_)))))
    obtain ⟨oe25, b23, e25, H24⟩ := H21.2.2
    refine z_getP dX12_centuryLine_131 wf_X12_17 (by decide) (by decide) rfl oe25 (fun q => (by cases q.symm.trans e25)) (fun j q => ?_)
    cases q.symm.trans e25
    refine z_iconst (w := 0) dX12_centuryLine_134 (by decide) (z_dup2 dX12_centuryLine_135 rfl rfl (z_iald dX12_centuryLine_136 H24.1 H24.2.1 (z_iconst (w := 1) dX12_centuryLine_137 (by decide) (z_iadd dX12_centuryLine_138 (z_iast (g := g) (I := zU (zU (zU I b14 y12.toNatClampNeg x2) b17 (y12 + 1).toNatClampNeg x3) b20 (y12 + 2).toNatClampNeg x4) (Q := P) dX12_centuryLine_139 H24.2.2.1 H24.2.2.2.1 (z_aload_n 1 dX12_centuryLine_140 rfl rfl ?_))))))
    obtain ⟨oc27, I26, c27, H28⟩ := H24.2.2.2.2
    refine z_virt (As := []) (st := []) (r1 := none) (h1 := (g, I26, P)) dX12_centuryLine_141 kX12_endsLine wm_X12_155 ⟨by decide, by decide⟩ rfl rfl (Nat.le_of_ble_eq_true rfl) (by decide) (by decide) oc27 c27 ?_
    obtain ⟨rfl, rfl⟩ := H28
    exact z_vret dX12_centuryLine_144 rfl (by decide) (by decide)
theorem dX12_linesLine_0 : decode cX12_linesLine 0 = .ok (.aload_n 0, 1) := by decide +kernel
theorem dX12_linesLine_1 : decode cX12_linesLine 1 = .ok (.getfield 86, 3) := by decide +kernel
theorem dX12_linesLine_4 : decode cX12_linesLine 4 = .ok (.istore_n 1, 1) := by decide +kernel
theorem dX12_linesLine_5 : decode cX12_linesLine 5 = .ok (.aload_n 0, 1) := by decide +kernel
theorem dX12_linesLine_6 : decode cX12_linesLine 6 = .ok (.bipush 10, 2) := by decide +kernel
theorem dX12_linesLine_8 : decode cX12_linesLine 8 = .ok (.bipush 10, 2) := by decide +kernel
theorem dX12_linesLine_10 : decode cX12_linesLine 10 = .ok (.invokevirtual 145, 3) := by decide +kernel
theorem dX12_linesLine_13 : decode cX12_linesLine 13 = .ok (.pop, 1) := by decide +kernel
theorem dX12_linesLine_14 : decode cX12_linesLine 14 = .ok (.aload_n 0, 1) := by decide +kernel
theorem dX12_linesLine_15 : decode cX12_linesLine 15 = .ok (.getfield 113, 3) := by decide +kernel
theorem dX12_linesLine_18 : decode cX12_linesLine 18 = .ok (.ifCond .ne 20, 3) := by decide +kernel
theorem dX12_linesLine_21 : decode cX12_linesLine 21 = .ok (.aload_n 0, 1) := by decide +kernel
theorem dX12_linesLine_22 : decode cX12_linesLine 22 = .ok (.getfield 17, 3) := by decide +kernel
theorem dX12_linesLine_25 : decode cX12_linesLine 25 = .ok (.iconst 0, 1) := by decide +kernel
theorem dX12_linesLine_26 : decode cX12_linesLine 26 = .ok (.iaload, 1) := by decide +kernel
theorem dX12_linesLine_27 : decode cX12_linesLine 27 = .ok (.bipush 6, 2) := by decide +kernel
theorem dX12_linesLine_29 : decode cX12_linesLine 29 = .ok (.if_icmp .lt 9, 3) := by decide +kernel
theorem dX12_linesLine_32 : decode cX12_linesLine 32 = .ok (.aload_n 0, 1) := by decide +kernel
theorem dX12_linesLine_33 : decode cX12_linesLine 33 = .ok (.iconst 3, 1) := by decide +kernel
theorem dX12_linesLine_34 : decode cX12_linesLine 34 = .ok (.iload_n 1, 1) := by decide +kernel
theorem dX12_linesLine_35 : decode cX12_linesLine 35 = .ok (.invokevirtual 124, 3) := by decide +kernel
theorem dX12_linesLine_38 : decode cX12_linesLine 38 = .ok (.aload_n 0, 1) := by decide +kernel
theorem dX12_linesLine_39 : decode cX12_linesLine 39 = .ok (.bipush 12, 2) := by decide +kernel
theorem dX12_linesLine_41 : decode cX12_linesLine 41 = .ok (.invokevirtual 141, 3) := by decide +kernel
theorem dX12_linesLine_44 : decode cX12_linesLine 44 = .ok (.aload_n 0, 1) := by decide +kernel
theorem dX12_linesLine_45 : decode cX12_linesLine 45 = .ok (.getfield 17, 3) := by decide +kernel
theorem dX12_linesLine_48 : decode cX12_linesLine 48 = .ok (.iconst 0, 1) := by decide +kernel
theorem dX12_linesLine_49 : decode cX12_linesLine 49 = .ok (.iaload, 1) := by decide +kernel
theorem dX12_linesLine_50 : decode cX12_linesLine 50 = .ok (.bipush 6, 2) := by decide +kernel
theorem dX12_linesLine_52 : decode cX12_linesLine 52 = .ok (.if_icmp .ge 67, 3) := by decide +kernel
theorem dX12_linesLine_55 : decode cX12_linesLine 55 = .ok (.iconst 1, 1) := by decide +kernel
theorem dX12_linesLine_56 : decode cX12_linesLine 56 = .ok (.bipush 13, 2) := by decide +kernel
theorem dX12_linesLine_58 : decode cX12_linesLine 58 = .ok (.aload_n 0, 1) := by decide +kernel
theorem dX12_linesLine_59 : decode cX12_linesLine 59 = .ok (.getfield 17, 3) := by decide +kernel
theorem dX12_linesLine_62 : decode cX12_linesLine 62 = .ok (.iconst 0, 1) := by decide +kernel
theorem dX12_linesLine_63 : decode cX12_linesLine 63 = .ok (.iaload, 1) := by decide +kernel
theorem dX12_linesLine_64 : decode cX12_linesLine 64 = .ok (.imul, 1) := by decide +kernel
theorem dX12_linesLine_65 : decode cX12_linesLine 65 = .ok (.iadd, 1) := by decide +kernel
theorem dX12_linesLine_66 : decode cX12_linesLine 66 = .ok (.istore_n 2, 1) := by decide +kernel
theorem dX12_linesLine_67 : decode cX12_linesLine 67 = .ok (.aload_n 0, 1) := by decide +kernel
theorem dX12_linesLine_68 : decode cX12_linesLine 68 = .ok (.getfield 17, 3) := by decide +kernel
theorem dX12_linesLine_71 : decode cX12_linesLine 71 = .ok (.iload_n 2, 1) := by decide +kernel
theorem dX12_linesLine_72 : decode cX12_linesLine 72 = .ok (.aload_n 0, 1) := by decide +kernel
theorem dX12_linesLine_73 : decode cX12_linesLine 73 = .ok (.getfield 131, 3) := by decide +kernel
theorem dX12_linesLine_76 : decode cX12_linesLine 76 = .ok (.iastore, 1) := by decide +kernel
theorem dX12_linesLine_77 : decode cX12_linesLine 77 = .ok (.iconst 0, 1) := by decide +kernel
theorem dX12_linesLine_78 : decode cX12_linesLine 78 = .ok (.istore_n 3, 1) := by decide +kernel
theorem dX12_linesLine_79 : decode cX12_linesLine 79 = .ok (.iload_n 3, 1) := by decide +kernel
theorem dX12_linesLine_80 : decode cX12_linesLine 80 = .ok (.aload_n 0, 1) := by decide +kernel
theorem dX12_linesLine_81 : decode cX12_linesLine 81 = .ok (.getfield 131, 3) := by decide +kernel
theorem dX12_linesLine_84 : decode cX12_linesLine 84 = .ok (.if_icmp .ge 25, 3) := by decide +kernel
theorem dX12_linesLine_87 : decode cX12_linesLine 87 = .ok (.aload_n 0, 1) := by decide +kernel
theorem dX12_linesLine_88 : decode cX12_linesLine 88 = .ok (.getfield 17, 3) := by decide +kernel
theorem dX12_linesLine_91 : decode cX12_linesLine 91 = .ok (.iload_n 2, 1) := by decide +kernel
theorem dX12_linesLine_92 : decode cX12_linesLine 92 = .ok (.iconst 1, 1) := by decide +kernel
theorem dX12_linesLine_93 : decode cX12_linesLine 93 = .ok (.iadd, 1) := by decide +kernel
theorem dX12_linesLine_94 : decode cX12_linesLine 94 = .ok (.iload_n 3, 1) := by decide +kernel
theorem dX12_linesLine_95 : decode cX12_linesLine 95 = .ok (.iadd, 1) := by decide +kernel
theorem dX12_linesLine_96 : decode cX12_linesLine 96 = .ok (.aload_n 0, 1) := by decide +kernel
theorem dX12_linesLine_97 : decode cX12_linesLine 97 = .ok (.getfield 20, 3) := by decide +kernel
theorem dX12_linesLine_100 : decode cX12_linesLine 100 = .ok (.iload_n 3, 1) := by decide +kernel
theorem dX12_linesLine_101 : decode cX12_linesLine 101 = .ok (.iaload, 1) := by decide +kernel
theorem dX12_linesLine_102 : decode cX12_linesLine 102 = .ok (.iastore, 1) := by decide +kernel
theorem dX12_linesLine_103 : decode cX12_linesLine 103 = .ok (.iinc 3 1, 3) := by decide +kernel
theorem dX12_linesLine_106 : decode cX12_linesLine 106 = .ok (.goto (-27), 3) := by decide +kernel
theorem dX12_linesLine_109 : decode cX12_linesLine 109 = .ok (.aload_n 0, 1) := by decide +kernel
theorem dX12_linesLine_110 : decode cX12_linesLine 110 = .ok (.getfield 17, 3) := by decide +kernel
theorem dX12_linesLine_113 : decode cX12_linesLine 113 = .ok (.iconst 0, 1) := by decide +kernel
theorem dX12_linesLine_114 : decode cX12_linesLine 114 = .ok (.dup2, 1) := by decide +kernel
theorem dX12_linesLine_115 : decode cX12_linesLine 115 = .ok (.iaload, 1) := by decide +kernel
theorem dX12_linesLine_116 : decode cX12_linesLine 116 = .ok (.iconst 1, 1) := by decide +kernel
theorem dX12_linesLine_117 : decode cX12_linesLine 117 = .ok (.iadd, 1) := by decide +kernel
theorem dX12_linesLine_118 : decode cX12_linesLine 118 = .ok (.iastore, 1) := by decide +kernel
theorem dX12_linesLine_119 : decode cX12_linesLine 119 = .ok (.aload_n 0, 1) := by decide +kernel
theorem dX12_linesLine_120 : decode cX12_linesLine 120 = .ok (.invokevirtual 155, 3) := by decide +kernel
theorem dX12_linesLine_123 : decode cX12_linesLine 123 = .ok (.return_, 1) := by decide +kernel
set_option maxRecDepth 10000 in
theorem wX12_linesLine_0 {g : zG} {I : Nat → Nat → Int32} {P : Nat → Nat → Option Nat} {r : Option Value} {h' : zH} {a0 : Nat} (H : zk g a0 12 ∧ zk g a0 12 ∧ ∃ (w1 : Int32) (I2 : Nat → Nat → Int32), Cl mX12_wordIn [.ref a0, .int 10, .int 10] (g, I, P) (some (.int w1)) (g, I2, P) ∧ zk g a0 12 ∧ ((¬ I2 a0 8 = 0) → Zt none mX12_linesLine 0 0 38 [(0, .ref a0)] [] (g, I2, P) r h') ∧ ((I2 a0 8 = 0) → zk g a0 12 ∧ ∃ b7, P a0 10 = some b7 ∧ zk g b7 13 ∧ vp_in 0 (g.2.2 b7) ∧ ((I2 b7 (0 : Int32).toNatClampNeg < 6) → Zt none mX12_linesLine 0 0 38 [(0, .ref a0)] [] (g, I2, P) r h') ∧ ((¬ I2 b7 (0 : Int32).toNatClampNeg < 6) → zk g a0 12 ∧ ∃ (I12 : Nat → Nat → Int32), Cl mX12_also [.ref a0, .int 3, .int (I a0 4)] (g, I2, P) none (g, I12, P) ∧ Zt none mX12_linesLine 0 0 38 [(0, .ref a0)] [] (g, I12, P) r h'))) : Zt none mX12_linesLine 0 0 0 [(0, .ref a0)] [] (g, I, P) r h' := by
  refine z_aload_n 0 dX12_linesLine_0 rfl rfl (z_getI dX12_linesLine_1 wf_X12_86 (by decide) (by decide) rfl H.1 (z_istore_n (lv' := [(1, .int (I a0 4)), (0, .ref a0)]) dX12_linesLine_4 (by decide) rfl (z_aload_n 1 dX12_linesLine_5 rfl rfl (z_bipush (w := 10) dX12_linesLine_6 (by decide) (z_bipush (w := 10) dX12_linesLine_8 (by decide) ?_)))))
  obtain ⟨oc3, w1, I2, c3, H4⟩ := H.2
  refine z_virt (As := [.int 10, .int 10]) (st := []) (r1 := (some (.int w1))) (h1 := (g, I2, P)) dX12_linesLine_10 kX12_wordIn wm_X12_145 ⟨by decide, by decide⟩ rfl rfl (Nat.le_of_ble_eq_true rfl) (by decide) (by decide) oc3 c3 ?_
  refine z_pop dX12_linesLine_13 rfl (z_aload_n 1 dX12_linesLine_14 rfl rfl (z_getI dX12_linesLine_15 wf_X12_113 (by decide) (by decide) rfl H4.1 ?_))
  refine z_if_ne (t := 38) dX12_linesLine_18 (by decide) (fun q => ?_) (fun q => ?_)
  · have H5 := H4.2.1 q
    exact z_less [1] rfl H5
  · have H6 := H4.2.2 q
    refine z_aload_n 1 dX12_linesLine_21 rfl rfl ?_
    obtain ⟨oe9, b7, e9, H8⟩ := H6
    refine z_getP dX12_linesLine_22 wf_X12_17 (by decide) (by decide) rfl oe9 (fun q => (by cases q.symm.trans e9)) (fun j q => ?_)
    cases q.symm.trans e9
    refine z_iconst (w := 0) dX12_linesLine_25 (by decide) (z_iald dX12_linesLine_26 H8.1 H8.2.1 (z_bipush (w := 6) dX12_linesLine_27 (by decide) ?_))
    refine z_icmp_lt (t := 38) dX12_linesLine_29 (by decide) (fun q => ?_) (fun q => ?_)
    · have H10 := H8.2.2.1 q
      exact z_less [1] rfl H10
    · have H11 := H8.2.2.2 q
      refine z_aload_n 1 dX12_linesLine_32 rfl rfl (z_iconst (w := 3) dX12_linesLine_33 (by decide) (z_iload_n 0 dX12_linesLine_34 rfl ?_))
      obtain ⟨oc13, I12, c13, H14⟩ := H11
      refine z_virt (As := [.int 3, .int (I a0 4)]) (st := []) (r1 := none) (h1 := (g, I12, P)) dX12_linesLine_35 kX12_also wm_X12_124 ⟨by decide, by decide⟩ rfl rfl (Nat.le_of_ble_eq_true rfl) (by decide) (by decide) oc13 c13 ?_
      exact z_less [1] rfl H14
theorem eX12_linesLine {g : zG} {I : Nat → Nat → Int32} {P : Nat → Nat → Option Nat} {r : Option Value} {h' : zH} {a0 : Nat} (H : Zt none mX12_linesLine 0 0 0 [(0, .ref a0)] [] (g, I, P) r h') : Cl mX12_linesLine [.ref a0] (g, I, P) r h' := Cl.of (by decide) (Nat.le_of_ble_eq_true rfl) H
set_option maxRecDepth 10000 in
theorem wX12_linesLine_38 {g : zG} {I : Nat → Nat → Int32} {P : Nat → Nat → Option Nat} {r : Option Value} {h' : zH} {a0 : Nat} (H : zk g a0 12 ∧ ∃ (I1 : Nat → Nat → Int32), Cl mX12_rowTold [.ref a0, .int 12] (g, I, P) none (g, I1, P) ∧ zk g a0 12 ∧ ∃ b4, P a0 10 = some b4 ∧ zk g b4 13 ∧ vp_in 0 (g.2.2 b4) ∧ ((6 ≤ I1 b4 (0 : Int32).toNatClampNeg) → zk g a0 12 ∧ ∃ (I8 : Nat → Nat → Int32), Cl mX12_endsLine [.ref a0] (g, I1, P) none (g, I8, P) ∧ r = none ∧ h' = (g, I8, P)) ∧ ((¬ 6 ≤ I1 b4 (0 : Int32).toNatClampNeg) → zk g a0 12 ∧ ∃ b12, P a0 10 = some b12 ∧ zk g b12 13 ∧ vp_in 0 (g.2.2 b12) ∧ ∀ y15 : Int32, y15 = 1 + (13 * (I1 b12 (0 : Int32).toNatClampNeg)) → zk g a0 12 ∧ ∃ b17, P a0 10 = some b17 ∧ zk g a0 12 ∧ zk g b17 13 ∧ vp_in y15 (g.2.2 b17) ∧ Zt none mX12_linesLine 0 0 79 [(0, .ref a0), (2, .int y15), (3, .int 0)] [] (g, zU I1 b17 y15.toNatClampNeg (I1 a0 12), P) r h')) : Zt none mX12_linesLine 0 0 38 [(0, .ref a0)] [] (g, I, P) r h' := by
  refine z_aload_n 0 dX12_linesLine_38 rfl rfl (z_bipush (w := 12) dX12_linesLine_39 (by decide) ?_)
  obtain ⟨oc2, I1, c2, H3⟩ := H
  refine z_virt (As := [.int 12]) (st := []) (r1 := none) (h1 := (g, I1, P)) dX12_linesLine_41 kX12_rowTold wm_X12_141 ⟨by decide, by decide⟩ rfl rfl (Nat.le_of_ble_eq_true rfl) (by decide) (by decide) oc2 c2 ?_
  refine z_aload_n 0 dX12_linesLine_44 rfl rfl ?_
  obtain ⟨oe6, b4, e6, H5⟩ := H3
  refine z_getP dX12_linesLine_45 wf_X12_17 (by decide) (by decide) rfl oe6 (fun q => (by cases q.symm.trans e6)) (fun j q => ?_)
  cases q.symm.trans e6
  refine z_iconst (w := 0) dX12_linesLine_48 (by decide) (z_iald dX12_linesLine_49 H5.1 H5.2.1 (z_bipush (w := 6) dX12_linesLine_50 (by decide) ?_))
  refine z_icmp_ge (t := 119) dX12_linesLine_52 (by decide) (fun q => ?_) (fun q => ?_)
  · have H7 := H5.2.2.1 q
    refine z_aload_n 0 dX12_linesLine_119 rfl rfl ?_
    obtain ⟨oc9, I8, c9, H10⟩ := H7
    refine z_virt (As := []) (st := []) (r1 := none) (h1 := (g, I8, P)) dX12_linesLine_120 kX12_endsLine wm_X12_155 ⟨by decide, by decide⟩ rfl rfl (Nat.le_of_ble_eq_true rfl) (by decide) (by decide) oc9 c9 ?_
    obtain ⟨rfl, rfl⟩ := H10
    exact z_vret dX12_linesLine_123 rfl (by decide) (by decide)
  · have H11 := H5.2.2.2 q
    refine z_iconst (w := 1) dX12_linesLine_55 (by decide) (z_bipush (w := 13) dX12_linesLine_56 (by decide) (z_aload_n 0 dX12_linesLine_58 rfl rfl ?_))
    obtain ⟨oe14, b12, e14, H13⟩ := H11
    refine z_getP dX12_linesLine_59 wf_X12_17 (by decide) (by decide) rfl oe14 (fun q => (by cases q.symm.trans e14)) (fun j q => ?_)
    cases q.symm.trans e14
    refine z_iconst (w := 0) dX12_linesLine_62 (by decide) (z_iald dX12_linesLine_63 H13.1 H13.2.1 (z_imul dX12_linesLine_64 (z_iadd dX12_linesLine_65 ?_)))
    refine z_nm (fun y15 e_y15 => ?_)
    have H16 := H13.2.2 y15 e_y15
    refine z_istore_n (lv' := [(2, .int y15), (0, .ref a0)]) dX12_linesLine_66 (by decide) rfl (z_aload_n 1 dX12_linesLine_67 rfl rfl ?_)
    obtain ⟨oe19, b17, e19, H18⟩ := H16
    refine z_getP dX12_linesLine_68 wf_X12_17 (by decide) (by decide) rfl oe19 (fun q => (by cases q.symm.trans e19)) (fun j q => ?_)
    cases q.symm.trans e19
    refine z_iload_n 0 dX12_linesLine_71 rfl (z_aload_n 1 dX12_linesLine_72 rfl rfl (z_getI dX12_linesLine_73 wf_X12_131 (by decide) (by decide) rfl H18.1 (z_iast (g := g) (I := I1) (Q := P) dX12_linesLine_76 H18.2.1 H18.2.2.1 (z_iconst (w := 0) dX12_linesLine_77 (by decide) (z_istore_n (lv' := [(3, .int 0), (2, .int y15), (0, .ref a0)]) dX12_linesLine_78 (by decide) rfl ?_)))))
    exact z_less [2, 1, 0] rfl H18.2.2.2
set_option maxRecDepth 10000 in
theorem wX12_linesLine_79 {g : zG} {I : Nat → Nat → Int32} {P : Nat → Nat → Option Nat} {r : Option Value} {h' : zH} {a0 : Nat} {x2 : Int32} {x3 : Int32} (H : zk g a0 12 ∧ ((I a0 12 ≤ x3) → zk g a0 12 ∧ ∃ b2, P a0 10 = some b2 ∧ zk g b2 13 ∧ vp_in 0 (g.2.2 b2) ∧ zk g b2 13 ∧ vp_in 0 (g.2.2 b2) ∧ zk g a0 12 ∧ ∃ (I5 : Nat → Nat → Int32), Cl mX12_endsLine [.ref a0] (g, zU I b2 (0 : Int32).toNatClampNeg ((I b2 (0 : Int32).toNatClampNeg) + 1), P) none (g, I5, P) ∧ r = none ∧ h' = (g, I5, P)) ∧ ((¬ I a0 12 ≤ x3) → zk g a0 12 ∧ ∃ b9, P a0 10 = some b9 ∧ zk g a0 12 ∧ ∃ b12, P a0 11 = some b12 ∧ zk g b12 13 ∧ vp_in x3 (g.2.2 b12) ∧ zk g b9 13 ∧ vp_in ((x2 + 1) + x3) (g.2.2 b9) ∧ Zt none mX12_linesLine 0 0 79 [(0, .ref a0), (2, .int x2), (3, .int (x3 + 1))] [] (g, zU I b9 ((x2 + 1) + x3).toNatClampNeg (I b12 x3.toNatClampNeg), P) r h')) : Zt none mX12_linesLine 0 0 79 [(0, .ref a0), (2, .int x2), (3, .int x3)] [] (g, I, P) r h' := by
  refine z_iload_n 2 dX12_linesLine_79 rfl (z_aload_n 0 dX12_linesLine_80 rfl rfl (z_getI dX12_linesLine_81 wf_X12_131 (by decide) (by decide) rfl H.1 ?_))
  refine z_icmp_ge (t := 109) dX12_linesLine_84 (by decide) (fun q => ?_) (fun q => ?_)
  · have H1 := H.2.1 q
    refine z_aload_n 0 dX12_linesLine_109 rfl rfl ?_
    obtain ⟨oe4, b2, e4, H3⟩ := H1
    refine z_getP dX12_linesLine_110 wf_X12_17 (by decide) (by decide) rfl oe4 (fun q => (by cases q.symm.trans e4)) (fun j q => ?_)
    cases q.symm.trans e4
    refine z_iconst (w := 0) dX12_linesLine_113 (by decide) (z_dup2 dX12_linesLine_114 rfl rfl (z_iald dX12_linesLine_115 H3.1 H3.2.1 (z_iconst (w := 1) dX12_linesLine_116 (by decide) (z_iadd dX12_linesLine_117 (z_iast (g := g) (I := I) (Q := P) dX12_linesLine_118 H3.2.2.1 H3.2.2.2.1 (z_aload_n 0 dX12_linesLine_119 rfl rfl ?_))))))
    obtain ⟨oc6, I5, c6, H7⟩ := H3.2.2.2.2
    refine z_virt (As := []) (st := []) (r1 := none) (h1 := (g, I5, P)) dX12_linesLine_120 kX12_endsLine wm_X12_155 ⟨by decide, by decide⟩ rfl rfl (Nat.le_of_ble_eq_true rfl) (by decide) (by decide) oc6 c6 ?_
    obtain ⟨rfl, rfl⟩ := H7
    exact z_vret dX12_linesLine_123 rfl (by decide) (by decide)
  · have H8 := H.2.2 q
    refine z_aload_n 0 dX12_linesLine_87 rfl rfl ?_
    obtain ⟨oe11, b9, e11, H10⟩ := H8
    refine z_getP dX12_linesLine_88 wf_X12_17 (by decide) (by decide) rfl oe11 (fun q => (by cases q.symm.trans e11)) (fun j q => ?_)
    cases q.symm.trans e11
    refine z_iload_n 1 dX12_linesLine_91 rfl (z_iconst (w := 1) dX12_linesLine_92 (by decide) (z_iadd dX12_linesLine_93 (z_iload_n 2 dX12_linesLine_94 rfl (z_iadd dX12_linesLine_95 (z_aload_n 0 dX12_linesLine_96 rfl rfl ?_)))))
    obtain ⟨oe14, b12, e14, H13⟩ := H10
    refine z_getP dX12_linesLine_97 wf_X12_20 (by decide) (by decide) rfl oe14 (fun q => (by cases q.symm.trans e14)) (fun j q => ?_)
    cases q.symm.trans e14
    refine z_iload_n 2 dX12_linesLine_100 rfl (z_iald dX12_linesLine_101 H13.1 H13.2.1 (z_iast (g := g) (I := I) (Q := P) dX12_linesLine_102 H13.2.2.1 H13.2.2.2.1 (z_iinc (y := x3 + 1) (lv' := [(3, .int (x3 + 1)), (0, .ref a0), (2, .int x2)]) 2 dX12_linesLine_103 rfl rfl (by decide) rfl (z_goto (t := 79) dX12_linesLine_106 (by decide) ?_))))
    exact z_less [1, 2, 0] rfl H13.2.2.2.2
theorem dX12_logLine_0 : decode cX12_logLine 0 = .ok (.aload_n 0, 1) := by decide +kernel
theorem dX12_logLine_1 : decode cX12_logLine 1 = .ok (.getfield 86, 3) := by decide +kernel
theorem dX12_logLine_4 : decode cX12_logLine 4 = .ok (.istore_n 1, 1) := by decide +kernel
theorem dX12_logLine_5 : decode cX12_logLine 5 = .ok (.aload_n 0, 1) := by decide +kernel
theorem dX12_logLine_6 : decode cX12_logLine 6 = .ok (.bipush 11, 2) := by decide +kernel
theorem dX12_logLine_8 : decode cX12_logLine 8 = .ok (.bipush 11, 2) := by decide +kernel
theorem dX12_logLine_10 : decode cX12_logLine 10 = .ok (.invokevirtual 145, 3) := by decide +kernel
theorem dX12_logLine_13 : decode cX12_logLine 13 = .ok (.pop, 1) := by decide +kernel
theorem dX12_logLine_14 : decode cX12_logLine 14 = .ok (.aload_n 0, 1) := by decide +kernel
theorem dX12_logLine_15 : decode cX12_logLine 15 = .ok (.getfield 113, 3) := by decide +kernel
theorem dX12_logLine_18 : decode cX12_logLine 18 = .ok (.ifCond .ne 20, 3) := by decide +kernel
theorem dX12_logLine_21 : decode cX12_logLine 21 = .ok (.aload_n 0, 1) := by decide +kernel
theorem dX12_logLine_22 : decode cX12_logLine 22 = .ok (.getfield 17, 3) := by decide +kernel
theorem dX12_logLine_25 : decode cX12_logLine 25 = .ok (.iconst 0, 1) := by decide +kernel
theorem dX12_logLine_26 : decode cX12_logLine 26 = .ok (.iaload, 1) := by decide +kernel
theorem dX12_logLine_27 : decode cX12_logLine 27 = .ok (.bipush 8, 2) := by decide +kernel
theorem dX12_logLine_29 : decode cX12_logLine 29 = .ok (.if_icmp .lt 9, 3) := by decide +kernel
theorem dX12_logLine_32 : decode cX12_logLine 32 = .ok (.aload_n 0, 1) := by decide +kernel
theorem dX12_logLine_33 : decode cX12_logLine 33 = .ok (.iconst 3, 1) := by decide +kernel
theorem dX12_logLine_34 : decode cX12_logLine 34 = .ok (.iload_n 1, 1) := by decide +kernel
theorem dX12_logLine_35 : decode cX12_logLine 35 = .ok (.invokevirtual 124, 3) := by decide +kernel
theorem dX12_logLine_38 : decode cX12_logLine 38 = .ok (.aload_n 0, 1) := by decide +kernel
theorem dX12_logLine_39 : decode cX12_logLine 39 = .ok (.iconst 0, 1) := by decide +kernel
theorem dX12_logLine_40 : decode cX12_logLine 40 = .ok (.bipush 11, 2) := by decide +kernel
theorem dX12_logLine_42 : decode cX12_logLine 42 = .ok (.invokevirtual 134, 3) := by decide +kernel
theorem dX12_logLine_45 : decode cX12_logLine 45 = .ok (.istore_n 2, 1) := by decide +kernel
theorem dX12_logLine_46 : decode cX12_logLine 46 = .ok (.aload_n 0, 1) := by decide +kernel
theorem dX12_logLine_47 : decode cX12_logLine 47 = .ok (.iconst 0, 1) := by decide +kernel
theorem dX12_logLine_48 : decode cX12_logLine 48 = .ok (.bipush 9, 2) := by decide +kernel
theorem dX12_logLine_50 : decode cX12_logLine 50 = .ok (.invokevirtual 134, 3) := by decide +kernel
theorem dX12_logLine_53 : decode cX12_logLine 53 = .ok (.istore_n 3, 1) := by decide +kernel
theorem dX12_logLine_54 : decode cX12_logLine 54 = .ok (.aload_n 0, 1) := by decide +kernel
theorem dX12_logLine_55 : decode cX12_logLine 55 = .ok (.getfield 17, 3) := by decide +kernel
theorem dX12_logLine_58 : decode cX12_logLine 58 = .ok (.iconst 0, 1) := by decide +kernel
theorem dX12_logLine_59 : decode cX12_logLine 59 = .ok (.iaload, 1) := by decide +kernel
theorem dX12_logLine_60 : decode cX12_logLine 60 = .ok (.bipush 8, 2) := by decide +kernel
theorem dX12_logLine_62 : decode cX12_logLine 62 = .ok (.if_icmp .ge 45, 3) := by decide +kernel
theorem dX12_logLine_65 : decode cX12_logLine 65 = .ok (.aload_n 0, 1) := by decide +kernel
theorem dX12_logLine_66 : decode cX12_logLine 66 = .ok (.getfield 17, 3) := by decide +kernel
theorem dX12_logLine_69 : decode cX12_logLine 69 = .ok (.iconst 1, 1) := by decide +kernel
theorem dX12_logLine_70 : decode cX12_logLine 70 = .ok (.iconst 2, 1) := by decide +kernel
theorem dX12_logLine_71 : decode cX12_logLine 71 = .ok (.aload_n 0, 1) := by decide +kernel
theorem dX12_logLine_72 : decode cX12_logLine 72 = .ok (.getfield 17, 3) := by decide +kernel
theorem dX12_logLine_75 : decode cX12_logLine 75 = .ok (.iconst 0, 1) := by decide +kernel
theorem dX12_logLine_76 : decode cX12_logLine 76 = .ok (.iaload, 1) := by decide +kernel
theorem dX12_logLine_77 : decode cX12_logLine 77 = .ok (.imul, 1) := by decide +kernel
theorem dX12_logLine_78 : decode cX12_logLine 78 = .ok (.iadd, 1) := by decide +kernel
theorem dX12_logLine_79 : decode cX12_logLine 79 = .ok (.iload_n 2, 1) := by decide +kernel
theorem dX12_logLine_80 : decode cX12_logLine 80 = .ok (.iastore, 1) := by decide +kernel
theorem dX12_logLine_81 : decode cX12_logLine 81 = .ok (.aload_n 0, 1) := by decide +kernel
theorem dX12_logLine_82 : decode cX12_logLine 82 = .ok (.getfield 17, 3) := by decide +kernel
theorem dX12_logLine_85 : decode cX12_logLine 85 = .ok (.iconst 2, 1) := by decide +kernel
theorem dX12_logLine_86 : decode cX12_logLine 86 = .ok (.iconst 2, 1) := by decide +kernel
theorem dX12_logLine_87 : decode cX12_logLine 87 = .ok (.aload_n 0, 1) := by decide +kernel
theorem dX12_logLine_88 : decode cX12_logLine 88 = .ok (.getfield 17, 3) := by decide +kernel
theorem dX12_logLine_91 : decode cX12_logLine 91 = .ok (.iconst 0, 1) := by decide +kernel
theorem dX12_logLine_92 : decode cX12_logLine 92 = .ok (.iaload, 1) := by decide +kernel
theorem dX12_logLine_93 : decode cX12_logLine 93 = .ok (.imul, 1) := by decide +kernel
theorem dX12_logLine_94 : decode cX12_logLine 94 = .ok (.iadd, 1) := by decide +kernel
theorem dX12_logLine_95 : decode cX12_logLine 95 = .ok (.iload_n 3, 1) := by decide +kernel
theorem dX12_logLine_96 : decode cX12_logLine 96 = .ok (.iastore, 1) := by decide +kernel
theorem dX12_logLine_97 : decode cX12_logLine 97 = .ok (.aload_n 0, 1) := by decide +kernel
theorem dX12_logLine_98 : decode cX12_logLine 98 = .ok (.getfield 17, 3) := by decide +kernel
theorem dX12_logLine_101 : decode cX12_logLine 101 = .ok (.iconst 0, 1) := by decide +kernel
theorem dX12_logLine_102 : decode cX12_logLine 102 = .ok (.dup2, 1) := by decide +kernel
theorem dX12_logLine_103 : decode cX12_logLine 103 = .ok (.iaload, 1) := by decide +kernel
theorem dX12_logLine_104 : decode cX12_logLine 104 = .ok (.iconst 1, 1) := by decide +kernel
theorem dX12_logLine_105 : decode cX12_logLine 105 = .ok (.iadd, 1) := by decide +kernel
theorem dX12_logLine_106 : decode cX12_logLine 106 = .ok (.iastore, 1) := by decide +kernel
theorem dX12_logLine_107 : decode cX12_logLine 107 = .ok (.aload_n 0, 1) := by decide +kernel
theorem dX12_logLine_108 : decode cX12_logLine 108 = .ok (.invokevirtual 155, 3) := by decide +kernel
theorem dX12_logLine_111 : decode cX12_logLine 111 = .ok (.return_, 1) := by decide +kernel
set_option maxRecDepth 10000 in
theorem wX12_logLine_0 {g : zG} {I : Nat → Nat → Int32} {P : Nat → Nat → Option Nat} {r : Option Value} {h' : zH} {a0 : Nat} (H : zk g a0 12 ∧ zk g a0 12 ∧ ∃ (w1 : Int32) (I2 : Nat → Nat → Int32), Cl mX12_wordIn [.ref a0, .int 11, .int 11] (g, I, P) (some (.int w1)) (g, I2, P) ∧ zk g a0 12 ∧ ((¬ I2 a0 8 = 0) → Zt none mX12_logLine 0 0 38 [(0, .ref a0)] [] (g, I2, P) r h') ∧ ((I2 a0 8 = 0) → zk g a0 12 ∧ ∃ b7, P a0 10 = some b7 ∧ zk g b7 13 ∧ vp_in 0 (g.2.2 b7) ∧ ((I2 b7 (0 : Int32).toNatClampNeg < 8) → Zt none mX12_logLine 0 0 38 [(0, .ref a0)] [] (g, I2, P) r h') ∧ ((¬ I2 b7 (0 : Int32).toNatClampNeg < 8) → zk g a0 12 ∧ ∃ (I12 : Nat → Nat → Int32), Cl mX12_also [.ref a0, .int 3, .int (I a0 4)] (g, I2, P) none (g, I12, P) ∧ Zt none mX12_logLine 0 0 38 [(0, .ref a0)] [] (g, I12, P) r h'))) : Zt none mX12_logLine 0 0 0 [(0, .ref a0)] [] (g, I, P) r h' := by
  refine z_aload_n 0 dX12_logLine_0 rfl rfl (z_getI dX12_logLine_1 wf_X12_86 (by decide) (by decide) rfl H.1 (z_istore_n (lv' := [(1, .int (I a0 4)), (0, .ref a0)]) dX12_logLine_4 (by decide) rfl (z_aload_n 1 dX12_logLine_5 rfl rfl (z_bipush (w := 11) dX12_logLine_6 (by decide) (z_bipush (w := 11) dX12_logLine_8 (by decide) ?_)))))
  obtain ⟨oc3, w1, I2, c3, H4⟩ := H.2
  refine z_virt (As := [.int 11, .int 11]) (st := []) (r1 := (some (.int w1))) (h1 := (g, I2, P)) dX12_logLine_10 kX12_wordIn wm_X12_145 ⟨by decide, by decide⟩ rfl rfl (Nat.le_of_ble_eq_true rfl) (by decide) (by decide) oc3 c3 ?_
  refine z_pop dX12_logLine_13 rfl (z_aload_n 1 dX12_logLine_14 rfl rfl (z_getI dX12_logLine_15 wf_X12_113 (by decide) (by decide) rfl H4.1 ?_))
  refine z_if_ne (t := 38) dX12_logLine_18 (by decide) (fun q => ?_) (fun q => ?_)
  · have H5 := H4.2.1 q
    exact z_less [1] rfl H5
  · have H6 := H4.2.2 q
    refine z_aload_n 1 dX12_logLine_21 rfl rfl ?_
    obtain ⟨oe9, b7, e9, H8⟩ := H6
    refine z_getP dX12_logLine_22 wf_X12_17 (by decide) (by decide) rfl oe9 (fun q => (by cases q.symm.trans e9)) (fun j q => ?_)
    cases q.symm.trans e9
    refine z_iconst (w := 0) dX12_logLine_25 (by decide) (z_iald dX12_logLine_26 H8.1 H8.2.1 (z_bipush (w := 8) dX12_logLine_27 (by decide) ?_))
    refine z_icmp_lt (t := 38) dX12_logLine_29 (by decide) (fun q => ?_) (fun q => ?_)
    · have H10 := H8.2.2.1 q
      exact z_less [1] rfl H10
    · have H11 := H8.2.2.2 q
      refine z_aload_n 1 dX12_logLine_32 rfl rfl (z_iconst (w := 3) dX12_logLine_33 (by decide) (z_iload_n 0 dX12_logLine_34 rfl ?_))
      obtain ⟨oc13, I12, c13, H14⟩ := H11
      refine z_virt (As := [.int 3, .int (I a0 4)]) (st := []) (r1 := none) (h1 := (g, I12, P)) dX12_logLine_35 kX12_also wm_X12_124 ⟨by decide, by decide⟩ rfl rfl (Nat.le_of_ble_eq_true rfl) (by decide) (by decide) oc13 c13 ?_
      exact z_less [1] rfl H14
theorem eX12_logLine {g : zG} {I : Nat → Nat → Int32} {P : Nat → Nat → Option Nat} {r : Option Value} {h' : zH} {a0 : Nat} (H : Zt none mX12_logLine 0 0 0 [(0, .ref a0)] [] (g, I, P) r h') : Cl mX12_logLine [.ref a0] (g, I, P) r h' := Cl.of (by decide) (Nat.le_of_ble_eq_true rfl) H
set_option maxRecDepth 10000 in
theorem wX12_logLine_38 {g : zG} {I : Nat → Nat → Int32} {P : Nat → Nat → Option Nat} {r : Option Value} {h' : zH} {a0 : Nat} (H : zk g a0 12 ∧ ∃ (w1 : Int32) (I2 : Nat → Nat → Int32), Cl mX12_numbered [.ref a0, .int 0, .int 11] (g, I, P) (some (.int w1)) (g, I2, P) ∧ zk g a0 12 ∧ ∃ (w5 : Int32) (I6 : Nat → Nat → Int32), Cl mX12_numbered [.ref a0, .int 0, .int 9] (g, I2, P) (some (.int w5)) (g, I6, P) ∧ zk g a0 12 ∧ ∃ b9, P a0 10 = some b9 ∧ zk g b9 13 ∧ vp_in 0 (g.2.2 b9) ∧ ((8 ≤ I6 b9 (0 : Int32).toNatClampNeg) → zk g a0 12 ∧ ∃ (I13 : Nat → Nat → Int32), Cl mX12_endsLine [.ref a0] (g, I6, P) none (g, I13, P) ∧ r = none ∧ h' = (g, I13, P)) ∧ ((¬ 8 ≤ I6 b9 (0 : Int32).toNatClampNeg) → zk g a0 12 ∧ ∃ b17, P a0 10 = some b17 ∧ zk g a0 12 ∧ ∃ b20, P a0 10 = some b20 ∧ zk g b20 13 ∧ vp_in 0 (g.2.2 b20) ∧ zk g b17 13 ∧ vp_in (1 + (2 * (I6 b20 (0 : Int32).toNatClampNeg))) (g.2.2 b17) ∧ zk g a0 12 ∧ ∃ b23, P a0 10 = some b23 ∧ zk g a0 12 ∧ ∃ b26, P a0 10 = some b26 ∧ zk g b26 13 ∧ vp_in 0 (g.2.2 b26) ∧ zk g b23 13 ∧ vp_in (2 + (2 * ((zU I6 b17 (1 + (2 * (I6 b20 (0 : Int32).toNatClampNeg))).toNatClampNeg w1) b26 (0 : Int32).toNatClampNeg))) (g.2.2 b23) ∧ zk g a0 12 ∧ ∃ b29, P a0 10 = some b29 ∧ zk g b29 13 ∧ vp_in 0 (g.2.2 b29) ∧ zk g b29 13 ∧ vp_in 0 (g.2.2 b29) ∧ zk g a0 12 ∧ ∃ (I32 : Nat → Nat → Int32), Cl mX12_endsLine [.ref a0] (g, zU (zU (zU I6 b17 (1 + (2 * (I6 b20 (0 : Int32).toNatClampNeg))).toNatClampNeg w1) b23 (2 + (2 * ((zU I6 b17 (1 + (2 * (I6 b20 (0 : Int32).toNatClampNeg))).toNatClampNeg w1) b26 (0 : Int32).toNatClampNeg))).toNatClampNeg w5) b29 (0 : Int32).toNatClampNeg (((zU (zU I6 b17 (1 + (2 * (I6 b20 (0 : Int32).toNatClampNeg))).toNatClampNeg w1) b23 (2 + (2 * ((zU I6 b17 (1 + (2 * (I6 b20 (0 : Int32).toNatClampNeg))).toNatClampNeg w1) b26 (0 : Int32).toNatClampNeg))).toNatClampNeg w5) b29 (0 : Int32).toNatClampNeg) + 1), P) none (g, I32, P) ∧ r = none ∧ h' = (g, I32, P))) : Zt none mX12_logLine 0 0 38 [(0, .ref a0)] [] (g, I, P) r h' := by
  refine z_aload_n 0 dX12_logLine_38 rfl rfl (z_iconst (w := 0) dX12_logLine_39 (by decide) (z_bipush (w := 11) dX12_logLine_40 (by decide) ?_))
  obtain ⟨oc3, w1, I2, c3, H4⟩ := H
  refine z_virt (As := [.int 0, .int 11]) (st := []) (r1 := (some (.int w1))) (h1 := (g, I2, P)) dX12_logLine_42 kX12_numbered wm_X12_134 ⟨by decide, by decide⟩ rfl rfl (Nat.le_of_ble_eq_true rfl) (by decide) (by decide) oc3 c3 ?_
  refine z_istore_n (lv' := [(2, .int w1), (0, .ref a0)]) dX12_logLine_45 (by decide) rfl (z_aload_n 1 dX12_logLine_46 rfl rfl (z_iconst (w := 0) dX12_logLine_47 (by decide) (z_bipush (w := 9) dX12_logLine_48 (by decide) ?_)))
  obtain ⟨oc7, w5, I6, c7, H8⟩ := H4
  refine z_virt (As := [.int 0, .int 9]) (st := []) (r1 := (some (.int w5))) (h1 := (g, I6, P)) dX12_logLine_50 kX12_numbered wm_X12_134 ⟨by decide, by decide⟩ rfl rfl (Nat.le_of_ble_eq_true rfl) (by decide) (by decide) oc7 c7 ?_
  refine z_istore_n (lv' := [(3, .int w5), (2, .int w1), (0, .ref a0)]) dX12_logLine_53 (by decide) rfl (z_aload_n 2 dX12_logLine_54 rfl rfl ?_)
  obtain ⟨oe11, b9, e11, H10⟩ := H8
  refine z_getP dX12_logLine_55 wf_X12_17 (by decide) (by decide) rfl oe11 (fun q => (by cases q.symm.trans e11)) (fun j q => ?_)
  cases q.symm.trans e11
  refine z_iconst (w := 0) dX12_logLine_58 (by decide) (z_iald dX12_logLine_59 H10.1 H10.2.1 (z_bipush (w := 8) dX12_logLine_60 (by decide) ?_))
  refine z_icmp_ge (t := 107) dX12_logLine_62 (by decide) (fun q => ?_) (fun q => ?_)
  · have H12 := H10.2.2.1 q
    refine z_aload_n 2 dX12_logLine_107 rfl rfl ?_
    obtain ⟨oc14, I13, c14, H15⟩ := H12
    refine z_virt (As := []) (st := []) (r1 := none) (h1 := (g, I13, P)) dX12_logLine_108 kX12_endsLine wm_X12_155 ⟨by decide, by decide⟩ rfl rfl (Nat.le_of_ble_eq_true rfl) (by decide) (by decide) oc14 c14 ?_
    obtain ⟨rfl, rfl⟩ := H15
    exact z_vret dX12_logLine_111 rfl (by decide) (by decide)
  · have H16 := H10.2.2.2 q
    refine z_aload_n 2 dX12_logLine_65 rfl rfl ?_
    obtain ⟨oe19, b17, e19, H18⟩ := H16
    refine z_getP dX12_logLine_66 wf_X12_17 (by decide) (by decide) rfl oe19 (fun q => (by cases q.symm.trans e19)) (fun j q => ?_)
    cases q.symm.trans e19
    refine z_iconst (w := 1) dX12_logLine_69 (by decide) (z_iconst (w := 2) dX12_logLine_70 (by decide) (z_aload_n 2 dX12_logLine_71 rfl rfl ?_))
    obtain ⟨oe22, b20, e22, H21⟩ := H18
    refine z_getP dX12_logLine_72 wf_X12_17 (by decide) (by decide) rfl oe22 (fun q => (by cases q.symm.trans e22)) (fun j q => ?_)
    cases q.symm.trans e22
    refine z_iconst (w := 0) dX12_logLine_75 (by decide) (z_iald dX12_logLine_76 H21.1 H21.2.1 (z_imul dX12_logLine_77 (z_iadd dX12_logLine_78 (z_iload_n 1 dX12_logLine_79 rfl (z_iast (g := g) (I := I6) (Q := P) dX12_logLine_80 H21.2.2.1 H21.2.2.2.1 (z_aload_n 2 dX12_logLine_81 rfl rfl ?_))))))
    obtain ⟨oe25, b23, e25, H24⟩ := H21.2.2.2.2
    refine z_getP dX12_logLine_82 wf_X12_17 (by decide) (by decide) rfl oe25 (fun q => (by cases q.symm.trans e25)) (fun j q => ?_)
    cases q.symm.trans e25
    refine z_iconst (w := 2) dX12_logLine_85 (by decide) (z_iconst (w := 2) dX12_logLine_86 (by decide) (z_aload_n 2 dX12_logLine_87 rfl rfl ?_))
    obtain ⟨oe28, b26, e28, H27⟩ := H24
    refine z_getP dX12_logLine_88 wf_X12_17 (by decide) (by decide) rfl oe28 (fun q => (by cases q.symm.trans e28)) (fun j q => ?_)
    cases q.symm.trans e28
    refine z_iconst (w := 0) dX12_logLine_91 (by decide) (z_iald dX12_logLine_92 H27.1 H27.2.1 (z_imul dX12_logLine_93 (z_iadd dX12_logLine_94 (z_iload_n 0 dX12_logLine_95 rfl (z_iast (g := g) (I := zU I6 b17 (1 + (2 * (I6 b20 (0 : Int32).toNatClampNeg))).toNatClampNeg w1) (Q := P) dX12_logLine_96 H27.2.2.1 H27.2.2.2.1 (z_aload_n 2 dX12_logLine_97 rfl rfl ?_))))))
    obtain ⟨oe31, b29, e31, H30⟩ := H27.2.2.2.2
    refine z_getP dX12_logLine_98 wf_X12_17 (by decide) (by decide) rfl oe31 (fun q => (by cases q.symm.trans e31)) (fun j q => ?_)
    cases q.symm.trans e31
    refine z_iconst (w := 0) dX12_logLine_101 (by decide) (z_dup2 dX12_logLine_102 rfl rfl (z_iald dX12_logLine_103 H30.1 H30.2.1 (z_iconst (w := 1) dX12_logLine_104 (by decide) (z_iadd dX12_logLine_105 (z_iast (g := g) (I := zU (zU I6 b17 (1 + (2 * (I6 b20 (0 : Int32).toNatClampNeg))).toNatClampNeg w1) b23 (2 + (2 * ((zU I6 b17 (1 + (2 * (I6 b20 (0 : Int32).toNatClampNeg))).toNatClampNeg w1) b26 (0 : Int32).toNatClampNeg))).toNatClampNeg w5) (Q := P) dX12_logLine_106 H30.2.2.1 H30.2.2.2.1 (z_aload_n 2 dX12_logLine_107 rfl rfl ?_))))))
    obtain ⟨oc33, I32, c33, H34⟩ := H30.2.2.2.2
    refine z_virt (As := []) (st := []) (r1 := none) (h1 := (g, I32, P)) dX12_logLine_108 kX12_endsLine wm_X12_155 ⟨by decide, by decide⟩ rfl rfl (Nat.le_of_ble_eq_true rfl) (by decide) (by decide) oc33 c33 ?_
    obtain ⟨rfl, rfl⟩ := H34
    exact z_vret dX12_logLine_111 rfl (by decide) (by decide)
theorem dX12_isTwice_0 : decode cX12_isTwice 0 = .ok (.iconst 0, 1) := by decide +kernel
theorem dX12_isTwice_1 : decode cX12_isTwice 1 = .ok (.istore_n 1, 1) := by decide +kernel
theorem dX12_isTwice_2 : decode cX12_isTwice 2 = .ok (.iconst 0, 1) := by decide +kernel
theorem dX12_isTwice_3 : decode cX12_isTwice 3 = .ok (.istore_n 2, 1) := by decide +kernel
theorem dX12_isTwice_4 : decode cX12_isTwice 4 = .ok (.iload_n 2, 1) := by decide +kernel
theorem dX12_isTwice_5 : decode cX12_isTwice 5 = .ok (.aload_n 0, 1) := by decide +kernel
theorem dX12_isTwice_6 : decode cX12_isTwice 6 = .ok (.getfield 17, 3) := by decide +kernel
theorem dX12_isTwice_9 : decode cX12_isTwice 9 = .ok (.iconst 1, 1) := by decide +kernel
theorem dX12_isTwice_10 : decode cX12_isTwice 10 = .ok (.iaload, 1) := by decide +kernel
theorem dX12_isTwice_11 : decode cX12_isTwice 11 = .ok (.if_icmp .ge 105, 3) := by decide +kernel
theorem dX12_isTwice_14 : decode cX12_isTwice 14 = .ok (.iconst 0, 1) := by decide +kernel
theorem dX12_isTwice_15 : decode cX12_isTwice 15 = .ok (.istore_n 3, 1) := by decide +kernel
theorem dX12_isTwice_16 : decode cX12_isTwice 16 = .ok (.iload_n 3, 1) := by decide +kernel
theorem dX12_isTwice_17 : decode cX12_isTwice 17 = .ok (.iload_n 2, 1) := by decide +kernel
theorem dX12_isTwice_18 : decode cX12_isTwice 18 = .ok (.if_icmp .ge 92, 3) := by decide +kernel
theorem dX12_isTwice_21 : decode cX12_isTwice 21 = .ok (.iconst 1, 1) := by decide +kernel
theorem dX12_isTwice_22 : decode cX12_isTwice 22 = .ok (.istore 4, 2) := by decide +kernel
theorem dX12_isTwice_24 : decode cX12_isTwice 24 = .ok (.iconst 0, 1) := by decide +kernel
theorem dX12_isTwice_25 : decode cX12_isTwice 25 = .ok (.istore 5, 2) := by decide +kernel
theorem dX12_isTwice_27 : decode cX12_isTwice 27 = .ok (.iload 5, 2) := by decide +kernel
theorem dX12_isTwice_29 : decode cX12_isTwice 29 = .ok (.bipush 8, 2) := by decide +kernel
theorem dX12_isTwice_31 : decode cX12_isTwice 31 = .ok (.if_icmp .ge 58, 3) := by decide +kernel
theorem dX12_isTwice_34 : decode cX12_isTwice 34 = .ok (.iload 4, 2) := by decide +kernel
theorem dX12_isTwice_36 : decode cX12_isTwice 36 = .ok (.ifCond .eq 44, 3) := by decide +kernel
theorem dX12_isTwice_39 : decode cX12_isTwice 39 = .ok (.iload 5, 2) := by decide +kernel
theorem dX12_isTwice_41 : decode cX12_isTwice 41 = .ok (.iconst 1, 1) := by decide +kernel
theorem dX12_isTwice_42 : decode cX12_isTwice 42 = .ok (.if_icmp .eq 34, 3) := by decide +kernel
theorem dX12_isTwice_45 : decode cX12_isTwice 45 = .ok (.aload_n 0, 1) := by decide +kernel
theorem dX12_isTwice_46 : decode cX12_isTwice 46 = .ok (.getfield 17, 3) := by decide +kernel
theorem dX12_isTwice_49 : decode cX12_isTwice 49 = .ok (.iconst 2, 1) := by decide +kernel
theorem dX12_isTwice_50 : decode cX12_isTwice 50 = .ok (.bipush 8, 2) := by decide +kernel
theorem dX12_isTwice_52 : decode cX12_isTwice 52 = .ok (.iload_n 2, 1) := by decide +kernel
theorem dX12_isTwice_53 : decode cX12_isTwice 53 = .ok (.imul, 1) := by decide +kernel
theorem dX12_isTwice_54 : decode cX12_isTwice 54 = .ok (.iadd, 1) := by decide +kernel
theorem dX12_isTwice_55 : decode cX12_isTwice 55 = .ok (.iload 5, 2) := by decide +kernel
theorem dX12_isTwice_57 : decode cX12_isTwice 57 = .ok (.iadd, 1) := by decide +kernel
theorem dX12_isTwice_58 : decode cX12_isTwice 58 = .ok (.iaload, 1) := by decide +kernel
theorem dX12_isTwice_59 : decode cX12_isTwice 59 = .ok (.aload_n 0, 1) := by decide +kernel
theorem dX12_isTwice_60 : decode cX12_isTwice 60 = .ok (.getfield 17, 3) := by decide +kernel
theorem dX12_isTwice_63 : decode cX12_isTwice 63 = .ok (.iconst 2, 1) := by decide +kernel
theorem dX12_isTwice_64 : decode cX12_isTwice 64 = .ok (.bipush 8, 2) := by decide +kernel
theorem dX12_isTwice_66 : decode cX12_isTwice 66 = .ok (.iload_n 3, 1) := by decide +kernel
theorem dX12_isTwice_67 : decode cX12_isTwice 67 = .ok (.imul, 1) := by decide +kernel
theorem dX12_isTwice_68 : decode cX12_isTwice 68 = .ok (.iadd, 1) := by decide +kernel
theorem dX12_isTwice_69 : decode cX12_isTwice 69 = .ok (.iload 5, 2) := by decide +kernel
theorem dX12_isTwice_71 : decode cX12_isTwice 71 = .ok (.iadd, 1) := by decide +kernel
theorem dX12_isTwice_72 : decode cX12_isTwice 72 = .ok (.iaload, 1) := by decide +kernel
theorem dX12_isTwice_73 : decode cX12_isTwice 73 = .ok (.if_icmp .ne 7, 3) := by decide +kernel
theorem dX12_isTwice_76 : decode cX12_isTwice 76 = .ok (.iconst 1, 1) := by decide +kernel
theorem dX12_isTwice_77 : decode cX12_isTwice 77 = .ok (.goto 4, 3) := by decide +kernel
theorem dX12_isTwice_80 : decode cX12_isTwice 80 = .ok (.iconst 0, 1) := by decide +kernel
theorem dX12_isTwice_81 : decode cX12_isTwice 81 = .ok (.istore 4, 2) := by decide +kernel
theorem dX12_isTwice_83 : decode cX12_isTwice 83 = .ok (.iinc 5 1, 3) := by decide +kernel
theorem dX12_isTwice_86 : decode cX12_isTwice 86 = .ok (.goto (-59), 3) := by decide +kernel
theorem dX12_isTwice_89 : decode cX12_isTwice 89 = .ok (.iload_n 1, 1) := by decide +kernel
theorem dX12_isTwice_90 : decode cX12_isTwice 90 = .ok (.ifCond .ne 8, 3) := by decide +kernel
theorem dX12_isTwice_93 : decode cX12_isTwice 93 = .ok (.iload 4, 2) := by decide +kernel
theorem dX12_isTwice_95 : decode cX12_isTwice 95 = .ok (.ifCond .eq 7, 3) := by decide +kernel
theorem dX12_isTwice_98 : decode cX12_isTwice 98 = .ok (.iconst 1, 1) := by decide +kernel
theorem dX12_isTwice_99 : decode cX12_isTwice 99 = .ok (.goto 4, 3) := by decide +kernel
theorem dX12_isTwice_102 : decode cX12_isTwice 102 = .ok (.iconst 0, 1) := by decide +kernel
theorem dX12_isTwice_103 : decode cX12_isTwice 103 = .ok (.istore_n 1, 1) := by decide +kernel
theorem dX12_isTwice_104 : decode cX12_isTwice 104 = .ok (.iinc 3 1, 3) := by decide +kernel
theorem dX12_isTwice_107 : decode cX12_isTwice 107 = .ok (.goto (-91), 3) := by decide +kernel
theorem dX12_isTwice_110 : decode cX12_isTwice 110 = .ok (.iinc 2 1, 3) := by decide +kernel
theorem dX12_isTwice_113 : decode cX12_isTwice 113 = .ok (.goto (-109), 3) := by decide +kernel
theorem dX12_isTwice_116 : decode cX12_isTwice 116 = .ok (.iload_n 1, 1) := by decide +kernel
theorem dX12_isTwice_117 : decode cX12_isTwice 117 = .ok (.ireturn, 1) := by decide +kernel
set_option maxRecDepth 10000 in
theorem wX12_isTwice_0 {g : zG} {I : Nat → Nat → Int32} {P : Nat → Nat → Option Nat} {r : Option Value} {h' : zH} {a0 : Nat} (H : Zt none mX12_isTwice 0 0 4 [(0, .ref a0), (1, .int 0), (2, .int 0)] [] (g, I, P) r h') : Zt none mX12_isTwice 0 0 0 [(0, .ref a0)] [] (g, I, P) r h' := by
  refine z_iconst (w := 0) dX12_isTwice_0 (by decide) (z_istore_n (lv' := [(1, .int 0), (0, .ref a0)]) dX12_isTwice_1 (by decide) rfl (z_iconst (w := 0) dX12_isTwice_2 (by decide) (z_istore_n (lv' := [(2, .int 0), (1, .int 0), (0, .ref a0)]) dX12_isTwice_3 (by decide) rfl ?_)))
  exact z_less [2, 1, 0] rfl H
theorem eX12_isTwice {g : zG} {I : Nat → Nat → Int32} {P : Nat → Nat → Option Nat} {r : Option Value} {h' : zH} {a0 : Nat} (H : Zt none mX12_isTwice 0 0 0 [(0, .ref a0)] [] (g, I, P) r h') : Cl mX12_isTwice [.ref a0] (g, I, P) r h' := Cl.of (by decide) (Nat.le_of_ble_eq_true rfl) H
set_option maxRecDepth 10000 in
theorem wX12_isTwice_4 {g : zG} {I : Nat → Nat → Int32} {P : Nat → Nat → Option Nat} {r : Option Value} {h' : zH} {a0 : Nat} {x1 : Int32} {x2 : Int32} (H : zk g a0 12 ∧ ∃ b1, P a0 10 = some b1 ∧ zk g b1 13 ∧ vp_in 1 (g.2.2 b1) ∧ ((I b1 (1 : Int32).toNatClampNeg ≤ x2) → (x1 = 0 ∨ x1 = 1) ∧ r = some (.int x1) ∧ h' = (g, I, P)) ∧ ((¬ I b1 (1 : Int32).toNatClampNeg ≤ x2) → Zt none mX12_isTwice 0 0 16 [(0, .ref a0), (1, .int x1), (2, .int x2), (3, .int 0)] [] (g, I, P) r h')) : Zt none mX12_isTwice 0 0 4 [(0, .ref a0), (1, .int x1), (2, .int x2)] [] (g, I, P) r h' := by
  refine z_iload_n 2 dX12_isTwice_4 rfl (z_aload_n 0 dX12_isTwice_5 rfl rfl ?_)
  obtain ⟨oe3, b1, e3, H2⟩ := H
  refine z_getP dX12_isTwice_6 wf_X12_17 (by decide) (by decide) rfl oe3 (fun q => (by cases q.symm.trans e3)) (fun j q => ?_)
  cases q.symm.trans e3
  refine z_iconst (w := 1) dX12_isTwice_9 (by decide) (z_iald dX12_isTwice_10 H2.1 H2.2.1 ?_)
  refine z_icmp_ge (t := 116) dX12_isTwice_11 (by decide) (fun q => ?_) (fun q => ?_)
  · have H4 := H2.2.2.1 q
    refine z_iload_n 1 dX12_isTwice_116 rfl ?_
    obtain ⟨ob, rfl, rfl⟩ := H4
    exact z_zret dX12_isTwice_117 rfl ob (by decide) (by decide)
  · have H5 := H2.2.2.2 q
    refine z_iconst (w := 0) dX12_isTwice_14 (by decide) (z_istore_n (lv' := [(3, .int 0), (0, .ref a0), (1, .int x1), (2, .int x2)]) dX12_isTwice_15 (by decide) rfl ?_)
    exact z_less [1, 2, 3, 0] rfl H5
set_option maxRecDepth 10000 in
theorem wX12_isTwice_16 {g : zG} {I : Nat → Nat → Int32} {P : Nat → Nat → Option Nat} {r : Option Value} {h' : zH} {a0 : Nat} {x1 : Int32} {x2 : Int32} {x3 : Int32} (H : ((x2 ≤ x3) → Zt none mX12_isTwice 0 0 4 [(0, .ref a0), (1, .int x1), (2, .int (x2 + 1))] [] (g, I, P) r h') ∧ ((¬ x2 ≤ x3) → Zt none mX12_isTwice 0 0 27 [(0, .ref a0), (1, .int x1), (2, .int x2), (3, .int x3), (4, .int 1), (5, .int 0)] [] (g, I, P) r h')) : Zt none mX12_isTwice 0 0 16 [(0, .ref a0), (1, .int x1), (2, .int x2), (3, .int x3)] [] (g, I, P) r h' := by
  refine z_iload_n 3 dX12_isTwice_16 rfl (z_iload_n 2 dX12_isTwice_17 rfl ?_)
  refine z_icmp_ge (t := 110) dX12_isTwice_18 (by decide) (fun q => ?_) (fun q => ?_)
  · have H1 := H.1 q
    refine z_iinc (y := x2 + 1) (lv' := [(2, .int (x2 + 1)), (0, .ref a0), (1, .int x1), (3, .int x3)]) 2 dX12_isTwice_110 rfl rfl (by decide) rfl (z_goto (t := 4) dX12_isTwice_113 (by decide) ?_)
    exact z_less [1, 2, 0] rfl H1
  · have H2 := H.2 q
    refine z_iconst (w := 1) dX12_isTwice_21 (by decide) (z_istore (lv' := [(4, .int 1), (0, .ref a0), (1, .int x1), (2, .int x2), (3, .int x3)]) dX12_isTwice_22 (by decide) rfl (z_iconst (w := 0) dX12_isTwice_24 (by decide) (z_istore (lv' := [(5, .int 0), (4, .int 1), (0, .ref a0), (1, .int x1), (2, .int x2), (3, .int x3)]) dX12_isTwice_25 (by decide) rfl ?_)))
    exact z_less [2, 3, 4, 5, 1, 0] rfl H2
set_option maxRecDepth 10000 in
theorem wX12_isTwice_27 {g : zG} {I : Nat → Nat → Int32} {P : Nat → Nat → Option Nat} {r : Option Value} {h' : zH} {a0 : Nat} {x1 : Int32} {x2 : Int32} {x3 : Int32} {x4 : Int32} {x5 : Int32} (H : ((8 ≤ x5) → ((¬ x1 = 0) → Zt none mX12_isTwice 0 0 16 [(0, .ref a0), (1, .int 1), (2, .int x2), (3, .int (x3 + 1))] [] (g, I, P) r h') ∧ ((x1 = 0) → ((x4 = 0) → Zt none mX12_isTwice 0 0 16 [(0, .ref a0), (1, .int 0), (2, .int x2), (3, .int (x3 + 1))] [] (g, I, P) r h') ∧ ((¬ x4 = 0) → Zt none mX12_isTwice 0 0 16 [(0, .ref a0), (1, .int 1), (2, .int x2), (3, .int (x3 + 1))] [] (g, I, P) r h'))) ∧ ((¬ 8 ≤ x5) → ((x4 = 0) → Zt none mX12_isTwice 0 0 27 [(0, .ref a0), (1, .int x1), (2, .int x2), (3, .int x3), (4, .int 0), (5, .int (x5 + 1))] [] (g, I, P) r h') ∧ ((¬ x4 = 0) → ((x5 = 1) → Zt none mX12_isTwice 0 0 27 [(0, .ref a0), (1, .int x1), (2, .int x2), (3, .int x3), (4, .int 1), (5, .int (x5 + 1))] [] (g, I, P) r h') ∧ ((¬ x5 = 1) → zk g a0 12 ∧ ∃ b11, P a0 10 = some b11 ∧ zk g b11 13 ∧ vp_in ((2 + (8 * x2)) + x5) (g.2.2 b11) ∧ zk g a0 12 ∧ ∃ b14, P a0 10 = some b14 ∧ zk g b14 13 ∧ vp_in ((2 + (8 * x3)) + x5) (g.2.2 b14) ∧ ((¬ (I b11 ((2 + (8 * x2)) + x5).toNatClampNeg) = I b14 ((2 + (8 * x3)) + x5).toNatClampNeg) → Zt none mX12_isTwice 0 0 27 [(0, .ref a0), (1, .int x1), (2, .int x2), (3, .int x3), (4, .int 0), (5, .int (x5 + 1))] [] (g, I, P) r h') ∧ ((I b11 ((2 + (8 * x2)) + x5).toNatClampNeg = I b14 ((2 + (8 * x3)) + x5).toNatClampNeg) → Zt none mX12_isTwice 0 0 27 [(0, .ref a0), (1, .int x1), (2, .int x2), (3, .int x3), (4, .int 1), (5, .int (x5 + 1))] [] (g, I, P) r h'))))) : Zt none mX12_isTwice 0 0 27 [(0, .ref a0), (1, .int x1), (2, .int x2), (3, .int x3), (4, .int x4), (5, .int x5)] [] (g, I, P) r h' := by
  refine z_iload 5 dX12_isTwice_27 rfl (z_bipush (w := 8) dX12_isTwice_29 (by decide) ?_)
  refine z_icmp_ge (t := 89) dX12_isTwice_31 (by decide) (fun q => ?_) (fun q => ?_)
  · have H1 := H.1 q
    refine z_iload_n 1 dX12_isTwice_89 rfl ?_
    refine z_if_ne (t := 98) dX12_isTwice_90 (by decide) (fun q => ?_) (fun q => ?_)
    · have H2 := H1.1 q
      refine z_iconst (w := 1) dX12_isTwice_98 (by decide) (z_goto (t := 103) dX12_isTwice_99 (by decide) (z_istore_n (lv' := [(1, .int 1), (0, .ref a0), (2, .int x2), (3, .int x3), (4, .int x4), (5, .int x5)]) dX12_isTwice_103 (by decide) rfl (z_iinc (y := x3 + 1) (lv' := [(3, .int (x3 + 1)), (1, .int 1), (0, .ref a0), (2, .int x2), (4, .int x4), (5, .int x5)]) 3 dX12_isTwice_104 rfl rfl (by decide) rfl (z_goto (t := 16) dX12_isTwice_107 (by decide) ?_))))
      exact z_less [2, 1, 3, 0] rfl H2
    · have H3 := H1.2 q
      refine z_iload 4 dX12_isTwice_93 rfl ?_
      refine z_if_eq (t := 102) dX12_isTwice_95 (by decide) (fun q => ?_) (fun q => ?_)
      · have H4 := H3.1 q
        refine z_iconst (w := 0) dX12_isTwice_102 (by decide) (z_istore_n (lv' := [(1, .int 0), (0, .ref a0), (2, .int x2), (3, .int x3), (4, .int x4), (5, .int x5)]) dX12_isTwice_103 (by decide) rfl (z_iinc (y := x3 + 1) (lv' := [(3, .int (x3 + 1)), (1, .int 0), (0, .ref a0), (2, .int x2), (4, .int x4), (5, .int x5)]) 3 dX12_isTwice_104 rfl rfl (by decide) rfl (z_goto (t := 16) dX12_isTwice_107 (by decide) ?_)))
        exact z_less [2, 1, 3, 0] rfl H4
      · have H5 := H3.2 q
        refine z_iconst (w := 1) dX12_isTwice_98 (by decide) (z_goto (t := 103) dX12_isTwice_99 (by decide) (z_istore_n (lv' := [(1, .int 1), (0, .ref a0), (2, .int x2), (3, .int x3), (4, .int x4), (5, .int x5)]) dX12_isTwice_103 (by decide) rfl (z_iinc (y := x3 + 1) (lv' := [(3, .int (x3 + 1)), (1, .int 1), (0, .ref a0), (2, .int x2), (4, .int x4), (5, .int x5)]) 3 dX12_isTwice_104 rfl rfl (by decide) rfl (z_goto (t := 16) dX12_isTwice_107 (by decide) ?_))))
        exact z_less [2, 1, 3, 0] rfl H5
  · have H6 := H.2 q
    refine z_iload 4 dX12_isTwice_34 rfl ?_
    refine z_if_eq (t := 80) dX12_isTwice_36 (by decide) (fun q => ?_) (fun q => ?_)
    · have H7 := H6.1 q
      refine z_iconst (w := 0) dX12_isTwice_80 (by decide) (z_istore (lv' := [(4, .int 0), (0, .ref a0), (1, .int x1), (2, .int x2), (3, .int x3), (5, .int x5)]) dX12_isTwice_81 (by decide) rfl (z_iinc (y := x5 + 1) (lv' := [(5, .int (x5 + 1)), (4, .int 0), (0, .ref a0), (1, .int x1), (2, .int x2), (3, .int x3)]) 5 dX12_isTwice_83 rfl rfl (by decide) rfl (z_goto (t := 27) dX12_isTwice_86 (by decide) ?_)))
      exact z_less [2, 3, 4, 5, 1, 0] rfl H7
    · have H8 := H6.2 q
      refine z_iload 5 dX12_isTwice_39 rfl (z_iconst (w := 1) dX12_isTwice_41 (by decide) ?_)
      refine z_icmp_eq (t := 76) dX12_isTwice_42 (by decide) (fun q => ?_) (fun q => ?_)
      · have H9 := H8.1 q
        refine z_iconst (w := 1) dX12_isTwice_76 (by decide) (z_goto (t := 81) dX12_isTwice_77 (by decide) (z_istore (lv' := [(4, .int 1), (0, .ref a0), (1, .int x1), (2, .int x2), (3, .int x3), (5, .int x5)]) dX12_isTwice_81 (by decide) rfl (z_iinc (y := x5 + 1) (lv' := [(5, .int (x5 + 1)), (4, .int 1), (0, .ref a0), (1, .int x1), (2, .int x2), (3, .int x3)]) 5 dX12_isTwice_83 rfl rfl (by decide) rfl (z_goto (t := 27) dX12_isTwice_86 (by decide) ?_))))
        exact z_less [2, 3, 4, 5, 1, 0] rfl H9
      · have H10 := H8.2 q
        refine z_aload_n 0 dX12_isTwice_45 rfl rfl ?_
        obtain ⟨oe13, b11, e13, H12⟩ := H10
        refine z_getP dX12_isTwice_46 wf_X12_17 (by decide) (by decide) rfl oe13 (fun q => (by cases q.symm.trans e13)) (fun j q => ?_)
        cases q.symm.trans e13
        refine z_iconst (w := 2) dX12_isTwice_49 (by decide) (z_bipush (w := 8) dX12_isTwice_50 (by decide) (z_iload_n 2 dX12_isTwice_52 rfl (z_imul dX12_isTwice_53 (z_iadd dX12_isTwice_54 (z_iload 5 dX12_isTwice_55 rfl (z_iadd dX12_isTwice_57 (z_iald dX12_isTwice_58 H12.1 H12.2.1 (z_aload_n 0 dX12_isTwice_59 rfl rfl ?_))))))))
        obtain ⟨oe16, b14, e16, H15⟩ := H12.2.2
        refine z_getP dX12_isTwice_60 wf_X12_17 (by decide) (by decide) rfl oe16 (fun q => (by cases q.symm.trans e16)) (fun j q => ?_)
        cases q.symm.trans e16
        refine z_iconst (w := 2) dX12_isTwice_63 (by decide) (z_bipush (w := 8) dX12_isTwice_64 (by decide) (z_iload_n 3 dX12_isTwice_66 rfl (z_imul dX12_isTwice_67 (z_iadd dX12_isTwice_68 (z_iload 5 dX12_isTwice_69 rfl (z_iadd dX12_isTwice_71 (z_iald dX12_isTwice_72 H15.1 H15.2.1 ?_)))))))
        refine z_icmp_ne (t := 80) dX12_isTwice_73 (by decide) (fun q => ?_) (fun q => ?_)
        · have H17 := H15.2.2.1 q
          refine z_iconst (w := 0) dX12_isTwice_80 (by decide) (z_istore (lv' := [(4, .int 0), (0, .ref a0), (1, .int x1), (2, .int x2), (3, .int x3), (5, .int x5)]) dX12_isTwice_81 (by decide) rfl (z_iinc (y := x5 + 1) (lv' := [(5, .int (x5 + 1)), (4, .int 0), (0, .ref a0), (1, .int x1), (2, .int x2), (3, .int x3)]) 5 dX12_isTwice_83 rfl rfl (by decide) rfl (z_goto (t := 27) dX12_isTwice_86 (by decide) ?_)))
          exact z_less [2, 3, 4, 5, 1, 0] rfl H17
        · have H18 := H15.2.2.2 q
          refine z_iconst (w := 1) dX12_isTwice_76 (by decide) (z_goto (t := 81) dX12_isTwice_77 (by decide) (z_istore (lv' := [(4, .int 1), (0, .ref a0), (1, .int x1), (2, .int x2), (3, .int x3), (5, .int x5)]) dX12_isTwice_81 (by decide) rfl (z_iinc (y := x5 + 1) (lv' := [(5, .int (x5 + 1)), (4, .int 1), (0, .ref a0), (1, .int x1), (2, .int x2), (3, .int x3)]) 5 dX12_isTwice_83 rfl rfl (by decide) rfl (z_goto (t := 27) dX12_isTwice_86 (by decide) ?_))))
          exact z_less [2, 3, 4, 5, 1, 0] rfl H18
theorem dX12_placeOf_0 : decode cX12_placeOf 0 = .ok (.iload_n 0, 1) := by decide +kernel
theorem dX12_placeOf_1 : decode cX12_placeOf 1 = .ok (.ifCond .ne 14, 3) := by decide +kernel
theorem dX12_placeOf_4 : decode cX12_placeOf 4 = .ok (.sipush 610, 3) := by decide +kernel
theorem dX12_placeOf_7 : decode cX12_placeOf 7 = .ok (.bipush 99, 2) := by decide +kernel
theorem dX12_placeOf_9 : decode cX12_placeOf 9 = .ok (.iload_n 1, 1) := by decide +kernel
theorem dX12_placeOf_10 : decode cX12_placeOf 10 = .ok (.imul, 1) := by decide +kernel
theorem dX12_placeOf_11 : decode cX12_placeOf 11 = .ok (.iadd, 1) := by decide +kernel
theorem dX12_placeOf_12 : decode cX12_placeOf 12 = .ok (.goto 43, 3) := by decide +kernel
theorem dX12_placeOf_15 : decode cX12_placeOf 15 = .ok (.iload_n 0, 1) := by decide +kernel
theorem dX12_placeOf_16 : decode cX12_placeOf 16 = .ok (.iconst 1, 1) := by decide +kernel
theorem dX12_placeOf_17 : decode cX12_placeOf 17 = .ok (.if_icmp .ne 14, 3) := by decide +kernel
theorem dX12_placeOf_20 : decode cX12_placeOf 20 = .ok (.sipush 808, 3) := by decide +kernel
theorem dX12_placeOf_23 : decode cX12_placeOf 23 = .ok (.bipush 121, 2) := by decide +kernel
theorem dX12_placeOf_25 : decode cX12_placeOf 25 = .ok (.iload_n 1, 1) := by decide +kernel
theorem dX12_placeOf_26 : decode cX12_placeOf 26 = .ok (.imul, 1) := by decide +kernel
theorem dX12_placeOf_27 : decode cX12_placeOf 27 = .ok (.iadd, 1) := by decide +kernel
theorem dX12_placeOf_28 : decode cX12_placeOf 28 = .ok (.goto 27, 3) := by decide +kernel
theorem dX12_placeOf_31 : decode cX12_placeOf 31 = .ok (.iload_n 0, 1) := by decide +kernel
theorem dX12_placeOf_32 : decode cX12_placeOf 32 = .ok (.iconst 2, 1) := by decide +kernel
theorem dX12_placeOf_33 : decode cX12_placeOf 33 = .ok (.if_icmp .ne 14, 3) := by decide +kernel
theorem dX12_placeOf_36 : decode cX12_placeOf 36 = .ok (.sipush 1050, 3) := by decide +kernel
theorem dX12_placeOf_39 : decode cX12_placeOf 39 = .ok (.bipush 79, 2) := by decide +kernel
theorem dX12_placeOf_41 : decode cX12_placeOf 41 = .ok (.iload_n 1, 1) := by decide +kernel
theorem dX12_placeOf_42 : decode cX12_placeOf 42 = .ok (.imul, 1) := by decide +kernel
theorem dX12_placeOf_43 : decode cX12_placeOf 43 = .ok (.iadd, 1) := by decide +kernel
theorem dX12_placeOf_44 : decode cX12_placeOf 44 = .ok (.goto 11, 3) := by decide +kernel
theorem dX12_placeOf_47 : decode cX12_placeOf 47 = .ok (.sipush 1208, 3) := by decide +kernel
theorem dX12_placeOf_50 : decode cX12_placeOf 50 = .ok (.bipush 17, 2) := by decide +kernel
theorem dX12_placeOf_52 : decode cX12_placeOf 52 = .ok (.iload_n 1, 1) := by decide +kernel
theorem dX12_placeOf_53 : decode cX12_placeOf 53 = .ok (.imul, 1) := by decide +kernel
theorem dX12_placeOf_54 : decode cX12_placeOf 54 = .ok (.iadd, 1) := by decide +kernel
theorem dX12_placeOf_55 : decode cX12_placeOf 55 = .ok (.ireturn, 1) := by decide +kernel
set_option maxRecDepth 10000 in
theorem wX12_placeOf_0 {g : zG} {I : Nat → Nat → Int32} {P : Nat → Nat → Option Nat} {r : Option Value} {h' : zH} {x0 : Int32} {x1 : Int32} (H : ((¬ x0 = 0) → ((¬ x0 = 1) → ((¬ x0 = 2) → r = some (.int (1208 + (17 * x1))) ∧ h' = (g, I, P)) ∧ ((x0 = 2) → r = some (.int (1050 + (79 * x1))) ∧ h' = (g, I, P))) ∧ ((x0 = 1) → r = some (.int (808 + (121 * x1))) ∧ h' = (g, I, P))) ∧ ((x0 = 0) → r = some (.int (610 + (99 * x1))) ∧ h' = (g, I, P))) : Zt none mX12_placeOf 0 0 0 [(0, .int x0), (1, .int x1)] [] (g, I, P) r h' := by
  refine z_iload_n 0 dX12_placeOf_0 rfl ?_
  refine z_if_ne (t := 15) dX12_placeOf_1 (by decide) (fun q => ?_) (fun q => ?_)
  · have H1 := H.1 q
    refine z_iload_n 0 dX12_placeOf_15 rfl (z_iconst (w := 1) dX12_placeOf_16 (by decide) ?_)
    refine z_icmp_ne (t := 31) dX12_placeOf_17 (by decide) (fun q => ?_) (fun q => ?_)
    · have H2 := H1.1 q
      refine z_iload_n 0 dX12_placeOf_31 rfl (z_iconst (w := 2) dX12_placeOf_32 (by decide) ?_)
      refine z_icmp_ne (t := 47) dX12_placeOf_33 (by decide) (fun q => ?_) (fun q => ?_)
      · have H3 := H2.1 q
        refine z_sipush (w := 1208) dX12_placeOf_47 (by decide) (z_bipush (w := 17) dX12_placeOf_50 (by decide) (z_iload_n 1 dX12_placeOf_52 rfl (z_imul dX12_placeOf_53 (z_iadd dX12_placeOf_54 ?_))))
        obtain ⟨rfl, rfl⟩ := H3
        exact z_iret dX12_placeOf_55 rfl (by decide) (by decide)
      · have H4 := H2.2 q
        refine z_sipush (w := 1050) dX12_placeOf_36 (by decide) (z_bipush (w := 79) dX12_placeOf_39 (by decide) (z_iload_n 1 dX12_placeOf_41 rfl (z_imul dX12_placeOf_42 (z_iadd dX12_placeOf_43 (z_goto (t := 55) dX12_placeOf_44 (by decide) ?_)))))
        obtain ⟨rfl, rfl⟩ := H4
        exact z_iret dX12_placeOf_55 rfl (by decide) (by decide)
    · have H5 := H1.2 q
      refine z_sipush (w := 808) dX12_placeOf_20 (by decide) (z_bipush (w := 121) dX12_placeOf_23 (by decide) (z_iload_n 1 dX12_placeOf_25 rfl (z_imul dX12_placeOf_26 (z_iadd dX12_placeOf_27 (z_goto (t := 55) dX12_placeOf_28 (by decide) ?_)))))
      obtain ⟨rfl, rfl⟩ := H5
      exact z_iret dX12_placeOf_55 rfl (by decide) (by decide)
  · have H6 := H.2 q
    refine z_sipush (w := 610) dX12_placeOf_4 (by decide) (z_bipush (w := 99) dX12_placeOf_7 (by decide) (z_iload_n 1 dX12_placeOf_9 rfl (z_imul dX12_placeOf_10 (z_iadd dX12_placeOf_11 (z_goto (t := 55) dX12_placeOf_12 (by decide) ?_)))))
    obtain ⟨rfl, rfl⟩ := H6
    exact z_iret dX12_placeOf_55 rfl (by decide) (by decide)
theorem eX12_placeOf {g : zG} {I : Nat → Nat → Int32} {P : Nat → Nat → Option Nat} {r : Option Value} {h' : zH} {x0 : Int32} {x1 : Int32} (H : Zt none mX12_placeOf 0 0 0 [(0, .int x0), (1, .int x1)] [] (g, I, P) r h') : Cl mX12_placeOf [.int x0, .int x1] (g, I, P) r h' := Cl.of (by decide) (Nat.le_of_ble_eq_true rfl) H
theorem dX12_sizeOf_0 : decode cX12_sizeOf 0 = .ok (.iload_n 0, 1) := by decide +kernel
theorem dX12_sizeOf_1 : decode cX12_sizeOf 1 = .ok (.ifCond .ne 8, 3) := by decide +kernel
theorem dX12_sizeOf_4 : decode cX12_sizeOf 4 = .ok (.bipush 99, 2) := by decide +kernel
theorem dX12_sizeOf_6 : decode cX12_sizeOf 6 = .ok (.goto 25, 3) := by decide +kernel
theorem dX12_sizeOf_9 : decode cX12_sizeOf 9 = .ok (.iload_n 0, 1) := by decide +kernel
theorem dX12_sizeOf_10 : decode cX12_sizeOf 10 = .ok (.iconst 1, 1) := by decide +kernel
theorem dX12_sizeOf_11 : decode cX12_sizeOf 11 = .ok (.if_icmp .ne 8, 3) := by decide +kernel
theorem dX12_sizeOf_14 : decode cX12_sizeOf 14 = .ok (.bipush 121, 2) := by decide +kernel
theorem dX12_sizeOf_16 : decode cX12_sizeOf 16 = .ok (.goto 15, 3) := by decide +kernel
theorem dX12_sizeOf_19 : decode cX12_sizeOf 19 = .ok (.iload_n 0, 1) := by decide +kernel
theorem dX12_sizeOf_20 : decode cX12_sizeOf 20 = .ok (.iconst 2, 1) := by decide +kernel
theorem dX12_sizeOf_21 : decode cX12_sizeOf 21 = .ok (.if_icmp .ne 8, 3) := by decide +kernel
theorem dX12_sizeOf_24 : decode cX12_sizeOf 24 = .ok (.bipush 79, 2) := by decide +kernel
theorem dX12_sizeOf_26 : decode cX12_sizeOf 26 = .ok (.goto 5, 3) := by decide +kernel
theorem dX12_sizeOf_29 : decode cX12_sizeOf 29 = .ok (.bipush 17, 2) := by decide +kernel
theorem dX12_sizeOf_31 : decode cX12_sizeOf 31 = .ok (.ireturn, 1) := by decide +kernel
set_option maxRecDepth 10000 in
theorem wX12_sizeOf_0 {g : zG} {I : Nat → Nat → Int32} {P : Nat → Nat → Option Nat} {r : Option Value} {h' : zH} {x0 : Int32} (H : ((¬ x0 = 0) → ((¬ x0 = 1) → ((¬ x0 = 2) → r = some (.int 17) ∧ h' = (g, I, P)) ∧ ((x0 = 2) → r = some (.int 79) ∧ h' = (g, I, P))) ∧ ((x0 = 1) → r = some (.int 121) ∧ h' = (g, I, P))) ∧ ((x0 = 0) → r = some (.int 99) ∧ h' = (g, I, P))) : Zt none mX12_sizeOf 0 0 0 [(0, .int x0)] [] (g, I, P) r h' := by
  refine z_iload_n 0 dX12_sizeOf_0 rfl ?_
  refine z_if_ne (t := 9) dX12_sizeOf_1 (by decide) (fun q => ?_) (fun q => ?_)
  · have H1 := H.1 q
    refine z_iload_n 0 dX12_sizeOf_9 rfl (z_iconst (w := 1) dX12_sizeOf_10 (by decide) ?_)
    refine z_icmp_ne (t := 19) dX12_sizeOf_11 (by decide) (fun q => ?_) (fun q => ?_)
    · have H2 := H1.1 q
      refine z_iload_n 0 dX12_sizeOf_19 rfl (z_iconst (w := 2) dX12_sizeOf_20 (by decide) ?_)
      refine z_icmp_ne (t := 29) dX12_sizeOf_21 (by decide) (fun q => ?_) (fun q => ?_)
      · have H3 := H2.1 q
        refine z_bipush (w := 17) dX12_sizeOf_29 (by decide) ?_
        obtain ⟨rfl, rfl⟩ := H3
        exact z_iret dX12_sizeOf_31 rfl (by decide) (by decide)
      · have H4 := H2.2 q
        refine z_bipush (w := 79) dX12_sizeOf_24 (by decide) (z_goto (t := 31) dX12_sizeOf_26 (by decide) ?_)
        obtain ⟨rfl, rfl⟩ := H4
        exact z_iret dX12_sizeOf_31 rfl (by decide) (by decide)
    · have H5 := H1.2 q
      refine z_bipush (w := 121) dX12_sizeOf_14 (by decide) (z_goto (t := 31) dX12_sizeOf_16 (by decide) ?_)
      obtain ⟨rfl, rfl⟩ := H5
      exact z_iret dX12_sizeOf_31 rfl (by decide) (by decide)
  · have H6 := H.2 q
    refine z_bipush (w := 99) dX12_sizeOf_4 (by decide) (z_goto (t := 31) dX12_sizeOf_6 (by decide) ?_)
    obtain ⟨rfl, rfl⟩ := H6
    exact z_iret dX12_sizeOf_31 rfl (by decide) (by decide)
theorem eX12_sizeOf {g : zG} {I : Nat → Nat → Int32} {P : Nat → Nat → Option Nat} {r : Option Value} {h' : zH} {x0 : Int32} (H : Zt none mX12_sizeOf 0 0 0 [(0, .int x0)] [] (g, I, P) r h') : Cl mX12_sizeOf [.int x0] (g, I, P) r h' := Cl.of (by decide) (Nat.le_of_ble_eq_true rfl) H
theorem dX12_isOf_0 : decode cX12_isOf 0 = .ok (.iload_n 2, 1) := by decide +kernel
theorem dX12_isOf_1 : decode cX12_isOf 1 = .ok (.iconst 0, 1) := by decide +kernel
theorem dX12_isOf_2 : decode cX12_isOf 2 = .ok (.aload_n 0, 1) := by decide +kernel
theorem dX12_isOf_3 : decode cX12_isOf 3 = .ok (.getfield 7, 3) := by decide +kernel
theorem dX12_isOf_6 : decode cX12_isOf 6 = .ok (.iload_n 1, 1) := by decide +kernel
theorem dX12_isOf_7 : decode cX12_isOf 7 = .ok (.iaload, 1) := by decide +kernel
theorem dX12_isOf_8 : decode cX12_isOf 8 = .ok (.iconst 1, 1) := by decide +kernel
theorem dX12_isOf_9 : decode cX12_isOf 9 = .ok (.isub, 1) := by decide +kernel
theorem dX12_isOf_10 : decode cX12_isOf 10 = .ok (.invokestatic 120, 3) := by decide +kernel
theorem dX12_isOf_13 : decode cX12_isOf 13 = .ok (.ireturn, 1) := by decide +kernel
set_option maxRecDepth 10000 in
theorem wX12_isOf_0 {g : zG} {I : Nat → Nat → Int32} {P : Nat → Nat → Option Nat} {r : Option Value} {h' : zH} {a0 : Nat} {x1 : Int32} {x2 : Int32} (H : zk g a0 12 ∧ ∃ b1, P a0 0 = some b1 ∧ zk g b1 13 ∧ vp_in x1 (g.2.2 b1) ∧ ∃ (w4 : Int32), Cl mX12_isIn [.int x2, .int 0, .int ((I b1 x1.toNatClampNeg) - 1)] (g, I, P) (some (.int w4)) (g, I, P) ∧ (w4 = 0 ∨ w4 = 1) ∧ r = some (.int w4) ∧ h' = (g, I, P)) : Zt none mX12_isOf 0 0 0 [(0, .ref a0), (1, .int x1), (2, .int x2)] [] (g, I, P) r h' := by
  refine z_iload_n 2 dX12_isOf_0 rfl (z_iconst (w := 0) dX12_isOf_1 (by decide) (z_aload_n 0 dX12_isOf_2 rfl rfl ?_))
  obtain ⟨oe3, b1, e3, H2⟩ := H
  refine z_getP dX12_isOf_3 wf_X12_7 (by decide) (by decide) rfl oe3 (fun q => (by cases q.symm.trans e3)) (fun j q => ?_)
  cases q.symm.trans e3
  refine z_iload_n 1 dX12_isOf_6 rfl (z_iald dX12_isOf_7 H2.1 H2.2.1 (z_iconst (w := 1) dX12_isOf_8 (by decide) (z_isub dX12_isOf_9 ?_)))
  obtain ⟨w4, c5, H6⟩ := H2.2.2
  refine z_stat (As := [.int x2, .int 0, .int ((I b1 x1.toNatClampNeg) - 1)]) (st := []) (r1 := (some (.int w4))) (h1 := (g, I, P)) dX12_isOf_10 kX12_isIn wm_X12_120 ⟨by decide, by decide⟩ rfl rfl (Nat.le_of_ble_eq_true rfl) (by decide) (by decide) c5 ?_
  obtain ⟨ob, rfl, rfl⟩ := H6
  exact z_zret dX12_isOf_13 rfl ob (by decide) (by decide)
theorem eX12_isOf {g : zG} {I : Nat → Nat → Int32} {P : Nat → Nat → Option Nat} {r : Option Value} {h' : zH} {a0 : Nat} {x1 : Int32} {x2 : Int32} (H : Zt none mX12_isOf 0 0 0 [(0, .ref a0), (1, .int x1), (2, .int x2)] [] (g, I, P) r h') : Cl mX12_isOf [.ref a0, .int x1, .int x2] (g, I, P) r h' := Cl.of (by decide) (Nat.le_of_ble_eq_true rfl) H
theorem dX12_text_0 : decode cX12_text 0 = .ok (.aload_n 0, 1) := by decide +kernel
theorem dX12_text_1 : decode cX12_text 1 = .ok (.aload_n 0, 1) := by decide +kernel
theorem dX12_text_2 : decode cX12_text 2 = .ok (.getfield 7, 3) := by decide +kernel
theorem dX12_text_5 : decode cX12_text 5 = .ok (.iconst 4, 1) := by decide +kernel
theorem dX12_text_6 : decode cX12_text 6 = .ok (.iaload, 1) := by decide +kernel
theorem dX12_text_7 : decode cX12_text 7 = .ok (.putfield 65, 3) := by decide +kernel
theorem dX12_text_10 : decode cX12_text 10 = .ok (.aload_n 0, 1) := by decide +kernel
theorem dX12_text_11 : decode cX12_text 11 = .ok (.getfield 7, 3) := by decide +kernel
theorem dX12_text_14 : decode cX12_text 14 = .ok (.iconst 4, 1) := by decide +kernel
theorem dX12_text_15 : decode cX12_text 15 = .ok (.iconst 0, 1) := by decide +kernel
theorem dX12_text_16 : decode cX12_text 16 = .ok (.iastore, 1) := by decide +kernel
theorem dX12_text_17 : decode cX12_text 17 = .ok (.aload_n 0, 1) := by decide +kernel
theorem dX12_text_18 : decode cX12_text 18 = .ok (.getfield 7, 3) := by decide +kernel
theorem dX12_text_21 : decode cX12_text 21 = .ok (.iconst 5, 1) := by decide +kernel
theorem dX12_text_22 : decode cX12_text 22 = .ok (.iconst 0, 1) := by decide +kernel
theorem dX12_text_23 : decode cX12_text 23 = .ok (.iastore, 1) := by decide +kernel
theorem dX12_text_24 : decode cX12_text 24 = .ok (.aload_n 0, 1) := by decide +kernel
theorem dX12_text_25 : decode cX12_text 25 = .ok (.getfield 7, 3) := by decide +kernel
theorem dX12_text_28 : decode cX12_text 28 = .ok (.bipush 6, 2) := by decide +kernel
theorem dX12_text_30 : decode cX12_text 30 = .ok (.iconst (-1), 1) := by decide +kernel
theorem dX12_text_31 : decode cX12_text 31 = .ok (.iastore, 1) := by decide +kernel
theorem dX12_text_32 : decode cX12_text 32 = .ok (.iload_n 1, 1) := by decide +kernel
theorem dX12_text_33 : decode cX12_text 33 = .ok (.iconst 0, 1) := by decide +kernel
theorem dX12_text_34 : decode cX12_text 34 = .ok (.iconst 3, 1) := by decide +kernel
theorem dX12_text_35 : decode cX12_text 35 = .ok (.invokestatic 120, 3) := by decide +kernel
theorem dX12_text_38 : decode cX12_text 38 = .ok (.ifCond .eq 30, 3) := by decide +kernel
theorem dX12_text_41 : decode cX12_text 41 = .ok (.iload_n 2, 1) := by decide +kernel
theorem dX12_text_42 : decode cX12_text 42 = .ok (.iconst (-1), 1) := by decide +kernel
theorem dX12_text_43 : decode cX12_text 43 = .ok (.if_icmp .ne 16, 3) := by decide +kernel
theorem dX12_text_46 : decode cX12_text 46 = .ok (.aload_n 0, 1) := by decide +kernel
theorem dX12_text_47 : decode cX12_text 47 = .ok (.getfield 7, 3) := by decide +kernel
theorem dX12_text_50 : decode cX12_text 50 = .ok (.iload_n 1, 1) := by decide +kernel
theorem dX12_text_51 : decode cX12_text 51 = .ok (.iaload, 1) := by decide +kernel
theorem dX12_text_52 : decode cX12_text 52 = .ok (.iconst 2, 1) := by decide +kernel
theorem dX12_text_53 : decode cX12_text 53 = .ok (.if_icmp .lt 18, 3) := by decide +kernel
theorem dX12_text_56 : decode cX12_text 56 = .ok (.goto 12, 3) := by decide +kernel
theorem dX12_text_59 : decode cX12_text 59 = .ok (.aload_n 0, 1) := by decide +kernel
theorem dX12_text_60 : decode cX12_text 60 = .ok (.iload_n 1, 1) := by decide +kernel
theorem dX12_text_61 : decode cX12_text 61 = .ok (.iload_n 2, 1) := by decide +kernel
theorem dX12_text_62 : decode cX12_text 62 = .ok (.invokevirtual 158, 3) := by decide +kernel
theorem dX12_text_65 : decode cX12_text 65 = .ok (.ifCond .ne 6, 3) := by decide +kernel
theorem dX12_text_68 : decode cX12_text 68 = .ok (.bipush (-2), 2) := by decide +kernel
theorem dX12_text_70 : decode cX12_text 70 = .ok (.ireturn, 1) := by decide +kernel
theorem dX12_text_71 : decode cX12_text 71 = .ok (.aload_n 0, 1) := by decide +kernel
theorem dX12_text_72 : decode cX12_text 72 = .ok (.iconst 0, 1) := by decide +kernel
theorem dX12_text_73 : decode cX12_text 73 = .ok (.putfield 79, 3) := by decide +kernel
theorem dX12_text_76 : decode cX12_text 76 = .ok (.aload_n 0, 1) := by decide +kernel
theorem dX12_text_77 : decode cX12_text 77 = .ok (.iconst 0, 1) := by decide +kernel
theorem dX12_text_78 : decode cX12_text 78 = .ok (.putfield 113, 3) := by decide +kernel
theorem dX12_text_81 : decode cX12_text 81 = .ok (.aload_n 0, 1) := by decide +kernel
theorem dX12_text_82 : decode cX12_text 82 = .ok (.iconst (-1), 1) := by decide +kernel
theorem dX12_text_83 : decode cX12_text 83 = .ok (.putfield 138, 3) := by decide +kernel
theorem dX12_text_86 : decode cX12_text 86 = .ok (.iconst 0, 1) := by decide +kernel
theorem dX12_text_87 : decode cX12_text 87 = .ok (.istore_n 3, 1) := by decide +kernel
theorem dX12_text_88 : decode cX12_text 88 = .ok (.iload_n 3, 1) := by decide +kernel
theorem dX12_text_89 : decode cX12_text 89 = .ok (.bipush 121, 2) := by decide +kernel
theorem dX12_text_91 : decode cX12_text 91 = .ok (.if_icmp .ge 16, 3) := by decide +kernel
theorem dX12_text_94 : decode cX12_text 94 = .ok (.aload_n 0, 1) := by decide +kernel
theorem dX12_text_95 : decode cX12_text 95 = .ok (.getfield 17, 3) := by decide +kernel
theorem dX12_text_98 : decode cX12_text 98 = .ok (.iload_n 3, 1) := by decide +kernel
theorem dX12_text_99 : decode cX12_text 99 = .ok (.iconst 0, 1) := by decide +kernel
theorem dX12_text_100 : decode cX12_text 100 = .ok (.iastore, 1) := by decide +kernel
theorem dX12_text_101 : decode cX12_text 101 = .ok (.iinc 3 1, 3) := by decide +kernel
theorem dX12_text_104 : decode cX12_text 104 = .ok (.goto (-16), 3) := by decide +kernel
theorem dX12_text_107 : decode cX12_text 107 = .ok (.iload_n 1, 1) := by decide +kernel
theorem dX12_text_108 : decode cX12_text 108 = .ok (.ifCond .ne 10, 3) := by decide +kernel
theorem dX12_text_111 : decode cX12_text 111 = .ok (.aload_n 0, 1) := by decide +kernel
theorem dX12_text_112 : decode cX12_text 112 = .ok (.getfield 17, 3) := by decide +kernel
theorem dX12_text_115 : decode cX12_text 115 = .ok (.iconst 0, 1) := by decide +kernel
theorem dX12_text_116 : decode cX12_text 116 = .ok (.iconst 2, 1) := by decide +kernel
theorem dX12_text_117 : decode cX12_text 117 = .ok (.iastore, 1) := by decide +kernel
theorem dX12_text_118 : decode cX12_text 118 = .ok (.aload_n 0, 1) := by decide +kernel
theorem dX12_text_119 : decode cX12_text 119 = .ok (.invokevirtual 128, 3) := by decide +kernel
theorem dX12_text_122 : decode cX12_text 122 = .ok (.aload_n 0, 1) := by decide +kernel
theorem dX12_text_123 : decode cX12_text 123 = .ok (.getfield 113, 3) := by decide +kernel
theorem dX12_text_126 : decode cX12_text 126 = .ok (.ifCond .ne 66, 3) := by decide +kernel
theorem dX12_text_129 : decode cX12_text 129 = .ok (.aload_n 0, 1) := by decide +kernel
theorem dX12_text_130 : decode cX12_text 130 = .ok (.getfield 89, 3) := by decide +kernel
theorem dX12_text_133 : decode cX12_text 133 = .ok (.ifCond .eq 59, 3) := by decide +kernel
theorem dX12_text_136 : decode cX12_text 136 = .ok (.iload_n 1, 1) := by decide +kernel
theorem dX12_text_137 : decode cX12_text 137 = .ok (.tableswitch 48 0 2 #[27, 34, 41], 27) := by decide +kernel
theorem dX12_text_164 : decode cX12_text 164 = .ok (.aload_n 0, 1) := by decide +kernel
theorem dX12_text_165 : decode cX12_text 165 = .ok (.invokevirtual 162, 3) := by decide +kernel
theorem dX12_text_168 : decode cX12_text 168 = .ok (.goto (-46), 3) := by decide +kernel
theorem dX12_text_171 : decode cX12_text 171 = .ok (.aload_n 0, 1) := by decide +kernel
theorem dX12_text_172 : decode cX12_text 172 = .ok (.invokevirtual 165, 3) := by decide +kernel
theorem dX12_text_175 : decode cX12_text 175 = .ok (.goto (-53), 3) := by decide +kernel
theorem dX12_text_178 : decode cX12_text 178 = .ok (.aload_n 0, 1) := by decide +kernel
theorem dX12_text_179 : decode cX12_text 179 = .ok (.invokevirtual 168, 3) := by decide +kernel
theorem dX12_text_182 : decode cX12_text 182 = .ok (.goto (-60), 3) := by decide +kernel
theorem dX12_text_185 : decode cX12_text 185 = .ok (.aload_n 0, 1) := by decide +kernel
theorem dX12_text_186 : decode cX12_text 186 = .ok (.invokevirtual 171, 3) := by decide +kernel
theorem dX12_text_189 : decode cX12_text 189 = .ok (.goto (-67), 3) := by decide +kernel
theorem dX12_text_192 : decode cX12_text 192 = .ok (.aload_n 0, 1) := by decide +kernel
theorem dX12_text_193 : decode cX12_text 193 = .ok (.getfield 7, 3) := by decide +kernel
theorem dX12_text_196 : decode cX12_text 196 = .ok (.iconst 5, 1) := by decide +kernel
theorem dX12_text_197 : decode cX12_text 197 = .ok (.iaload, 1) := by decide +kernel
theorem dX12_text_198 : decode cX12_text 198 = .ok (.ifCond .ne 29, 3) := by decide +kernel
theorem dX12_text_201 : decode cX12_text 201 = .ok (.iload_n 1, 1) := by decide +kernel
theorem dX12_text_202 : decode cX12_text 202 = .ok (.ifCond .ne 25, 3) := by decide +kernel
theorem dX12_text_205 : decode cX12_text 205 = .ok (.aload_n 0, 1) := by decide +kernel
theorem dX12_text_206 : decode cX12_text 206 = .ok (.getfield 138, 3) := by decide +kernel
theorem dX12_text_209 : decode cX12_text 209 = .ok (.aload_n 0, 1) := by decide +kernel
theorem dX12_text_210 : decode cX12_text 210 = .ok (.getfield 17, 3) := by decide +kernel
theorem dX12_text_213 : decode cX12_text 213 = .ok (.iconst 1, 1) := by decide +kernel
theorem dX12_text_214 : decode cX12_text 214 = .ok (.iaload, 1) := by decide +kernel
theorem dX12_text_215 : decode cX12_text 215 = .ok (.if_icmp .lt 12, 3) := by decide +kernel
theorem dX12_text_218 : decode cX12_text 218 = .ok (.aload_n 0, 1) := by decide +kernel
theorem dX12_text_219 : decode cX12_text 219 = .ok (.iconst 4, 1) := by decide +kernel
theorem dX12_text_220 : decode cX12_text 220 = .ok (.aload_n 0, 1) := by decide +kernel
theorem dX12_text_221 : decode cX12_text 221 = .ok (.getfield 86, 3) := by decide +kernel
theorem dX12_text_224 : decode cX12_text 224 = .ok (.invokevirtual 124, 3) := by decide +kernel
theorem dX12_text_227 : decode cX12_text 227 = .ok (.aload_n 0, 1) := by decide +kernel
theorem dX12_text_228 : decode cX12_text 228 = .ok (.getfield 7, 3) := by decide +kernel
theorem dX12_text_231 : decode cX12_text 231 = .ok (.iconst 5, 1) := by decide +kernel
theorem dX12_text_232 : decode cX12_text 232 = .ok (.iaload, 1) := by decide +kernel
theorem dX12_text_233 : decode cX12_text 233 = .ok (.ifCond .ne 23, 3) := by decide +kernel
theorem dX12_text_236 : decode cX12_text 236 = .ok (.iload_n 1, 1) := by decide +kernel
theorem dX12_text_237 : decode cX12_text 237 = .ok (.ifCond .ne 19, 3) := by decide +kernel
theorem dX12_text_240 : decode cX12_text 240 = .ok (.aload_n 0, 1) := by decide +kernel
theorem dX12_text_241 : decode cX12_text 241 = .ok (.invokevirtual 174, 3) := by decide +kernel
theorem dX12_text_244 : decode cX12_text 244 = .ok (.ifCond .eq 12, 3) := by decide +kernel
theorem dX12_text_247 : decode cX12_text 247 = .ok (.aload_n 0, 1) := by decide +kernel
theorem dX12_text_248 : decode cX12_text 248 = .ok (.iconst 5, 1) := by decide +kernel
theorem dX12_text_249 : decode cX12_text 249 = .ok (.aload_n 0, 1) := by decide +kernel
theorem dX12_text_250 : decode cX12_text 250 = .ok (.getfield 86, 3) := by decide +kernel
theorem dX12_text_253 : decode cX12_text 253 = .ok (.invokevirtual 124, 3) := by decide +kernel
theorem dX12_text_256 : decode cX12_text 256 = .ok (.aload_n 0, 1) := by decide +kernel
theorem dX12_text_257 : decode cX12_text 257 = .ok (.getfield 7, 3) := by decide +kernel
theorem dX12_text_260 : decode cX12_text 260 = .ok (.iconst 5, 1) := by decide +kernel
theorem dX12_text_261 : decode cX12_text 261 = .ok (.iaload, 1) := by decide +kernel
theorem dX12_text_262 : decode cX12_text 262 = .ok (.ifCond .eq 5, 3) := by decide +kernel
theorem dX12_text_265 : decode cX12_text 265 = .ok (.iconst (-1), 1) := by decide +kernel
theorem dX12_text_266 : decode cX12_text 266 = .ok (.ireturn, 1) := by decide +kernel
theorem dX12_text_267 : decode cX12_text 267 = .ok (.iload_n 2, 1) := by decide +kernel
theorem dX12_text_268 : decode cX12_text 268 = .ok (.iconst (-1), 1) := by decide +kernel
theorem dX12_text_269 : decode cX12_text 269 = .ok (.if_icmp .ne 12, 3) := by decide +kernel
theorem dX12_text_272 : decode cX12_text 272 = .ok (.aload_n 0, 1) := by decide +kernel
theorem dX12_text_273 : decode cX12_text 273 = .ok (.getfield 7, 3) := by decide +kernel
theorem dX12_text_276 : decode cX12_text 276 = .ok (.iload_n 1, 1) := by decide +kernel
theorem dX12_text_277 : decode cX12_text 277 = .ok (.iaload, 1) := by decide +kernel
theorem dX12_text_278 : decode cX12_text 278 = .ok (.goto 4, 3) := by decide +kernel
theorem dX12_text_281 : decode cX12_text 281 = .ok (.iload_n 2, 1) := by decide +kernel
theorem dX12_text_282 : decode cX12_text 282 = .ok (.istore_n 3, 1) := by decide +kernel
theorem dX12_text_283 : decode cX12_text 283 = .ok (.iload_n 2, 1) := by decide +kernel
theorem dX12_text_284 : decode cX12_text 284 = .ok (.iconst (-1), 1) := by decide +kernel
theorem dX12_text_285 : decode cX12_text 285 = .ok (.if_icmp .ne 13, 3) := by decide +kernel
theorem dX12_text_288 : decode cX12_text 288 = .ok (.aload_n 0, 1) := by decide +kernel
theorem dX12_text_289 : decode cX12_text 289 = .ok (.getfield 7, 3) := by decide +kernel
theorem dX12_text_292 : decode cX12_text 292 = .ok (.iload_n 1, 1) := by decide +kernel
theorem dX12_text_293 : decode cX12_text 293 = .ok (.dup2, 1) := by decide +kernel
theorem dX12_text_294 : decode cX12_text 294 = .ok (.iaload, 1) := by decide +kernel
theorem dX12_text_295 : decode cX12_text 295 = .ok (.iconst 1, 1) := by decide +kernel
theorem dX12_text_296 : decode cX12_text 296 = .ok (.iadd, 1) := by decide +kernel
theorem dX12_text_297 : decode cX12_text 297 = .ok (.iastore, 1) := by decide +kernel
theorem dX12_text_298 : decode cX12_text 298 = .ok (.iconst 0, 1) := by decide +kernel
theorem dX12_text_299 : decode cX12_text 299 = .ok (.istore 4, 2) := by decide +kernel
theorem dX12_text_301 : decode cX12_text 301 = .ok (.iload 4, 2) := by decide +kernel
theorem dX12_text_303 : decode cX12_text 303 = .ok (.iload_n 1, 1) := by decide +kernel
theorem dX12_text_304 : decode cX12_text 304 = .ok (.invokestatic 178, 3) := by decide +kernel
theorem dX12_text_307 : decode cX12_text 307 = .ok (.if_icmp .ge 29, 3) := by decide +kernel
theorem dX12_text_310 : decode cX12_text 310 = .ok (.aload_n 0, 1) := by decide +kernel
theorem dX12_text_311 : decode cX12_text 311 = .ok (.getfield 7, 3) := by decide +kernel
theorem dX12_text_314 : decode cX12_text 314 = .ok (.iload_n 1, 1) := by decide +kernel
theorem dX12_text_315 : decode cX12_text 315 = .ok (.iload_n 3, 1) := by decide +kernel
theorem dX12_text_316 : decode cX12_text 316 = .ok (.invokestatic 181, 3) := by decide +kernel
theorem dX12_text_319 : decode cX12_text 319 = .ok (.iload 4, 2) := by decide +kernel
theorem dX12_text_321 : decode cX12_text 321 = .ok (.iadd, 1) := by decide +kernel
theorem dX12_text_322 : decode cX12_text 322 = .ok (.aload_n 0, 1) := by decide +kernel
theorem dX12_text_323 : decode cX12_text 323 = .ok (.getfield 17, 3) := by decide +kernel
theorem dX12_text_326 : decode cX12_text 326 = .ok (.iload 4, 2) := by decide +kernel
theorem dX12_text_328 : decode cX12_text 328 = .ok (.iaload, 1) := by decide +kernel
theorem dX12_text_329 : decode cX12_text 329 = .ok (.iastore, 1) := by decide +kernel
theorem dX12_text_330 : decode cX12_text 330 = .ok (.iinc 4 1, 3) := by decide +kernel
theorem dX12_text_333 : decode cX12_text 333 = .ok (.goto (-32), 3) := by decide +kernel
theorem dX12_text_336 : decode cX12_text 336 = .ok (.iload_n 3, 1) := by decide +kernel
theorem dX12_text_337 : decode cX12_text 337 = .ok (.ireturn, 1) := by decide +kernel
set_option maxRecDepth 10000 in
theorem wX12_text_0 {g : zG} {I : Nat → Nat → Int32} {P : Nat → Nat → Option Nat} {r : Option Value} {h' : zH} {a0 : Nat} {x1 : Int32} {x2 : Int32} (H : zk g a0 12 ∧ ∃ b1, P a0 0 = some b1 ∧ zk g b1 13 ∧ vp_in 4 (g.2.2 b1) ∧ zk g a0 12 ∧ zk g a0 12 ∧ ∃ b4, P a0 0 = some b4 ∧ zk g b4 13 ∧ vp_in 4 (g.2.2 b4) ∧ zk g a0 12 ∧ ∃ b7, P a0 0 = some b7 ∧ zk g b7 13 ∧ vp_in 5 (g.2.2 b7) ∧ zk g a0 12 ∧ ∃ b10, P a0 0 = some b10 ∧ zk g b10 13 ∧ vp_in 6 (g.2.2 b10) ∧ ∃ (w13 : Int32), Cl mX12_isIn [.int x1, .int 0, .int 3] (g, zU (zU (zU (zU I a0 2 (I b1 (4 : Int32).toNatClampNeg)) b4 (4 : Int32).toNatClampNeg 0) b7 (5 : Int32).toNatClampNeg 0) b10 (6 : Int32).toNatClampNeg (-1), P) (some (.int w13)) (g, zU (zU (zU (zU I a0 2 (I b1 (4 : Int32).toNatClampNeg)) b4 (4 : Int32).toNatClampNeg 0) b7 (5 : Int32).toNatClampNeg 0) b10 (6 : Int32).toNatClampNeg (-1), P) ∧ ((w13 = 0) → r = some (.int (-2)) ∧ h' = (g, zU (zU (zU (zU I a0 2 (I b1 (4 : Int32).toNatClampNeg)) b4 (4 : Int32).toNatClampNeg 0) b7 (5 : Int32).toNatClampNeg 0) b10 (6 : Int32).toNatClampNeg (-1), P)) ∧ ((¬ w13 = 0) → ((¬ x2 = (-1)) → zk g a0 12 ∧ ∃ (w19 : Int32), Cl mX12_isOf [.ref a0, .int x1, .int x2] (g, zU (zU (zU (zU I a0 2 (I b1 (4 : Int32).toNatClampNeg)) b4 (4 : Int32).toNatClampNeg 0) b7 (5 : Int32).toNatClampNeg 0) b10 (6 : Int32).toNatClampNeg (-1), P) (some (.int w19)) (g, zU (zU (zU (zU I a0 2 (I b1 (4 : Int32).toNatClampNeg)) b4 (4 : Int32).toNatClampNeg 0) b7 (5 : Int32).toNatClampNeg 0) b10 (6 : Int32).toNatClampNeg (-1), P) ∧ ((¬ w19 = 0) → zk g a0 12 ∧ zk g a0 12 ∧ zk g a0 12 ∧ Zt none mX12_text 0 0 88 [(0, .ref a0), (1, .int x1), (2, .int x2), (3, .int 0)] [] (g, zU (zU (zU (zU (zU (zU (zU I a0 2 (I b1 (4 : Int32).toNatClampNeg)) b4 (4 : Int32).toNatClampNeg 0) b7 (5 : Int32).toNatClampNeg 0) b10 (6 : Int32).toNatClampNeg (-1)) a0 3 0) a0 8 0) a0 9 (-1), P) r h') ∧ ((w19 = 0) → r = some (.int (-2)) ∧ h' = (g, zU (zU (zU (zU I a0 2 (I b1 (4 : Int32).toNatClampNeg)) b4 (4 : Int32).toNatClampNeg 0) b7 (5 : Int32).toNatClampNeg 0) b10 (6 : Int32).toNatClampNeg (-1), P))) ∧ ((x2 = (-1)) → zk g a0 12 ∧ ∃ b25, P a0 0 = some b25 ∧ zk g b25 13 ∧ vp_in x1 (g.2.2 b25) ∧ (((zU (zU (zU (zU I a0 2 (I b1 (4 : Int32).toNatClampNeg)) b4 (4 : Int32).toNatClampNeg 0) b7 (5 : Int32).toNatClampNeg 0) b10 (6 : Int32).toNatClampNeg (-1)) b25 x1.toNatClampNeg < 2) → zk g a0 12 ∧ zk g a0 12 ∧ zk g a0 12 ∧ Zt none mX12_text 0 0 88 [(0, .ref a0), (1, .int x1), (2, .int x2), (3, .int 0)] [] (g, zU (zU (zU (zU (zU (zU (zU I a0 2 (I b1 (4 : Int32).toNatClampNeg)) b4 (4 : Int32).toNatClampNeg 0) b7 (5 : Int32).toNatClampNeg 0) b10 (6 : Int32).toNatClampNeg (-1)) a0 3 0) a0 8 0) a0 9 (-1), P) r h') ∧ ((¬ (zU (zU (zU (zU I a0 2 (I b1 (4 : Int32).toNatClampNeg)) b4 (4 : Int32).toNatClampNeg 0) b7 (5 : Int32).toNatClampNeg 0) b10 (6 : Int32).toNatClampNeg (-1)) b25 x1.toNatClampNeg < 2) → r = some (.int (-2)) ∧ h' = (g, zU (zU (zU (zU I a0 2 (I b1 (4 : Int32).toNatClampNeg)) b4 (4 : Int32).toNatClampNeg 0) b7 (5 : Int32).toNatClampNeg 0) b10 (6 : Int32).toNatClampNeg (-1), P))))) : Zt none mX12_text 0 0 0 [(0, .ref a0), (1, .int x1), (2, .int x2)] [] (g, I, P) r h' := by
  refine z_aload_n 0 dX12_text_0 rfl rfl (z_aload_n 0 dX12_text_1 rfl rfl ?_)
  obtain ⟨oe3, b1, e3, H2⟩ := H
  refine z_getP dX12_text_2 wf_X12_7 (by decide) (by decide) rfl oe3 (fun q => (by cases q.symm.trans e3)) (fun j q => ?_)
  cases q.symm.trans e3
  refine z_iconst (w := 4) dX12_text_5 (by decide) (z_iald dX12_text_6 H2.1 H2.2.1 (z_putI (g := g) (I := I) (Q := P) dX12_text_7 wf_X12_65 (by decide) (by decide) rfl (Or.inl rfl) (zfit_int rfl) H2.2.2.1 (z_aload_n 0 dX12_text_10 rfl rfl ?_)))
  obtain ⟨oe6, b4, e6, H5⟩ := H2.2.2.2
  refine z_getP dX12_text_11 wf_X12_7 (by decide) (by decide) rfl oe6 (fun q => (by cases q.symm.trans e6)) (fun j q => ?_)
  cases q.symm.trans e6
  refine z_iconst (w := 4) dX12_text_14 (by decide) (z_iconst (w := 0) dX12_text_15 (by decide) (z_iast (g := g) (I := zU I a0 2 (I b1 (4 : Int32).toNatClampNeg)) (Q := P) dX12_text_16 H5.1 H5.2.1 (z_aload_n 0 dX12_text_17 rfl rfl ?_)))
  obtain ⟨oe9, b7, e9, H8⟩ := H5.2.2
  refine z_getP dX12_text_18 wf_X12_7 (by decide) (by decide) rfl oe9 (fun q => (by cases q.symm.trans e9)) (fun j q => ?_)
  cases q.symm.trans e9
  refine z_iconst (w := 5) dX12_text_21 (by decide) (z_iconst (w := 0) dX12_text_22 (by decide) (z_iast (g := g) (I := zU (zU I a0 2 (I b1 (4 : Int32).toNatClampNeg)) b4 (4 : Int32).toNatClampNeg 0) (Q := P) dX12_text_23 H8.1 H8.2.1 (z_aload_n 0 dX12_text_24 rfl rfl ?_)))
  obtain ⟨oe12, b10, e12, H11⟩ := H8.2.2
  refine z_getP dX12_text_25 wf_X12_7 (by decide) (by decide) rfl oe12 (fun q => (by cases q.symm.trans e12)) (fun j q => ?_)
  cases q.symm.trans e12
  refine z_bipush (w := 6) dX12_text_28 (by decide) (z_iconst (w := (-1)) dX12_text_30 (by decide) (z_iast (g := g) (I := zU (zU (zU I a0 2 (I b1 (4 : Int32).toNatClampNeg)) b4 (4 : Int32).toNatClampNeg 0) b7 (5 : Int32).toNatClampNeg 0) (Q := P) dX12_text_31 H11.1 H11.2.1 (z_iload_n 1 dX12_text_32 rfl (z_iconst (w := 0) dX12_text_33 (by decide) (z_iconst (w := 3) dX12_text_34 (by decide) ?_)))))
  obtain ⟨w13, c14, H15⟩ := H11.2.2
  refine z_stat (As := [.int x1, .int 0, .int 3]) (st := []) (r1 := (some (.int w13))) (h1 := (g, zU (zU (zU (zU I a0 2 (I b1 (4 : Int32).toNatClampNeg)) b4 (4 : Int32).toNatClampNeg 0) b7 (5 : Int32).toNatClampNeg 0) b10 (6 : Int32).toNatClampNeg (-1), P)) dX12_text_35 kX12_isIn wm_X12_120 ⟨by decide, by decide⟩ rfl rfl (Nat.le_of_ble_eq_true rfl) (by decide) (by decide) c14 ?_
  refine z_if_eq (t := 68) dX12_text_38 (by decide) (fun q => ?_) (fun q => ?_)
  · have H16 := H15.1 q
    refine z_bipush (w := (-2)) dX12_text_68 (by decide) ?_
    obtain ⟨rfl, rfl⟩ := H16
    exact z_iret dX12_text_70 rfl (by decide) (by decide)
  · have H17 := H15.2 q
    refine z_iload_n 2 dX12_text_41 rfl (z_iconst (w := (-1)) dX12_text_42 (by decide) ?_)
    refine z_icmp_ne (t := 59) dX12_text_43 (by decide) (fun q => ?_) (fun q => ?_)
    · have H18 := H17.1 q
      refine z_aload_n 0 dX12_text_59 rfl rfl (z_iload_n 1 dX12_text_60 rfl (z_iload_n 2 dX12_text_61 rfl ?_))
      obtain ⟨oc20, w19, c20, H21⟩ := H18
      refine z_virt (As := [.int x1, .int x2]) (st := []) (r1 := (some (.int w19))) (h1 := (g, zU (zU (zU (zU I a0 2 (I b1 (4 : Int32).toNatClampNeg)) b4 (4 : Int32).toNatClampNeg 0) b7 (5 : Int32).toNatClampNeg 0) b10 (6 : Int32).toNatClampNeg (-1), P)) dX12_text_62 kX12_isOf wm_X12_158 ⟨by decide, by decide⟩ rfl rfl (Nat.le_of_ble_eq_true rfl) (by decide) (by decide) oc20 c20 ?_
      refine z_if_ne (t := 71) dX12_text_65 (by decide) (fun q => ?_) (fun q => ?_)
      · have H22 := H21.1 q
        refine z_aload_n 0 dX12_text_71 rfl rfl (z_iconst (w := 0) dX12_text_72 (by decide) (z_putI (g := g) (I := zU (zU (zU (zU I a0 2 (I b1 (4 : Int32).toNatClampNeg)) b4 (4 : Int32).toNatClampNeg 0) b7 (5 : Int32).toNatClampNeg 0) b10 (6 : Int32).toNatClampNeg (-1)) (Q := P) dX12_text_73 wf_X12_79 (by decide) (by decide) rfl (Or.inl rfl) (zfit_int rfl) H22.1 (z_aload_n 0 dX12_text_76 rfl rfl (z_iconst (w := 0) dX12_text_77 (by decide) (z_putI (g := g) (I := zU (zU (zU (zU (zU I a0 2 (I b1 (4 : Int32).toNatClampNeg)) b4 (4 : Int32).toNatClampNeg 0) b7 (5 : Int32).toNatClampNeg 0) b10 (6 : Int32).toNatClampNeg (-1)) a0 3 0) (Q := P) dX12_text_78 wf_X12_113 (by decide) (by decide) rfl (Or.inl rfl) (zfit_bool rfl (Or.inl rfl)) H22.2.1 (z_aload_n 0 dX12_text_81 rfl rfl (z_iconst (w := (-1)) dX12_text_82 (by decide) (z_putI (g := g) (I := zU (zU (zU (zU (zU (zU I a0 2 (I b1 (4 : Int32).toNatClampNeg)) b4 (4 : Int32).toNatClampNeg 0) b7 (5 : Int32).toNatClampNeg 0) b10 (6 : Int32).toNatClampNeg (-1)) a0 3 0) a0 8 0) (Q := P) dX12_text_83 wf_X12_138 (by decide) (by decide) rfl (Or.inl rfl) (zfit_int rfl) H22.2.2.1 (z_iconst (w := 0) dX12_text_86 (by decide) (z_istore_n (lv' := [(3, .int 0), (0, .ref a0), (1, .int x1), (2, .int x2)]) dX12_text_87 (by decide) rfl ?_))))))))))
        exact z_less [1, 2, 3, 0] rfl H22.2.2.2
      · have H23 := H21.2 q
        refine z_bipush (w := (-2)) dX12_text_68 (by decide) ?_
        obtain ⟨rfl, rfl⟩ := H23
        exact z_iret dX12_text_70 rfl (by decide) (by decide)
    · have H24 := H17.2 q
      refine z_aload_n 0 dX12_text_46 rfl rfl ?_
      obtain ⟨oe27, b25, e27, H26⟩ := H24
      refine z_getP dX12_text_47 wf_X12_7 (by decide) (by decide) rfl oe27 (fun q => (by cases q.symm.trans e27)) (fun j q => ?_)
      cases q.symm.trans e27
      refine z_iload_n 1 dX12_text_50 rfl (z_iald dX12_text_51 H26.1 H26.2.1 (z_iconst (w := 2) dX12_text_52 (by decide) ?_))
      refine z_icmp_lt (t := 71) dX12_text_53 (by decide) (fun q => ?_) (fun q => ?_)
      · have H28 := H26.2.2.1 q
        refine z_aload_n 0 dX12_text_71 rfl rfl (z_iconst (w := 0) dX12_text_72 (by decide) (z_putI (g := g) (I := zU (zU (zU (zU I a0 2 (I b1 (4 : Int32).toNatClampNeg)) b4 (4 : Int32).toNatClampNeg 0) b7 (5 : Int32).toNatClampNeg 0) b10 (6 : Int32).toNatClampNeg (-1)) (Q := P) dX12_text_73 wf_X12_79 (by decide) (by decide) rfl (Or.inl rfl) (zfit_int rfl) H28.1 (z_aload_n 0 dX12_text_76 rfl rfl (z_iconst (w := 0) dX12_text_77 (by decide) (z_putI (g := g) (I := zU (zU (zU (zU (zU I a0 2 (I b1 (4 : Int32).toNatClampNeg)) b4 (4 : Int32).toNatClampNeg 0) b7 (5 : Int32).toNatClampNeg 0) b10 (6 : Int32).toNatClampNeg (-1)) a0 3 0) (Q := P) dX12_text_78 wf_X12_113 (by decide) (by decide) rfl (Or.inl rfl) (zfit_bool rfl (Or.inl rfl)) H28.2.1 (z_aload_n 0 dX12_text_81 rfl rfl (z_iconst (w := (-1)) dX12_text_82 (by decide) (z_putI (g := g) (I := zU (zU (zU (zU (zU (zU I a0 2 (I b1 (4 : Int32).toNatClampNeg)) b4 (4 : Int32).toNatClampNeg 0) b7 (5 : Int32).toNatClampNeg 0) b10 (6 : Int32).toNatClampNeg (-1)) a0 3 0) a0 8 0) (Q := P) dX12_text_83 wf_X12_138 (by decide) (by decide) rfl (Or.inl rfl) (zfit_int rfl) H28.2.2.1 (z_iconst (w := 0) dX12_text_86 (by decide) (z_istore_n (lv' := [(3, .int 0), (0, .ref a0), (1, .int x1), (2, .int x2)]) dX12_text_87 (by decide) rfl ?_))))))))))
        exact z_less [1, 2, 3, 0] rfl H28.2.2.2
      · have H29 := H26.2.2.2 q
        refine z_goto (t := 68) dX12_text_56 (by decide) (z_bipush (w := (-2)) dX12_text_68 (by decide) ?_)
        obtain ⟨rfl, rfl⟩ := H29
        exact z_iret dX12_text_70 rfl (by decide) (by decide)
theorem eX12_text {g : zG} {I : Nat → Nat → Int32} {P : Nat → Nat → Option Nat} {r : Option Value} {h' : zH} {a0 : Nat} {x1 : Int32} {x2 : Int32} (H : Zt none mX12_text 0 0 0 [(0, .ref a0), (1, .int x1), (2, .int x2)] [] (g, I, P) r h') : Cl mX12_text [.ref a0, .int x1, .int x2] (g, I, P) r h' := Cl.of (by decide) (Nat.le_of_ble_eq_true rfl) H
set_option maxRecDepth 10000 in
theorem wX12_text_88 {g : zG} {I : Nat → Nat → Int32} {P : Nat → Nat → Option Nat} {r : Option Value} {h' : zH} {a0 : Nat} {x1 : Int32} {x2 : Int32} {x3 : Int32} (H : ((121 ≤ x3) → ((¬ x1 = 0) → zk g a0 12 ∧ ∃ (I3 : Nat → Nat → Int32), Cl mX12_advance [.ref a0] (g, I, P) none (g, I3, P) ∧ Zt none mX12_text 0 0 122 [(0, .ref a0), (1, .int x1), (2, .int x2)] [] (g, I3, P) r h') ∧ ((x1 = 0) → zk g a0 12 ∧ ∃ b7, P a0 10 = some b7 ∧ zk g b7 13 ∧ vp_in 0 (g.2.2 b7) ∧ zk g a0 12 ∧ ∃ (I10 : Nat → Nat → Int32), Cl mX12_advance [.ref a0] (g, zU I b7 (0 : Int32).toNatClampNeg 2, P) none (g, I10, P) ∧ Zt none mX12_text 0 0 122 [(0, .ref a0), (1, .int x1), (2, .int x2)] [] (g, I10, P) r h')) ∧ ((¬ 121 ≤ x3) → zk g a0 12 ∧ ∃ b14, P a0 10 = some b14 ∧ zk g b14 13 ∧ vp_in x3 (g.2.2 b14) ∧ Zt none mX12_text 0 0 88 [(0, .ref a0), (1, .int x1), (2, .int x2), (3, .int (x3 + 1))] [] (g, zU I b14 x3.toNatClampNeg 0, P) r h')) : Zt none mX12_text 0 0 88 [(0, .ref a0), (1, .int x1), (2, .int x2), (3, .int x3)] [] (g, I, P) r h' := by
  refine z_iload_n 3 dX12_text_88 rfl (z_bipush (w := 121) dX12_text_89 (by decide) ?_)
  refine z_icmp_ge (t := 107) dX12_text_91 (by decide) (fun q => ?_) (fun q => ?_)
  · have H1 := H.1 q
    refine z_iload_n 1 dX12_text_107 rfl ?_
    refine z_if_ne (t := 118) dX12_text_108 (by decide) (fun q => ?_) (fun q => ?_)
    · have H2 := H1.1 q
      refine z_aload_n 0 dX12_text_118 rfl rfl ?_
      obtain ⟨oc4, I3, c4, H5⟩ := H2
      refine z_virt (As := []) (st := []) (r1 := none) (h1 := (g, I3, P)) dX12_text_119 kX12_advance wm_X12_128 ⟨by decide, by decide⟩ rfl rfl (Nat.le_of_ble_eq_true rfl) (by decide) (by decide) oc4 c4 ?_
      exact z_less [0, 1, 2] rfl H5
    · have H6 := H1.2 q
      refine z_aload_n 0 dX12_text_111 rfl rfl ?_
      obtain ⟨oe9, b7, e9, H8⟩ := H6
      refine z_getP dX12_text_112 wf_X12_17 (by decide) (by decide) rfl oe9 (fun q => (by cases q.symm.trans e9)) (fun j q => ?_)
      cases q.symm.trans e9
      refine z_iconst (w := 0) dX12_text_115 (by decide) (z_iconst (w := 2) dX12_text_116 (by decide) (z_iast (g := g) (I := I) (Q := P) dX12_text_117 H8.1 H8.2.1 (z_aload_n 0 dX12_text_118 rfl rfl ?_)))
      obtain ⟨oc11, I10, c11, H12⟩ := H8.2.2
      refine z_virt (As := []) (st := []) (r1 := none) (h1 := (g, I10, P)) dX12_text_119 kX12_advance wm_X12_128 ⟨by decide, by decide⟩ rfl rfl (Nat.le_of_ble_eq_true rfl) (by decide) (by decide) oc11 c11 ?_
      exact z_less [0, 1, 2] rfl H12
  · have H13 := H.2 q
    refine z_aload_n 0 dX12_text_94 rfl rfl ?_
    obtain ⟨oe16, b14, e16, H15⟩ := H13
    refine z_getP dX12_text_95 wf_X12_17 (by decide) (by decide) rfl oe16 (fun q => (by cases q.symm.trans e16)) (fun j q => ?_)
    cases q.symm.trans e16
    refine z_iload_n 3 dX12_text_98 rfl (z_iconst (w := 0) dX12_text_99 (by decide) (z_iast (g := g) (I := I) (Q := P) dX12_text_100 H15.1 H15.2.1 (z_iinc (y := x3 + 1) (lv' := [(3, .int (x3 + 1)), (0, .ref a0), (1, .int x1), (2, .int x2)]) 3 dX12_text_101 rfl rfl (by decide) rfl (z_goto (t := 88) dX12_text_104 (by decide) ?_))))
    exact z_less [1, 2, 3, 0] rfl H15.2.2
set_option maxRecDepth 10000 in
theorem wX12_text_122 {g : zG} {I : Nat → Nat → Int32} {P : Nat → Nat → Option Nat} {r : Option Value} {h' : zH} {a0 : Nat} {x1 : Int32} {x2 : Int32} (H : zk g a0 12 ∧ ((¬ I a0 8 = 0) → Zt none mX12_text 0 0 192 [(0, .ref a0), (1, .int x1), (2, .int x2)] [] (g, I, P) r h') ∧ ((I a0 8 = 0) → zk g a0 12 ∧ ((I a0 5 = 0) → Zt none mX12_text 0 0 192 [(0, .ref a0), (1, .int x1), (2, .int x2)] [] (g, I, P) r h') ∧ ((¬ I a0 5 = 0) → ((x1 = 0) → zk g a0 12 ∧ ∃ (I7 : Nat → Nat → Int32), Cl mX12_hillLine [.ref a0] (g, I, P) none (g, I7, P) ∧ Zt none mX12_text 0 0 122 [(0, .ref a0), (1, .int x1), (2, .int x2)] [] (g, I7, P) r h') ∧ ((x1 = 1) → zk g a0 12 ∧ ∃ (I12 : Nat → Nat → Int32), Cl mX12_centuryLine [.ref a0] (g, I, P) none (g, I12, P) ∧ Zt none mX12_text 0 0 122 [(0, .ref a0), (1, .int x1), (2, .int x2)] [] (g, I12, P) r h') ∧ ((x1 = 2) → zk g a0 12 ∧ ∃ (I17 : Nat → Nat → Int32), Cl mX12_linesLine [.ref a0] (g, I, P) none (g, I17, P) ∧ Zt none mX12_text 0 0 122 [(0, .ref a0), (1, .int x1), (2, .int x2)] [] (g, I17, P) r h') ∧ (¬ x1 = 0 → ¬ x1 = 1 → ¬ x1 = 2 → zk g a0 12 ∧ ∃ (I21 : Nat → Nat → Int32), Cl mX12_logLine [.ref a0] (g, I, P) none (g, I21, P) ∧ Zt none mX12_text 0 0 122 [(0, .ref a0), (1, .int x1), (2, .int x2)] [] (g, I21, P) r h')))) : Zt none mX12_text 0 0 122 [(0, .ref a0), (1, .int x1), (2, .int x2)] [] (g, I, P) r h' := by
  refine z_aload_n 0 dX12_text_122 rfl rfl (z_getI dX12_text_123 wf_X12_113 (by decide) (by decide) rfl H.1 ?_)
  refine z_if_ne (t := 192) dX12_text_126 (by decide) (fun q => ?_) (fun q => ?_)
  · have H1 := H.2.1 q
    exact z_less [0, 1, 2] rfl H1
  · have H2 := H.2.2 q
    refine z_aload_n 0 dX12_text_129 rfl rfl (z_getI dX12_text_130 wf_X12_89 (by decide) (by decide) rfl H2.1 ?_)
    refine z_if_eq (t := 192) dX12_text_133 (by decide) (fun q => ?_) (fun q => ?_)
    · have H3 := H2.2.1 q
      exact z_less [0, 1, 2] rfl H3
    · have H4 := H2.2.2 q
      refine z_iload_n 1 dX12_text_136 rfl ?_
      by_cases q5 : x1 = 0
      · have H6 := H4.1 q5
        have eq5 : (x1 : Int32).toInt = 0 := by rw [q5]; decide
        refine z_tableIn (off := 27) (t := 164) dX12_text_137 (by rw [eq5]; decide) (by rw [eq5]; decide) (by rw [eq5]; rfl) (by decide) ?_
        refine z_aload_n 0 dX12_text_164 rfl rfl ?_
        obtain ⟨oc8, I7, c8, H9⟩ := H6
        refine z_virt (As := []) (st := []) (r1 := none) (h1 := (g, I7, P)) dX12_text_165 kX12_hillLine wm_X12_162 ⟨by decide, by decide⟩ rfl rfl (Nat.le_of_ble_eq_true rfl) (by decide) (by decide) oc8 c8 ?_
        refine z_goto (t := 122) dX12_text_168 (by decide) ?_
        exact z_less [0, 1, 2] rfl H9
      by_cases q10 : x1 = 1
      · have H11 := H4.2.1 q10
        have eq10 : (x1 : Int32).toInt = 1 := by rw [q10]; decide
        refine z_tableIn (off := 34) (t := 171) dX12_text_137 (by rw [eq10]; decide) (by rw [eq10]; decide) (by rw [eq10]; rfl) (by decide) ?_
        refine z_aload_n 0 dX12_text_171 rfl rfl ?_
        obtain ⟨oc13, I12, c13, H14⟩ := H11
        refine z_virt (As := []) (st := []) (r1 := none) (h1 := (g, I12, P)) dX12_text_172 kX12_centuryLine wm_X12_165 ⟨by decide, by decide⟩ rfl rfl (Nat.le_of_ble_eq_true rfl) (by decide) (by decide) oc13 c13 ?_
        refine z_goto (t := 122) dX12_text_175 (by decide) ?_
        exact z_less [0, 1, 2] rfl H14
      by_cases q15 : x1 = 2
      · have H16 := H4.2.2.1 q15
        have eq15 : (x1 : Int32).toInt = 2 := by rw [q15]; decide
        refine z_tableIn (off := 41) (t := 178) dX12_text_137 (by rw [eq15]; decide) (by rw [eq15]; decide) (by rw [eq15]; rfl) (by decide) ?_
        refine z_aload_n 0 dX12_text_178 rfl rfl ?_
        obtain ⟨oc18, I17, c18, H19⟩ := H16
        refine z_virt (As := []) (st := []) (r1 := none) (h1 := (g, I17, P)) dX12_text_179 kX12_linesLine wm_X12_168 ⟨by decide, by decide⟩ rfl rfl (Nat.le_of_ble_eq_true rfl) (by decide) (by decide) oc18 c18 ?_
        refine z_goto (t := 122) dX12_text_182 (by decide) ?_
        exact z_less [0, 1, 2] rfl H19
      have H20 := H4.2.2.2 q5 q10 q15
      have nq5 := lv_neT q5 (show (0 : Int32).toInt = 0 by decide)
      have nq10 := lv_neT q10 (show (1 : Int32).toInt = 1 by decide)
      have nq15 := lv_neT q15 (show (2 : Int32).toInt = 2 by decide)
      refine z_tableOut (t := 185) dX12_text_137 (by omega) (by decide) ?_
      refine z_aload_n 0 dX12_text_185 rfl rfl ?_
      obtain ⟨oc22, I21, c22, H23⟩ := H20
      refine z_virt (As := []) (st := []) (r1 := none) (h1 := (g, I21, P)) dX12_text_186 kX12_logLine wm_X12_171 ⟨by decide, by decide⟩ rfl rfl (Nat.le_of_ble_eq_true rfl) (by decide) (by decide) oc22 c22 ?_
      refine z_goto (t := 122) dX12_text_189 (by decide) ?_
      exact z_less [0, 1, 2] rfl H23
set_option maxRecDepth 10000 in
theorem wX12_text_192 {g : zG} {I : Nat → Nat → Int32} {P : Nat → Nat → Option Nat} {r : Option Value} {h' : zH} {a0 : Nat} {x1 : Int32} {x2 : Int32} (H : zk g a0 12 ∧ ∃ b1, P a0 0 = some b1 ∧ zk g b1 13 ∧ vp_in 5 (g.2.2 b1) ∧ ((¬ I b1 (5 : Int32).toNatClampNeg = 0) → Zt none mX12_text 0 0 227 [(0, .ref a0), (1, .int x1), (2, .int x2)] [] (g, I, P) r h') ∧ ((I b1 (5 : Int32).toNatClampNeg = 0) → ((¬ x1 = 0) → Zt none mX12_text 0 0 227 [(0, .ref a0), (1, .int x1), (2, .int x2)] [] (g, I, P) r h') ∧ ((x1 = 0) → zk g a0 12 ∧ zk g a0 12 ∧ ∃ b8, P a0 10 = some b8 ∧ zk g b8 13 ∧ vp_in 1 (g.2.2 b8) ∧ ((I a0 9 < I b8 (1 : Int32).toNatClampNeg) → Zt none mX12_text 0 0 227 [(0, .ref a0), (1, .int x1), (2, .int x2)] [] (g, I, P) r h') ∧ ((¬ I a0 9 < I b8 (1 : Int32).toNatClampNeg) → zk g a0 12 ∧ zk g a0 12 ∧ ∃ (I13 : Nat → Nat → Int32), Cl mX12_also [.ref a0, .int 4, .int (I a0 4)] (g, I, P) none (g, I13, P) ∧ Zt none mX12_text 0 0 227 [(0, .ref a0), (1, .int x1), (2, .int x2)] [] (g, I13, P) r h')))) : Zt none mX12_text 0 0 192 [(0, .ref a0), (1, .int x1), (2, .int x2)] [] (g, I, P) r h' := by
  refine z_aload_n 0 dX12_text_192 rfl rfl ?_
  obtain ⟨oe3, b1, e3, H2⟩ := H
  refine z_getP dX12_text_193 wf_X12_7 (by decide) (by decide) rfl oe3 (fun q => (by cases q.symm.trans e3)) (fun j q => ?_)
  cases q.symm.trans e3
  refine z_iconst (w := 5) dX12_text_196 (by decide) (z_iald dX12_text_197 H2.1 H2.2.1 ?_)
  refine z_if_ne (t := 227) dX12_text_198 (by decide) (fun q => ?_) (fun q => ?_)
  · have H4 := H2.2.2.1 q
    exact z_less [0, 1, 2] rfl H4
  · have H5 := H2.2.2.2 q
    refine z_iload_n 1 dX12_text_201 rfl ?_
    refine z_if_ne (t := 227) dX12_text_202 (by decide) (fun q => ?_) (fun q => ?_)
    · have H6 := H5.1 q
      exact z_less [0, 1, 2] rfl H6
    · have H7 := H5.2 q
      refine z_aload_n 0 dX12_text_205 rfl rfl (z_getI dX12_text_206 wf_X12_138 (by decide) (by decide) rfl H7.1 (z_aload_n 0 dX12_text_209 rfl rfl ?_))
      obtain ⟨oe10, b8, e10, H9⟩ := H7.2
      refine z_getP dX12_text_210 wf_X12_17 (by decide) (by decide) rfl oe10 (fun q => (by cases q.symm.trans e10)) (fun j q => ?_)
      cases q.symm.trans e10
      refine z_iconst (w := 1) dX12_text_213 (by decide) (z_iald dX12_text_214 H9.1 H9.2.1 ?_)
      refine z_icmp_lt (t := 227) dX12_text_215 (by decide) (fun q => ?_) (fun q => ?_)
      · have H11 := H9.2.2.1 q
        exact z_less [0, 1, 2] rfl H11
      · have H12 := H9.2.2.2 q
        refine z_aload_n 0 dX12_text_218 rfl rfl (z_iconst (w := 4) dX12_text_219 (by decide) (z_aload_n 0 dX12_text_220 rfl rfl (z_getI dX12_text_221 wf_X12_86 (by decide) (by decide) rfl H12.1 ?_)))
        obtain ⟨oc14, I13, c14, H15⟩ := H12.2
        refine z_virt (As := [.int 4, .int (I a0 4)]) (st := []) (r1 := none) (h1 := (g, I13, P)) dX12_text_224 kX12_also wm_X12_124 ⟨by decide, by decide⟩ rfl rfl (Nat.le_of_ble_eq_true rfl) (by decide) (by decide) oc14 c14 ?_
        exact z_less [0, 1, 2] rfl H15
set_option maxRecDepth 10000 in
theorem wX12_text_227 {g : zG} {I : Nat → Nat → Int32} {P : Nat → Nat → Option Nat} {r : Option Value} {h' : zH} {a0 : Nat} {x1 : Int32} {x2 : Int32} (H : zk g a0 12 ∧ ∃ b1, P a0 0 = some b1 ∧ zk g b1 13 ∧ vp_in 5 (g.2.2 b1) ∧ ((¬ I b1 (5 : Int32).toNatClampNeg = 0) → Zt none mX12_text 0 0 256 [(0, .ref a0), (1, .int x1), (2, .int x2)] [] (g, I, P) r h') ∧ ((I b1 (5 : Int32).toNatClampNeg = 0) → ((¬ x1 = 0) → Zt none mX12_text 0 0 256 [(0, .ref a0), (1, .int x1), (2, .int x2)] [] (g, I, P) r h') ∧ ((x1 = 0) → zk g a0 12 ∧ ∃ (w8 : Int32), Cl mX12_isTwice [.ref a0] (g, I, P) (some (.int w8)) (g, I, P) ∧ ((w8 = 0) → Zt none mX12_text 0 0 256 [(0, .ref a0), (1, .int x1), (2, .int x2)] [] (g, I, P) r h') ∧ ((¬ w8 = 0) → zk g a0 12 ∧ zk g a0 12 ∧ ∃ (I13 : Nat → Nat → Int32), Cl mX12_also [.ref a0, .int 5, .int (I a0 4)] (g, I, P) none (g, I13, P) ∧ Zt none mX12_text 0 0 256 [(0, .ref a0), (1, .int x1), (2, .int x2)] [] (g, I13, P) r h')))) : Zt none mX12_text 0 0 227 [(0, .ref a0), (1, .int x1), (2, .int x2)] [] (g, I, P) r h' := by
  refine z_aload_n 0 dX12_text_227 rfl rfl ?_
  obtain ⟨oe3, b1, e3, H2⟩ := H
  refine z_getP dX12_text_228 wf_X12_7 (by decide) (by decide) rfl oe3 (fun q => (by cases q.symm.trans e3)) (fun j q => ?_)
  cases q.symm.trans e3
  refine z_iconst (w := 5) dX12_text_231 (by decide) (z_iald dX12_text_232 H2.1 H2.2.1 ?_)
  refine z_if_ne (t := 256) dX12_text_233 (by decide) (fun q => ?_) (fun q => ?_)
  · have H4 := H2.2.2.1 q
    exact z_less [0, 1, 2] rfl H4
  · have H5 := H2.2.2.2 q
    refine z_iload_n 1 dX12_text_236 rfl ?_
    refine z_if_ne (t := 256) dX12_text_237 (by decide) (fun q => ?_) (fun q => ?_)
    · have H6 := H5.1 q
      exact z_less [0, 1, 2] rfl H6
    · have H7 := H5.2 q
      refine z_aload_n 0 dX12_text_240 rfl rfl ?_
      obtain ⟨oc9, w8, c9, H10⟩ := H7
      refine z_virt (As := []) (st := []) (r1 := (some (.int w8))) (h1 := (g, I, P)) dX12_text_241 kX12_isTwice wm_X12_174 ⟨by decide, by decide⟩ rfl rfl (Nat.le_of_ble_eq_true rfl) (by decide) (by decide) oc9 c9 ?_
      refine z_if_eq (t := 256) dX12_text_244 (by decide) (fun q => ?_) (fun q => ?_)
      · have H11 := H10.1 q
        exact z_less [0, 1, 2] rfl H11
      · have H12 := H10.2 q
        refine z_aload_n 0 dX12_text_247 rfl rfl (z_iconst (w := 5) dX12_text_248 (by decide) (z_aload_n 0 dX12_text_249 rfl rfl (z_getI dX12_text_250 wf_X12_86 (by decide) (by decide) rfl H12.1 ?_)))
        obtain ⟨oc14, I13, c14, H15⟩ := H12.2
        refine z_virt (As := [.int 5, .int (I a0 4)]) (st := []) (r1 := none) (h1 := (g, I13, P)) dX12_text_253 kX12_also wm_X12_124 ⟨by decide, by decide⟩ rfl rfl (Nat.le_of_ble_eq_true rfl) (by decide) (by decide) oc14 c14 ?_
        exact z_less [0, 1, 2] rfl H15
set_option maxRecDepth 10000 in
theorem wX12_text_256 {g : zG} {I : Nat → Nat → Int32} {P : Nat → Nat → Option Nat} {r : Option Value} {h' : zH} {a0 : Nat} {x1 : Int32} {x2 : Int32} (H : zk g a0 12 ∧ ∃ b1, P a0 0 = some b1 ∧ zk g b1 13 ∧ vp_in 5 (g.2.2 b1) ∧ ((I b1 (5 : Int32).toNatClampNeg = 0) → ((¬ x2 = (-1)) → Zt none mX12_text 0 0 282 [(0, .ref a0), (1, .int x1), (2, .int x2)] [.int x2] (g, I, P) r h') ∧ ((x2 = (-1)) → zk g a0 12 ∧ ∃ b7, P a0 0 = some b7 ∧ zk g b7 13 ∧ vp_in x1 (g.2.2 b7) ∧ Zt none mX12_text 0 0 282 [(0, .ref a0), (1, .int x1), (2, .int x2)] [.int (I b7 x1.toNatClampNeg)] (g, I, P) r h')) ∧ ((¬ I b1 (5 : Int32).toNatClampNeg = 0) → r = some (.int (-1)) ∧ h' = (g, I, P))) : Zt none mX12_text 0 0 256 [(0, .ref a0), (1, .int x1), (2, .int x2)] [] (g, I, P) r h' := by
  refine z_aload_n 0 dX12_text_256 rfl rfl ?_
  obtain ⟨oe3, b1, e3, H2⟩ := H
  refine z_getP dX12_text_257 wf_X12_7 (by decide) (by decide) rfl oe3 (fun q => (by cases q.symm.trans e3)) (fun j q => ?_)
  cases q.symm.trans e3
  refine z_iconst (w := 5) dX12_text_260 (by decide) (z_iald dX12_text_261 H2.1 H2.2.1 ?_)
  refine z_if_eq (t := 267) dX12_text_262 (by decide) (fun q => ?_) (fun q => ?_)
  · have H4 := H2.2.2.1 q
    refine z_iload_n 2 dX12_text_267 rfl (z_iconst (w := (-1)) dX12_text_268 (by decide) ?_)
    refine z_icmp_ne (t := 281) dX12_text_269 (by decide) (fun q => ?_) (fun q => ?_)
    · have H5 := H4.1 q
      refine z_iload_n 2 dX12_text_281 rfl ?_
      exact z_less [0, 1, 2] rfl H5
    · have H6 := H4.2 q
      refine z_aload_n 0 dX12_text_272 rfl rfl ?_
      obtain ⟨oe9, b7, e9, H8⟩ := H6
      refine z_getP dX12_text_273 wf_X12_7 (by decide) (by decide) rfl oe9 (fun q => (by cases q.symm.trans e9)) (fun j q => ?_)
      cases q.symm.trans e9
      refine z_iload_n 1 dX12_text_276 rfl (z_iald dX12_text_277 H8.1 H8.2.1 (z_goto (t := 282) dX12_text_278 (by decide) ?_))
      exact z_less [0, 1, 2] rfl H8.2.2
  · have H10 := H2.2.2.2 q
    refine z_iconst (w := (-1)) dX12_text_265 (by decide) ?_
    obtain ⟨rfl, rfl⟩ := H10
    exact z_iret dX12_text_266 rfl (by decide) (by decide)
set_option maxRecDepth 10000 in
theorem wX12_text_282 {g : zG} {I : Nat → Nat → Int32} {P : Nat → Nat → Option Nat} {r : Option Value} {h' : zH} {a0 : Nat} {x1 : Int32} {x2 : Int32} {xs0 : Int32} (H : ((¬ x2 = (-1)) → Zt none mX12_text 0 0 301 [(0, .ref a0), (1, .int x1), (3, .int xs0), (4, .int 0)] [] (g, I, P) r h') ∧ ((x2 = (-1)) → zk g a0 12 ∧ ∃ b3, P a0 0 = some b3 ∧ zk g b3 13 ∧ vp_in x1 (g.2.2 b3) ∧ zk g b3 13 ∧ vp_in x1 (g.2.2 b3) ∧ Zt none mX12_text 0 0 301 [(0, .ref a0), (1, .int x1), (3, .int xs0), (4, .int 0)] [] (g, zU I b3 x1.toNatClampNeg ((I b3 x1.toNatClampNeg) + 1), P) r h')) : Zt none mX12_text 0 0 282 [(0, .ref a0), (1, .int x1), (2, .int x2)] [.int xs0] (g, I, P) r h' := by
  refine z_istore_n (lv' := [(3, .int xs0), (0, .ref a0), (1, .int x1), (2, .int x2)]) dX12_text_282 (by decide) rfl (z_iload_n 3 dX12_text_283 rfl (z_iconst (w := (-1)) dX12_text_284 (by decide) ?_))
  refine z_icmp_ne (t := 298) dX12_text_285 (by decide) (fun q => ?_) (fun q => ?_)
  · have H1 := H.1 q
    refine z_iconst (w := 0) dX12_text_298 (by decide) (z_istore (lv' := [(4, .int 0), (3, .int xs0), (0, .ref a0), (1, .int x1), (2, .int x2)]) dX12_text_299 (by decide) rfl ?_)
    exact z_less [2, 3, 1, 0] rfl H1
  · have H2 := H.2 q
    refine z_aload_n 1 dX12_text_288 rfl rfl ?_
    obtain ⟨oe5, b3, e5, H4⟩ := H2
    refine z_getP dX12_text_289 wf_X12_7 (by decide) (by decide) rfl oe5 (fun q => (by cases q.symm.trans e5)) (fun j q => ?_)
    cases q.symm.trans e5
    refine z_iload_n 2 dX12_text_292 rfl (z_dup2 dX12_text_293 rfl rfl (z_iald dX12_text_294 H4.1 H4.2.1 (z_iconst (w := 1) dX12_text_295 (by decide) (z_iadd dX12_text_296 (z_iast (g := g) (I := I) (Q := P) dX12_text_297 H4.2.2.1 H4.2.2.2.1 (z_iconst (w := 0) dX12_text_298 (by decide) (z_istore (lv' := [(4, .int 0), (3, .int xs0), (0, .ref a0), (1, .int x1), (2, .int x2)]) dX12_text_299 (by decide) rfl ?_)))))))
    exact z_less [2, 3, 1, 0] rfl H4.2.2.2.2
set_option maxRecDepth 10000 in
theorem wX12_text_301 {g : zG} {I : Nat → Nat → Int32} {P : Nat → Nat → Option Nat} {r : Option Value} {h' : zH} {a0 : Nat} {x1 : Int32} {x3 : Int32} {x4 : Int32} (H : ∃ (w1 : Int32), Cl mX12_sizeOf [.int x1] (g, I, P) (some (.int w1)) (g, I, P) ∧ ((w1 ≤ x4) → r = some (.int x3) ∧ h' = (g, I, P)) ∧ ((¬ w1 ≤ x4) → zk g a0 12 ∧ ∃ b6, P a0 0 = some b6 ∧ ∃ (w9 : Int32), Cl mX12_placeOf [.int x1, .int x3] (g, I, P) (some (.int w9)) (g, I, P) ∧ zk g a0 12 ∧ ∃ b12, P a0 10 = some b12 ∧ zk g b12 13 ∧ vp_in x4 (g.2.2 b12) ∧ zk g b6 13 ∧ vp_in (w9 + x4) (g.2.2 b6) ∧ Zt none mX12_text 0 0 301 [(0, .ref a0), (1, .int x1), (3, .int x3), (4, .int (x4 + 1))] [] (g, zU I b6 (w9 + x4).toNatClampNeg (I b12 x4.toNatClampNeg), P) r h')) : Zt none mX12_text 0 0 301 [(0, .ref a0), (1, .int x1), (3, .int x3), (4, .int x4)] [] (g, I, P) r h' := by
  refine z_iload 3 dX12_text_301 rfl (z_iload_n 1 dX12_text_303 rfl ?_)
  obtain ⟨w1, c2, H3⟩ := H
  refine z_stat (As := [.int x1]) (st := [.int x4]) (r1 := (some (.int w1))) (h1 := (g, I, P)) dX12_text_304 kX12_sizeOf wm_X12_178 ⟨by decide, by decide⟩ rfl rfl (Nat.le_of_ble_eq_true rfl) (by decide) (by decide) c2 ?_
  refine z_icmp_ge (t := 336) dX12_text_307 (by decide) (fun q => ?_) (fun q => ?_)
  · have H4 := H3.1 q
    refine z_iload_n 2 dX12_text_336 rfl ?_
    obtain ⟨rfl, rfl⟩ := H4
    exact z_iret dX12_text_337 rfl (by decide) (by decide)
  · have H5 := H3.2 q
    refine z_aload_n 0 dX12_text_310 rfl rfl ?_
    obtain ⟨oe8, b6, e8, H7⟩ := H5
    refine z_getP dX12_text_311 wf_X12_7 (by decide) (by decide) rfl oe8 (fun q => (by cases q.symm.trans e8)) (fun j q => ?_)
    cases q.symm.trans e8
    refine z_iload_n 1 dX12_text_314 rfl (z_iload_n 2 dX12_text_315 rfl ?_)
    obtain ⟨w9, c10, H11⟩ := H7
    refine z_stat (As := [.int x1, .int x3]) (st := [.ref b6]) (r1 := (some (.int w9))) (h1 := (g, I, P)) dX12_text_316 kX12_placeOf wm_X12_181 ⟨by decide, by decide⟩ rfl rfl (Nat.le_of_ble_eq_true rfl) (by decide) (by decide) c10 ?_
    refine z_iload 3 dX12_text_319 rfl (z_iadd dX12_text_321 (z_aload_n 0 dX12_text_322 rfl rfl ?_))
    obtain ⟨oe14, b12, e14, H13⟩ := H11
    refine z_getP dX12_text_323 wf_X12_17 (by decide) (by decide) rfl oe14 (fun q => (by cases q.symm.trans e14)) (fun j q => ?_)
    cases q.symm.trans e14
    refine z_iload 3 dX12_text_326 rfl (z_iald dX12_text_328 H13.1 H13.2.1 (z_iast (g := g) (I := I) (Q := P) dX12_text_329 H13.2.2.1 H13.2.2.2.1 (z_iinc (y := x4 + 1) (lv' := [(4, .int (x4 + 1)), (0, .ref a0), (1, .int x1), (3, .int x3)]) 3 dX12_text_330 rfl rfl (by decide) rfl (z_goto (t := 301) dX12_text_333 (by decide) ?_))))
    exact z_less [1, 2, 3, 0] rfl H13.2.2.2.2
theorem dX12_fault_0 : decode cX12_fault 0 = .ok (.iload_n 1, 1) := by decide +kernel
theorem dX12_fault_1 : decode cX12_fault 1 = .ok (.ifCond .ne 12, 3) := by decide +kernel
theorem dX12_fault_4 : decode cX12_fault 4 = .ok (.aload_n 0, 1) := by decide +kernel
theorem dX12_fault_5 : decode cX12_fault 5 = .ok (.getfield 7, 3) := by decide +kernel
theorem dX12_fault_8 : decode cX12_fault 8 = .ok (.iconst 5, 1) := by decide +kernel
theorem dX12_fault_9 : decode cX12_fault 9 = .ok (.iaload, 1) := by decide +kernel
theorem dX12_fault_10 : decode cX12_fault 10 = .ok (.goto 19, 3) := by decide +kernel
theorem dX12_fault_13 : decode cX12_fault 13 = .ok (.iload_n 1, 1) := by decide +kernel
theorem dX12_fault_14 : decode cX12_fault 14 = .ok (.iconst 1, 1) := by decide +kernel
theorem dX12_fault_15 : decode cX12_fault 15 = .ok (.if_icmp .ne 13, 3) := by decide +kernel
theorem dX12_fault_18 : decode cX12_fault 18 = .ok (.aload_n 0, 1) := by decide +kernel
theorem dX12_fault_19 : decode cX12_fault 19 = .ok (.getfield 7, 3) := by decide +kernel
theorem dX12_fault_22 : decode cX12_fault 22 = .ok (.bipush 6, 2) := by decide +kernel
theorem dX12_fault_24 : decode cX12_fault 24 = .ok (.iaload, 1) := by decide +kernel
theorem dX12_fault_25 : decode cX12_fault 25 = .ok (.goto 4, 3) := by decide +kernel
theorem dX12_fault_28 : decode cX12_fault 28 = .ok (.iconst (-1), 1) := by decide +kernel
theorem dX12_fault_29 : decode cX12_fault 29 = .ok (.ireturn, 1) := by decide +kernel
set_option maxRecDepth 10000 in
theorem wX12_fault_0 {g : zG} {I : Nat → Nat → Int32} {P : Nat → Nat → Option Nat} {r : Option Value} {h' : zH} {a0 : Nat} {x1 : Int32} (H : ((¬ x1 = 0) → ((¬ x1 = 1) → r = some (.int (-1)) ∧ h' = (g, I, P)) ∧ ((x1 = 1) → zk g a0 12 ∧ ∃ b4, P a0 0 = some b4 ∧ zk g b4 13 ∧ vp_in 6 (g.2.2 b4) ∧ r = some (.int (I b4 (6 : Int32).toNatClampNeg)) ∧ h' = (g, I, P))) ∧ ((x1 = 0) → zk g a0 12 ∧ ∃ b8, P a0 0 = some b8 ∧ zk g b8 13 ∧ vp_in 5 (g.2.2 b8) ∧ r = some (.int (I b8 (5 : Int32).toNatClampNeg)) ∧ h' = (g, I, P))) : Zt none mX12_fault 0 0 0 [(0, .ref a0), (1, .int x1)] [] (g, I, P) r h' := by
  refine z_iload_n 1 dX12_fault_0 rfl ?_
  refine z_if_ne (t := 13) dX12_fault_1 (by decide) (fun q => ?_) (fun q => ?_)
  · have H1 := H.1 q
    refine z_iload_n 1 dX12_fault_13 rfl (z_iconst (w := 1) dX12_fault_14 (by decide) ?_)
    refine z_icmp_ne (t := 28) dX12_fault_15 (by decide) (fun q => ?_) (fun q => ?_)
    · have H2 := H1.1 q
      refine z_iconst (w := (-1)) dX12_fault_28 (by decide) ?_
      obtain ⟨rfl, rfl⟩ := H2
      exact z_iret dX12_fault_29 rfl (by decide) (by decide)
    · have H3 := H1.2 q
      refine z_aload_n 0 dX12_fault_18 rfl rfl ?_
      obtain ⟨oe6, b4, e6, H5⟩ := H3
      refine z_getP dX12_fault_19 wf_X12_7 (by decide) (by decide) rfl oe6 (fun q => (by cases q.symm.trans e6)) (fun j q => ?_)
      cases q.symm.trans e6
      refine z_bipush (w := 6) dX12_fault_22 (by decide) (z_iald dX12_fault_24 H5.1 H5.2.1 (z_goto (t := 29) dX12_fault_25 (by decide) ?_))
      obtain ⟨rfl, rfl⟩ := H5.2.2
      exact z_iret dX12_fault_29 rfl (by decide) (by decide)
  · have H7 := H.2 q
    refine z_aload_n 0 dX12_fault_4 rfl rfl ?_
    obtain ⟨oe10, b8, e10, H9⟩ := H7
    refine z_getP dX12_fault_5 wf_X12_7 (by decide) (by decide) rfl oe10 (fun q => (by cases q.symm.trans e10)) (fun j q => ?_)
    cases q.symm.trans e10
    refine z_iconst (w := 5) dX12_fault_8 (by decide) (z_iald dX12_fault_9 H9.1 H9.2.1 (z_goto (t := 29) dX12_fault_10 (by decide) ?_))
    obtain ⟨rfl, rfl⟩ := H9.2.2
    exact z_iret dX12_fault_29 rfl (by decide) (by decide)
theorem eX12_fault {g : zG} {I : Nat → Nat → Int32} {P : Nat → Nat → Option Nat} {r : Option Value} {h' : zH} {a0 : Nat} {x1 : Int32} (H : Zt none mX12_fault 0 0 0 [(0, .ref a0), (1, .int x1)] [] (g, I, P) r h') : Cl mX12_fault [.ref a0, .int x1] (g, I, P) r h' := Cl.of (by decide) (Nat.le_of_ble_eq_true rfl) H
theorem dX12_isHill_0 : decode cX12_isHill 0 = .ok (.aload_n 0, 1) := by decide +kernel
theorem dX12_isHill_1 : decode cX12_isHill 1 = .ok (.iconst 0, 1) := by decide +kernel
theorem dX12_isHill_2 : decode cX12_isHill 2 = .ok (.iload_n 1, 1) := by decide +kernel
theorem dX12_isHill_3 : decode cX12_isHill 3 = .ok (.invokevirtual 158, 3) := by decide +kernel
theorem dX12_isHill_6 : decode cX12_isHill 6 = .ok (.ifCond .ne 5, 3) := by decide +kernel
theorem dX12_isHill_9 : decode cX12_isHill 9 = .ok (.iconst 0, 1) := by decide +kernel
theorem dX12_isHill_10 : decode cX12_isHill 10 = .ok (.ireturn, 1) := by decide +kernel
theorem dX12_isHill_11 : decode cX12_isHill 11 = .ok (.aload_n 0, 1) := by decide +kernel
theorem dX12_isHill_12 : decode cX12_isHill 12 = .ok (.iconst 0, 1) := by decide +kernel
theorem dX12_isHill_13 : decode cX12_isHill 13 = .ok (.iload_n 1, 1) := by decide +kernel
theorem dX12_isHill_14 : decode cX12_isHill 14 = .ok (.invokestatic 181, 3) := by decide +kernel
theorem dX12_isHill_17 : decode cX12_isHill 17 = .ok (.putfield 184, 3) := by decide +kernel
theorem dX12_isHill_20 : decode cX12_isHill 20 = .ok (.aload_n 0, 1) := by decide +kernel
theorem dX12_isHill_21 : decode cX12_isHill 21 = .ok (.aload_n 0, 1) := by decide +kernel
theorem dX12_isHill_22 : decode cX12_isHill 22 = .ok (.getfield 7, 3) := by decide +kernel
theorem dX12_isHill_25 : decode cX12_isHill 25 = .ok (.aload_n 0, 1) := by decide +kernel
theorem dX12_isHill_26 : decode cX12_isHill 26 = .ok (.getfield 184, 3) := by decide +kernel
theorem dX12_isHill_29 : decode cX12_isHill 29 = .ok (.iaload, 1) := by decide +kernel
theorem dX12_isHill_30 : decode cX12_isHill 30 = .ok (.putfield 187, 3) := by decide +kernel
theorem dX12_isHill_33 : decode cX12_isHill 33 = .ok (.aload_n 0, 1) := by decide +kernel
theorem dX12_isHill_34 : decode cX12_isHill 34 = .ok (.aload_n 0, 1) := by decide +kernel
theorem dX12_isHill_35 : decode cX12_isHill 35 = .ok (.getfield 7, 3) := by decide +kernel
theorem dX12_isHill_38 : decode cX12_isHill 38 = .ok (.aload_n 0, 1) := by decide +kernel
theorem dX12_isHill_39 : decode cX12_isHill 39 = .ok (.getfield 184, 3) := by decide +kernel
theorem dX12_isHill_42 : decode cX12_isHill 42 = .ok (.iconst 1, 1) := by decide +kernel
theorem dX12_isHill_43 : decode cX12_isHill 43 = .ok (.iadd, 1) := by decide +kernel
theorem dX12_isHill_44 : decode cX12_isHill 44 = .ok (.iaload, 1) := by decide +kernel
theorem dX12_isHill_45 : decode cX12_isHill 45 = .ok (.putfield 190, 3) := by decide +kernel
theorem dX12_isHill_48 : decode cX12_isHill 48 = .ok (.iconst 1, 1) := by decide +kernel
theorem dX12_isHill_49 : decode cX12_isHill 49 = .ok (.ireturn, 1) := by decide +kernel
set_option maxRecDepth 10000 in
theorem wX12_isHill_0 {g : zG} {I : Nat → Nat → Int32} {P : Nat → Nat → Option Nat} {r : Option Value} {h' : zH} {a0 : Nat} {x1 : Int32} (H : zk g a0 12 ∧ ∃ (w1 : Int32), Cl mX12_isOf [.ref a0, .int 0, .int x1] (g, I, P) (some (.int w1)) (g, I, P) ∧ ((¬ w1 = 0) → ∃ (w5 : Int32), Cl mX12_placeOf [.int 0, .int x1] (g, I, P) (some (.int w5)) (g, I, P) ∧ zk g a0 12 ∧ zk g a0 12 ∧ ∃ b8, P a0 0 = some b8 ∧ zk g a0 12 ∧ zk g b8 13 ∧ vp_in ((zU I a0 13 w5) a0 13) (g.2.2 b8) ∧ zk g a0 12 ∧ zk g a0 12 ∧ ∃ b11, P a0 0 = some b11 ∧ zk g a0 12 ∧ zk g b11 13 ∧ vp_in (((zU (zU I a0 13 w5) a0 14 ((zU I a0 13 w5) b8 ((zU I a0 13 w5) a0 13).toNatClampNeg)) a0 13) + 1) (g.2.2 b11) ∧ zk g a0 12 ∧ r = some (.int 1) ∧ h' = (g, zU (zU (zU I a0 13 w5) a0 14 ((zU I a0 13 w5) b8 ((zU I a0 13 w5) a0 13).toNatClampNeg)) a0 15 ((zU (zU I a0 13 w5) a0 14 ((zU I a0 13 w5) b8 ((zU I a0 13 w5) a0 13).toNatClampNeg)) b11 (((zU (zU I a0 13 w5) a0 14 ((zU I a0 13 w5) b8 ((zU I a0 13 w5) a0 13).toNatClampNeg)) a0 13) + 1).toNatClampNeg), P)) ∧ ((w1 = 0) → r = some (.int 0) ∧ h' = (g, I, P))) : Zt none mX12_isHill 0 0 0 [(0, .ref a0), (1, .int x1)] [] (g, I, P) r h' := by
  refine z_aload_n 0 dX12_isHill_0 rfl rfl (z_iconst (w := 0) dX12_isHill_1 (by decide) (z_iload_n 1 dX12_isHill_2 rfl ?_))
  obtain ⟨oc2, w1, c2, H3⟩ := H
  refine z_virt (As := [.int 0, .int x1]) (st := []) (r1 := (some (.int w1))) (h1 := (g, I, P)) dX12_isHill_3 kX12_isOf wm_X12_158 ⟨by decide, by decide⟩ rfl rfl (Nat.le_of_ble_eq_true rfl) (by decide) (by decide) oc2 c2 ?_
  refine z_if_ne (t := 11) dX12_isHill_6 (by decide) (fun q => ?_) (fun q => ?_)
  · have H4 := H3.1 q
    refine z_aload_n 0 dX12_isHill_11 rfl rfl (z_iconst (w := 0) dX12_isHill_12 (by decide) (z_iload_n 1 dX12_isHill_13 rfl ?_))
    obtain ⟨w5, c6, H7⟩ := H4
    refine z_stat (As := [.int 0, .int x1]) (st := [.ref a0]) (r1 := (some (.int w5))) (h1 := (g, I, P)) dX12_isHill_14 kX12_placeOf wm_X12_181 ⟨by decide, by decide⟩ rfl rfl (Nat.le_of_ble_eq_true rfl) (by decide) (by decide) c6 ?_
    refine z_putI (g := g) (I := I) (Q := P) dX12_isHill_17 wf_X12_184 (by decide) (by decide) rfl (Or.inl rfl) (zfit_int rfl) H7.1 (z_aload_n 0 dX12_isHill_20 rfl rfl (z_aload_n 0 dX12_isHill_21 rfl rfl ?_))
    obtain ⟨oe10, b8, e10, H9⟩ := H7.2
    refine z_getP dX12_isHill_22 wf_X12_7 (by decide) (by decide) rfl oe10 (fun q => (by cases q.symm.trans e10)) (fun j q => ?_)
    cases q.symm.trans e10
    refine z_aload_n 0 dX12_isHill_25 rfl rfl (z_getI dX12_isHill_26 wf_X12_184 (by decide) (by decide) rfl H9.1 (z_iald dX12_isHill_29 H9.2.1 H9.2.2.1 (z_putI (g := g) (I := zU I a0 13 w5) (Q := P) dX12_isHill_30 wf_X12_187 (by decide) (by decide) rfl (Or.inl rfl) (zfit_int rfl) H9.2.2.2.1 (z_aload_n 0 dX12_isHill_33 rfl rfl (z_aload_n 0 dX12_isHill_34 rfl rfl ?_)))))
    obtain ⟨oe13, b11, e13, H12⟩ := H9.2.2.2.2
    refine z_getP dX12_isHill_35 wf_X12_7 (by decide) (by decide) rfl oe13 (fun q => (by cases q.symm.trans e13)) (fun j q => ?_)
    cases q.symm.trans e13
    refine z_aload_n 0 dX12_isHill_38 rfl rfl (z_getI dX12_isHill_39 wf_X12_184 (by decide) (by decide) rfl H12.1 (z_iconst (w := 1) dX12_isHill_42 (by decide) (z_iadd dX12_isHill_43 (z_iald dX12_isHill_44 H12.2.1 H12.2.2.1 (z_putI (g := g) (I := zU (zU I a0 13 w5) a0 14 ((zU I a0 13 w5) b8 ((zU I a0 13 w5) a0 13).toNatClampNeg)) (Q := P) dX12_isHill_45 wf_X12_190 (by decide) (by decide) rfl (Or.inl rfl) (zfit_int rfl) H12.2.2.2.1 (z_iconst (w := 1) dX12_isHill_48 (by decide) ?_))))))
    obtain ⟨rfl, rfl⟩ := H12.2.2.2.2
    exact z_zret dX12_isHill_49 rfl (Or.inr rfl) (by decide) (by decide)
  · have H14 := H3.2 q
    refine z_iconst (w := 0) dX12_isHill_9 (by decide) ?_
    obtain ⟨rfl, rfl⟩ := H14
    exact z_zret dX12_isHill_10 rfl (Or.inl rfl) (by decide) (by decide)
theorem eX12_isHill {g : zG} {I : Nat → Nat → Int32} {P : Nat → Nat → Option Nat} {r : Option Value} {h' : zH} {a0 : Nat} {x1 : Int32} (H : Zt none mX12_isHill 0 0 0 [(0, .ref a0), (1, .int x1)] [] (g, I, P) r h') : Cl mX12_isHill [.ref a0, .int x1] (g, I, P) r h' := Cl.of (by decide) (Nat.le_of_ble_eq_true rfl) H
theorem dX12_isWord_0 : decode cX12_isWord 0 = .ok (.iload_n 1, 1) := by decide +kernel
theorem dX12_isWord_1 : decode cX12_isWord 1 = .ok (.iconst 0, 1) := by decide +kernel
theorem dX12_isWord_2 : decode cX12_isWord 2 = .ok (.aload_n 0, 1) := by decide +kernel
theorem dX12_isWord_3 : decode cX12_isWord 3 = .ok (.getfield 190, 3) := by decide +kernel
theorem dX12_isWord_6 : decode cX12_isWord 6 = .ok (.iconst 1, 1) := by decide +kernel
theorem dX12_isWord_7 : decode cX12_isWord 7 = .ok (.isub, 1) := by decide +kernel
theorem dX12_isWord_8 : decode cX12_isWord 8 = .ok (.invokestatic 120, 3) := by decide +kernel
theorem dX12_isWord_11 : decode cX12_isWord 11 = .ok (.ireturn, 1) := by decide +kernel
set_option maxRecDepth 10000 in
theorem wX12_isWord_0 {g : zG} {I : Nat → Nat → Int32} {P : Nat → Nat → Option Nat} {r : Option Value} {h' : zH} {a0 : Nat} {x1 : Int32} (H : zk g a0 12 ∧ ∃ (w1 : Int32), Cl mX12_isIn [.int x1, .int 0, .int ((I a0 15) - 1)] (g, I, P) (some (.int w1)) (g, I, P) ∧ (w1 = 0 ∨ w1 = 1) ∧ r = some (.int w1) ∧ h' = (g, I, P)) : Zt none mX12_isWord 0 0 0 [(0, .ref a0), (1, .int x1)] [] (g, I, P) r h' := by
  refine z_iload_n 1 dX12_isWord_0 rfl (z_iconst (w := 0) dX12_isWord_1 (by decide) (z_aload_n 0 dX12_isWord_2 rfl rfl (z_getI dX12_isWord_3 wf_X12_190 (by decide) (by decide) rfl H.1 (z_iconst (w := 1) dX12_isWord_6 (by decide) (z_isub dX12_isWord_7 ?_)))))
  obtain ⟨w1, c2, H3⟩ := H.2
  refine z_stat (As := [.int x1, .int 0, .int ((I a0 15) - 1)]) (st := []) (r1 := (some (.int w1))) (h1 := (g, I, P)) dX12_isWord_8 kX12_isIn wm_X12_120 ⟨by decide, by decide⟩ rfl rfl (Nat.le_of_ble_eq_true rfl) (by decide) (by decide) c2 ?_
  obtain ⟨ob, rfl, rfl⟩ := H3
  exact z_zret dX12_isWord_11 rfl ob (by decide) (by decide)
theorem eX12_isWord {g : zG} {I : Nat → Nat → Int32} {P : Nat → Nat → Option Nat} {r : Option Value} {h' : zH} {a0 : Nat} {x1 : Int32} (H : Zt none mX12_isWord 0 0 0 [(0, .ref a0), (1, .int x1)] [] (g, I, P) r h') : Cl mX12_isWord [.ref a0, .int x1] (g, I, P) r h' := Cl.of (by decide) (Nat.le_of_ble_eq_true rfl) H
theorem dX12_isStone_0 : decode cX12_isStone 0 = .ok (.iload_n 1, 1) := by decide +kernel
theorem dX12_isStone_1 : decode cX12_isStone 1 = .ok (.iconst 0, 1) := by decide +kernel
theorem dX12_isStone_2 : decode cX12_isStone 2 = .ok (.aload_n 0, 1) := by decide +kernel
theorem dX12_isStone_3 : decode cX12_isStone 3 = .ok (.getfield 187, 3) := by decide +kernel
theorem dX12_isStone_6 : decode cX12_isStone 6 = .ok (.iconst 1, 1) := by decide +kernel
theorem dX12_isStone_7 : decode cX12_isStone 7 = .ok (.isub, 1) := by decide +kernel
theorem dX12_isStone_8 : decode cX12_isStone 8 = .ok (.invokestatic 120, 3) := by decide +kernel
theorem dX12_isStone_11 : decode cX12_isStone 11 = .ok (.ireturn, 1) := by decide +kernel
set_option maxRecDepth 10000 in
theorem wX12_isStone_0 {g : zG} {I : Nat → Nat → Int32} {P : Nat → Nat → Option Nat} {r : Option Value} {h' : zH} {a0 : Nat} {x1 : Int32} (H : zk g a0 12 ∧ ∃ (w1 : Int32), Cl mX12_isIn [.int x1, .int 0, .int ((I a0 14) - 1)] (g, I, P) (some (.int w1)) (g, I, P) ∧ (w1 = 0 ∨ w1 = 1) ∧ r = some (.int w1) ∧ h' = (g, I, P)) : Zt none mX12_isStone 0 0 0 [(0, .ref a0), (1, .int x1)] [] (g, I, P) r h' := by
  refine z_iload_n 1 dX12_isStone_0 rfl (z_iconst (w := 0) dX12_isStone_1 (by decide) (z_aload_n 0 dX12_isStone_2 rfl rfl (z_getI dX12_isStone_3 wf_X12_187 (by decide) (by decide) rfl H.1 (z_iconst (w := 1) dX12_isStone_6 (by decide) (z_isub dX12_isStone_7 ?_)))))
  obtain ⟨w1, c2, H3⟩ := H.2
  refine z_stat (As := [.int x1, .int 0, .int ((I a0 14) - 1)]) (st := []) (r1 := (some (.int w1))) (h1 := (g, I, P)) dX12_isStone_8 kX12_isIn wm_X12_120 ⟨by decide, by decide⟩ rfl rfl (Nat.le_of_ble_eq_true rfl) (by decide) (by decide) c2 ?_
  obtain ⟨ob, rfl, rfl⟩ := H3
  exact z_zret dX12_isStone_11 rfl ob (by decide) (by decide)
theorem eX12_isStone {g : zG} {I : Nat → Nat → Int32} {P : Nat → Nat → Option Nat} {r : Option Value} {h' : zH} {a0 : Nat} {x1 : Int32} (H : Zt none mX12_isStone 0 0 0 [(0, .ref a0), (1, .int x1)] [] (g, I, P) r h') : Cl mX12_isStone [.ref a0, .int x1] (g, I, P) r h' := Cl.of (by decide) (Nat.le_of_ble_eq_true rfl) H
theorem dX12_longOf_0 : decode cX12_longOf 0 = .ok (.aload_n 0, 1) := by decide +kernel
theorem dX12_longOf_1 : decode cX12_longOf 1 = .ok (.getfield 7, 3) := by decide +kernel
theorem dX12_longOf_4 : decode cX12_longOf 4 = .ok (.aload_n 0, 1) := by decide +kernel
theorem dX12_longOf_5 : decode cX12_longOf 5 = .ok (.getfield 184, 3) := by decide +kernel
theorem dX12_longOf_8 : decode cX12_longOf 8 = .ok (.iconst 2, 1) := by decide +kernel
theorem dX12_longOf_9 : decode cX12_longOf 9 = .ok (.iadd, 1) := by decide +kernel
theorem dX12_longOf_10 : decode cX12_longOf 10 = .ok (.bipush 8, 2) := by decide +kernel
theorem dX12_longOf_12 : decode cX12_longOf 12 = .ok (.iload_n 1, 1) := by decide +kernel
theorem dX12_longOf_13 : decode cX12_longOf 13 = .ok (.imul, 1) := by decide +kernel
theorem dX12_longOf_14 : decode cX12_longOf 14 = .ok (.iadd, 1) := by decide +kernel
theorem dX12_longOf_15 : decode cX12_longOf 15 = .ok (.iaload, 1) := by decide +kernel
theorem dX12_longOf_16 : decode cX12_longOf 16 = .ok (.ireturn, 1) := by decide +kernel
set_option maxRecDepth 10000 in
theorem wX12_longOf_0 {g : zG} {I : Nat → Nat → Int32} {P : Nat → Nat → Option Nat} {r : Option Value} {h' : zH} {a0 : Nat} {x1 : Int32} (H : zk g a0 12 ∧ ∃ b1, P a0 0 = some b1 ∧ zk g a0 12 ∧ zk g b1 13 ∧ vp_in (((I a0 13) + 2) + (8 * x1)) (g.2.2 b1) ∧ r = some (.int (I b1 (((I a0 13) + 2) + (8 * x1)).toNatClampNeg)) ∧ h' = (g, I, P)) : Zt none mX12_longOf 0 0 0 [(0, .ref a0), (1, .int x1)] [] (g, I, P) r h' := by
  refine z_aload_n 0 dX12_longOf_0 rfl rfl ?_
  obtain ⟨oe3, b1, e3, H2⟩ := H
  refine z_getP dX12_longOf_1 wf_X12_7 (by decide) (by decide) rfl oe3 (fun q => (by cases q.symm.trans e3)) (fun j q => ?_)
  cases q.symm.trans e3
  refine z_aload_n 0 dX12_longOf_4 rfl rfl (z_getI dX12_longOf_5 wf_X12_184 (by decide) (by decide) rfl H2.1 (z_iconst (w := 2) dX12_longOf_8 (by decide) (z_iadd dX12_longOf_9 (z_bipush (w := 8) dX12_longOf_10 (by decide) (z_iload_n 1 dX12_longOf_12 rfl (z_imul dX12_longOf_13 (z_iadd dX12_longOf_14 (z_iald dX12_longOf_15 H2.2.1 H2.2.2.1 ?_))))))))
  obtain ⟨rfl, rfl⟩ := H2.2.2.2
  exact z_iret dX12_longOf_16 rfl (by decide) (by decide)
theorem eX12_longOf {g : zG} {I : Nat → Nat → Int32} {P : Nat → Nat → Option Nat} {r : Option Value} {h' : zH} {a0 : Nat} {x1 : Int32} (H : Zt none mX12_longOf 0 0 0 [(0, .ref a0), (1, .int x1)] [] (g, I, P) r h') : Cl mX12_longOf [.ref a0, .int x1] (g, I, P) r h' := Cl.of (by decide) (Nat.le_of_ble_eq_true rfl) H
theorem dX12_oftenOf_0 : decode cX12_oftenOf 0 = .ok (.aload_n 0, 1) := by decide +kernel
theorem dX12_oftenOf_1 : decode cX12_oftenOf 1 = .ok (.getfield 7, 3) := by decide +kernel
theorem dX12_oftenOf_4 : decode cX12_oftenOf 4 = .ok (.aload_n 0, 1) := by decide +kernel
theorem dX12_oftenOf_5 : decode cX12_oftenOf 5 = .ok (.getfield 184, 3) := by decide +kernel
theorem dX12_oftenOf_8 : decode cX12_oftenOf 8 = .ok (.iconst 2, 1) := by decide +kernel
theorem dX12_oftenOf_9 : decode cX12_oftenOf 9 = .ok (.iadd, 1) := by decide +kernel
theorem dX12_oftenOf_10 : decode cX12_oftenOf 10 = .ok (.bipush 8, 2) := by decide +kernel
theorem dX12_oftenOf_12 : decode cX12_oftenOf 12 = .ok (.iload_n 1, 1) := by decide +kernel
theorem dX12_oftenOf_13 : decode cX12_oftenOf 13 = .ok (.imul, 1) := by decide +kernel
theorem dX12_oftenOf_14 : decode cX12_oftenOf 14 = .ok (.iadd, 1) := by decide +kernel
theorem dX12_oftenOf_15 : decode cX12_oftenOf 15 = .ok (.iconst 1, 1) := by decide +kernel
theorem dX12_oftenOf_16 : decode cX12_oftenOf 16 = .ok (.iadd, 1) := by decide +kernel
theorem dX12_oftenOf_17 : decode cX12_oftenOf 17 = .ok (.iaload, 1) := by decide +kernel
theorem dX12_oftenOf_18 : decode cX12_oftenOf 18 = .ok (.ireturn, 1) := by decide +kernel
set_option maxRecDepth 10000 in
theorem wX12_oftenOf_0 {g : zG} {I : Nat → Nat → Int32} {P : Nat → Nat → Option Nat} {r : Option Value} {h' : zH} {a0 : Nat} {x1 : Int32} (H : zk g a0 12 ∧ ∃ b1, P a0 0 = some b1 ∧ zk g a0 12 ∧ zk g b1 13 ∧ vp_in ((((I a0 13) + 2) + (8 * x1)) + 1) (g.2.2 b1) ∧ r = some (.int (I b1 ((((I a0 13) + 2) + (8 * x1)) + 1).toNatClampNeg)) ∧ h' = (g, I, P)) : Zt none mX12_oftenOf 0 0 0 [(0, .ref a0), (1, .int x1)] [] (g, I, P) r h' := by
  refine z_aload_n 0 dX12_oftenOf_0 rfl rfl ?_
  obtain ⟨oe3, b1, e3, H2⟩ := H
  refine z_getP dX12_oftenOf_1 wf_X12_7 (by decide) (by decide) rfl oe3 (fun q => (by cases q.symm.trans e3)) (fun j q => ?_)
  cases q.symm.trans e3
  refine z_aload_n 0 dX12_oftenOf_4 rfl rfl (z_getI dX12_oftenOf_5 wf_X12_184 (by decide) (by decide) rfl H2.1 (z_iconst (w := 2) dX12_oftenOf_8 (by decide) (z_iadd dX12_oftenOf_9 (z_bipush (w := 8) dX12_oftenOf_10 (by decide) (z_iload_n 1 dX12_oftenOf_12 rfl (z_imul dX12_oftenOf_13 (z_iadd dX12_oftenOf_14 (z_iconst (w := 1) dX12_oftenOf_15 (by decide) (z_iadd dX12_oftenOf_16 (z_iald dX12_oftenOf_17 H2.2.1 H2.2.2.1 ?_))))))))))
  obtain ⟨rfl, rfl⟩ := H2.2.2.2
  exact z_iret dX12_oftenOf_18 rfl (by decide) (by decide)
theorem eX12_oftenOf {g : zG} {I : Nat → Nat → Int32} {P : Nat → Nat → Option Nat} {r : Option Value} {h' : zH} {a0 : Nat} {x1 : Int32} (H : Zt none mX12_oftenOf 0 0 0 [(0, .ref a0), (1, .int x1)] [] (g, I, P) r h') : Cl mX12_oftenOf [.ref a0, .int x1] (g, I, P) r h' := Cl.of (by decide) (Nat.le_of_ble_eq_true rfl) H
theorem dX12_letterOf_0 : decode cX12_letterOf 0 = .ok (.aload_n 0, 1) := by decide +kernel
theorem dX12_letterOf_1 : decode cX12_letterOf 1 = .ok (.getfield 7, 3) := by decide +kernel
theorem dX12_letterOf_4 : decode cX12_letterOf 4 = .ok (.aload_n 0, 1) := by decide +kernel
theorem dX12_letterOf_5 : decode cX12_letterOf 5 = .ok (.getfield 184, 3) := by decide +kernel
theorem dX12_letterOf_8 : decode cX12_letterOf 8 = .ok (.iconst 2, 1) := by decide +kernel
theorem dX12_letterOf_9 : decode cX12_letterOf 9 = .ok (.iadd, 1) := by decide +kernel
theorem dX12_letterOf_10 : decode cX12_letterOf 10 = .ok (.bipush 8, 2) := by decide +kernel
theorem dX12_letterOf_12 : decode cX12_letterOf 12 = .ok (.iload_n 1, 1) := by decide +kernel
theorem dX12_letterOf_13 : decode cX12_letterOf 13 = .ok (.imul, 1) := by decide +kernel
theorem dX12_letterOf_14 : decode cX12_letterOf 14 = .ok (.iadd, 1) := by decide +kernel
theorem dX12_letterOf_15 : decode cX12_letterOf 15 = .ok (.iconst 2, 1) := by decide +kernel
theorem dX12_letterOf_16 : decode cX12_letterOf 16 = .ok (.iadd, 1) := by decide +kernel
theorem dX12_letterOf_17 : decode cX12_letterOf 17 = .ok (.iload_n 2, 1) := by decide +kernel
theorem dX12_letterOf_18 : decode cX12_letterOf 18 = .ok (.iadd, 1) := by decide +kernel
theorem dX12_letterOf_19 : decode cX12_letterOf 19 = .ok (.iaload, 1) := by decide +kernel
theorem dX12_letterOf_20 : decode cX12_letterOf 20 = .ok (.ireturn, 1) := by decide +kernel
set_option maxRecDepth 10000 in
theorem wX12_letterOf_0 {g : zG} {I : Nat → Nat → Int32} {P : Nat → Nat → Option Nat} {r : Option Value} {h' : zH} {a0 : Nat} {x1 : Int32} {x2 : Int32} (H : zk g a0 12 ∧ ∃ b1, P a0 0 = some b1 ∧ zk g a0 12 ∧ zk g b1 13 ∧ vp_in (((((I a0 13) + 2) + (8 * x1)) + 2) + x2) (g.2.2 b1) ∧ r = some (.int (I b1 (((((I a0 13) + 2) + (8 * x1)) + 2) + x2).toNatClampNeg)) ∧ h' = (g, I, P)) : Zt none mX12_letterOf 0 0 0 [(0, .ref a0), (1, .int x1), (2, .int x2)] [] (g, I, P) r h' := by
  refine z_aload_n 0 dX12_letterOf_0 rfl rfl ?_
  obtain ⟨oe3, b1, e3, H2⟩ := H
  refine z_getP dX12_letterOf_1 wf_X12_7 (by decide) (by decide) rfl oe3 (fun q => (by cases q.symm.trans e3)) (fun j q => ?_)
  cases q.symm.trans e3
  refine z_aload_n 0 dX12_letterOf_4 rfl rfl (z_getI dX12_letterOf_5 wf_X12_184 (by decide) (by decide) rfl H2.1 (z_iconst (w := 2) dX12_letterOf_8 (by decide) (z_iadd dX12_letterOf_9 (z_bipush (w := 8) dX12_letterOf_10 (by decide) (z_iload_n 1 dX12_letterOf_12 rfl (z_imul dX12_letterOf_13 (z_iadd dX12_letterOf_14 (z_iconst (w := 2) dX12_letterOf_15 (by decide) (z_iadd dX12_letterOf_16 (z_iload_n 2 dX12_letterOf_17 rfl (z_iadd dX12_letterOf_18 (z_iald dX12_letterOf_19 H2.2.1 H2.2.2.1 ?_))))))))))))
  obtain ⟨rfl, rfl⟩ := H2.2.2.2
  exact z_iret dX12_letterOf_20 rfl (by decide) (by decide)
theorem eX12_letterOf {g : zG} {I : Nat → Nat → Int32} {P : Nat → Nat → Option Nat} {r : Option Value} {h' : zH} {a0 : Nat} {x1 : Int32} {x2 : Int32} (H : Zt none mX12_letterOf 0 0 0 [(0, .ref a0), (1, .int x1), (2, .int x2)] [] (g, I, P) r h') : Cl mX12_letterOf [.ref a0, .int x1, .int x2] (g, I, P) r h' := Cl.of (by decide) (Nat.le_of_ble_eq_true rfl) H
theorem dX12_everyWord_0 : decode cX12_everyWord 0 = .ok (.iconst 1, 1) := by decide +kernel
theorem dX12_everyWord_1 : decode cX12_everyWord 1 = .ok (.aload_n 0, 1) := by decide +kernel
theorem dX12_everyWord_2 : decode cX12_everyWord 2 = .ok (.getfield 190, 3) := by decide +kernel
theorem dX12_everyWord_5 : decode cX12_everyWord 5 = .ok (.ishl, 1) := by decide +kernel
theorem dX12_everyWord_6 : decode cX12_everyWord 6 = .ok (.iconst 1, 1) := by decide +kernel
theorem dX12_everyWord_7 : decode cX12_everyWord 7 = .ok (.isub, 1) := by decide +kernel
theorem dX12_everyWord_8 : decode cX12_everyWord 8 = .ok (.ireturn, 1) := by decide +kernel
set_option maxRecDepth 10000 in
theorem wX12_everyWord_0 {g : zG} {I : Nat → Nat → Int32} {P : Nat → Nat → Option Nat} {r : Option Value} {h' : zH} {a0 : Nat} (H : zk g a0 12 ∧ r = some (.int (((1 : Int32) <<< ((I a0 15) &&& 31)) - 1)) ∧ h' = (g, I, P)) : Zt none mX12_everyWord 0 0 0 [(0, .ref a0)] [] (g, I, P) r h' := by
  refine z_iconst (w := 1) dX12_everyWord_0 (by decide) (z_aload_n 0 dX12_everyWord_1 rfl rfl (z_getI dX12_everyWord_2 wf_X12_190 (by decide) (by decide) rfl H.1 (z_ishl dX12_everyWord_5 (z_iconst (w := 1) dX12_everyWord_6 (by decide) (z_isub dX12_everyWord_7 ?_)))))
  obtain ⟨rfl, rfl⟩ := H.2
  exact z_iret dX12_everyWord_8 rfl (by decide) (by decide)
theorem eX12_everyWord {g : zG} {I : Nat → Nat → Int32} {P : Nat → Nat → Option Nat} {r : Option Value} {h' : zH} {a0 : Nat} (H : Zt none mX12_everyWord 0 0 0 [(0, .ref a0)] [] (g, I, P) r h') : Cl mX12_everyWord [.ref a0] (g, I, P) r h' := Cl.of (by decide) (Nat.le_of_ble_eq_true rfl) H
theorem dX12_behind_0 : decode cX12_behind 0 = .ok (.iload_n 1, 1) := by decide +kernel
theorem dX12_behind_1 : decode cX12_behind 1 = .ok (.iconst (-1), 1) := by decide +kernel
theorem dX12_behind_2 : decode cX12_behind 2 = .ok (.if_icmp .eq 18, 3) := by decide +kernel
theorem dX12_behind_5 : decode cX12_behind 5 = .ok (.aload_n 0, 1) := by decide +kernel
theorem dX12_behind_6 : decode cX12_behind 6 = .ok (.getfield 7, 3) := by decide +kernel
theorem dX12_behind_9 : decode cX12_behind 9 = .ok (.aload_n 0, 1) := by decide +kernel
theorem dX12_behind_10 : decode cX12_behind 10 = .ok (.getfield 184, 3) := by decide +kernel
theorem dX12_behind_13 : decode cX12_behind 13 = .ok (.bipush 98, 2) := by decide +kernel
theorem dX12_behind_15 : decode cX12_behind 15 = .ok (.iadd, 1) := by decide +kernel
theorem dX12_behind_16 : decode cX12_behind 16 = .ok (.iaload, 1) := by decide +kernel
theorem dX12_behind_17 : decode cX12_behind 17 = .ok (.ifCond .ne 10, 3) := by decide +kernel
theorem dX12_behind_20 : decode cX12_behind 20 = .ok (.aload_n 0, 1) := by decide +kernel
theorem dX12_behind_21 : decode cX12_behind 21 = .ok (.invokevirtual 193, 3) := by decide +kernel
theorem dX12_behind_24 : decode cX12_behind 24 = .ok (.goto 17, 3) := by decide +kernel
theorem dX12_behind_27 : decode cX12_behind 27 = .ok (.aload_n 0, 1) := by decide +kernel
theorem dX12_behind_28 : decode cX12_behind 28 = .ok (.getfield 7, 3) := by decide +kernel
theorem dX12_behind_31 : decode cX12_behind 31 = .ok (.aload_n 0, 1) := by decide +kernel
theorem dX12_behind_32 : decode cX12_behind 32 = .ok (.getfield 184, 3) := by decide +kernel
theorem dX12_behind_35 : decode cX12_behind 35 = .ok (.bipush 82, 2) := by decide +kernel
theorem dX12_behind_37 : decode cX12_behind 37 = .ok (.iadd, 1) := by decide +kernel
theorem dX12_behind_38 : decode cX12_behind 38 = .ok (.iload_n 1, 1) := by decide +kernel
theorem dX12_behind_39 : decode cX12_behind 39 = .ok (.iadd, 1) := by decide +kernel
theorem dX12_behind_40 : decode cX12_behind 40 = .ok (.iaload, 1) := by decide +kernel
theorem dX12_behind_41 : decode cX12_behind 41 = .ok (.ireturn, 1) := by decide +kernel
set_option maxRecDepth 10000 in
theorem wX12_behind_0 {g : zG} {I : Nat → Nat → Int32} {P : Nat → Nat → Option Nat} {r : Option Value} {h' : zH} {a0 : Nat} {x1 : Int32} (H : ((x1 = (-1)) → zk g a0 12 ∧ ∃ (w2 : Int32), Cl mX12_everyWord [.ref a0] (g, I, P) (some (.int w2)) (g, I, P) ∧ r = some (.int w2) ∧ h' = (g, I, P)) ∧ ((¬ x1 = (-1)) → zk g a0 12 ∧ ∃ b6, P a0 0 = some b6 ∧ zk g a0 12 ∧ zk g b6 13 ∧ vp_in ((I a0 13) + 98) (g.2.2 b6) ∧ ((¬ I b6 ((I a0 13) + 98).toNatClampNeg = 0) → zk g a0 12 ∧ ∃ b10, P a0 0 = some b10 ∧ zk g a0 12 ∧ zk g b10 13 ∧ vp_in (((I a0 13) + 82) + x1) (g.2.2 b10) ∧ r = some (.int (I b10 (((I a0 13) + 82) + x1).toNatClampNeg)) ∧ h' = (g, I, P)) ∧ ((I b6 ((I a0 13) + 98).toNatClampNeg = 0) → zk g a0 12 ∧ ∃ (w14 : Int32), Cl mX12_everyWord [.ref a0] (g, I, P) (some (.int w14)) (g, I, P) ∧ r = some (.int w14) ∧ h' = (g, I, P)))) : Zt none mX12_behind 0 0 0 [(0, .ref a0), (1, .int x1)] [] (g, I, P) r h' := by
  refine z_iload_n 1 dX12_behind_0 rfl (z_iconst (w := (-1)) dX12_behind_1 (by decide) ?_)
  refine z_icmp_eq (t := 20) dX12_behind_2 (by decide) (fun q => ?_) (fun q => ?_)
  · have H1 := H.1 q
    refine z_aload_n 0 dX12_behind_20 rfl rfl ?_
    obtain ⟨oc3, w2, c3, H4⟩ := H1
    refine z_virt (As := []) (st := []) (r1 := (some (.int w2))) (h1 := (g, I, P)) dX12_behind_21 kX12_everyWord wm_X12_193 ⟨by decide, by decide⟩ rfl rfl (Nat.le_of_ble_eq_true rfl) (by decide) (by decide) oc3 c3 ?_
    refine z_goto (t := 41) dX12_behind_24 (by decide) ?_
    obtain ⟨rfl, rfl⟩ := H4
    exact z_iret dX12_behind_41 rfl (by decide) (by decide)
  · have H5 := H.2 q
    refine z_aload_n 0 dX12_behind_5 rfl rfl ?_
    obtain ⟨oe8, b6, e8, H7⟩ := H5
    refine z_getP dX12_behind_6 wf_X12_7 (by decide) (by decide) rfl oe8 (fun q => (by cases q.symm.trans e8)) (fun j q => ?_)
    cases q.symm.trans e8
    refine z_aload_n 0 dX12_behind_9 rfl rfl (z_getI dX12_behind_10 wf_X12_184 (by decide) (by decide) rfl H7.1 (z_bipush (w := 98) dX12_behind_13 (by decide) (z_iadd dX12_behind_15 (z_iald dX12_behind_16 H7.2.1 H7.2.2.1 ?_))))
    refine z_if_ne (t := 27) dX12_behind_17 (by decide) (fun q => ?_) (fun q => ?_)
    · have H9 := H7.2.2.2.1 q
      refine z_aload_n 0 dX12_behind_27 rfl rfl ?_
      obtain ⟨oe12, b10, e12, H11⟩ := H9
      refine z_getP dX12_behind_28 wf_X12_7 (by decide) (by decide) rfl oe12 (fun q => (by cases q.symm.trans e12)) (fun j q => ?_)
      cases q.symm.trans e12
      refine z_aload_n 0 dX12_behind_31 rfl rfl (z_getI dX12_behind_32 wf_X12_184 (by decide) (by decide) rfl H11.1 (z_bipush (w := 82) dX12_behind_35 (by decide) (z_iadd dX12_behind_37 (z_iload_n 1 dX12_behind_38 rfl (z_iadd dX12_behind_39 (z_iald dX12_behind_40 H11.2.1 H11.2.2.1 ?_))))))
      obtain ⟨rfl, rfl⟩ := H11.2.2.2
      exact z_iret dX12_behind_41 rfl (by decide) (by decide)
    · have H13 := H7.2.2.2.2 q
      refine z_aload_n 0 dX12_behind_20 rfl rfl ?_
      obtain ⟨oc15, w14, c15, H16⟩ := H13
      refine z_virt (As := []) (st := []) (r1 := (some (.int w14))) (h1 := (g, I, P)) dX12_behind_21 kX12_everyWord wm_X12_193 ⟨by decide, by decide⟩ rfl rfl (Nat.le_of_ble_eq_true rfl) (by decide) (by decide) oc15 c15 ?_
      refine z_goto (t := 41) dX12_behind_24 (by decide) ?_
      obtain ⟨rfl, rfl⟩ := H16
      exact z_iret dX12_behind_41 rfl (by decide) (by decide)
theorem eX12_behind {g : zG} {I : Nat → Nat → Int32} {P : Nat → Nat → Option Nat} {r : Option Value} {h' : zH} {a0 : Nat} {x1 : Int32} (H : Zt none mX12_behind 0 0 0 [(0, .ref a0), (1, .int x1)] [] (g, I, P) r h') : Cl mX12_behind [.ref a0, .int x1] (g, I, P) r h' := Cl.of (by decide) (Nat.le_of_ble_eq_true rfl) H
theorem dX12_answersTo_0 : decode cX12_answersTo 0 = .ok (.aload_n 0, 1) := by decide +kernel
theorem dX12_answersTo_1 : decode cX12_answersTo 1 = .ok (.getfield 7, 3) := by decide +kernel
theorem dX12_answersTo_4 : decode cX12_answersTo 4 = .ok (.aload_n 0, 1) := by decide +kernel
theorem dX12_answersTo_5 : decode cX12_answersTo 5 = .ok (.getfield 184, 3) := by decide +kernel
theorem dX12_answersTo_8 : decode cX12_answersTo 8 = .ok (.bipush 92, 2) := by decide +kernel
theorem dX12_answersTo_10 : decode cX12_answersTo 10 = .ok (.iadd, 1) := by decide +kernel
theorem dX12_answersTo_11 : decode cX12_answersTo 11 = .ok (.iload_n 1, 1) := by decide +kernel
theorem dX12_answersTo_12 : decode cX12_answersTo 12 = .ok (.iadd, 1) := by decide +kernel
theorem dX12_answersTo_13 : decode cX12_answersTo 13 = .ok (.iaload, 1) := by decide +kernel
theorem dX12_answersTo_14 : decode cX12_answersTo 14 = .ok (.ireturn, 1) := by decide +kernel
set_option maxRecDepth 10000 in
theorem wX12_answersTo_0 {g : zG} {I : Nat → Nat → Int32} {P : Nat → Nat → Option Nat} {r : Option Value} {h' : zH} {a0 : Nat} {x1 : Int32} (H : zk g a0 12 ∧ ∃ b1, P a0 0 = some b1 ∧ zk g a0 12 ∧ zk g b1 13 ∧ vp_in (((I a0 13) + 92) + x1) (g.2.2 b1) ∧ r = some (.int (I b1 (((I a0 13) + 92) + x1).toNatClampNeg)) ∧ h' = (g, I, P)) : Zt none mX12_answersTo 0 0 0 [(0, .ref a0), (1, .int x1)] [] (g, I, P) r h' := by
  refine z_aload_n 0 dX12_answersTo_0 rfl rfl ?_
  obtain ⟨oe3, b1, e3, H2⟩ := H
  refine z_getP dX12_answersTo_1 wf_X12_7 (by decide) (by decide) rfl oe3 (fun q => (by cases q.symm.trans e3)) (fun j q => ?_)
  cases q.symm.trans e3
  refine z_aload_n 0 dX12_answersTo_4 rfl rfl (z_getI dX12_answersTo_5 wf_X12_184 (by decide) (by decide) rfl H2.1 (z_bipush (w := 92) dX12_answersTo_8 (by decide) (z_iadd dX12_answersTo_10 (z_iload_n 1 dX12_answersTo_11 rfl (z_iadd dX12_answersTo_12 (z_iald dX12_answersTo_13 H2.2.1 H2.2.2.1 ?_))))))
  obtain ⟨rfl, rfl⟩ := H2.2.2.2
  exact z_iret dX12_answersTo_14 rfl (by decide) (by decide)
theorem eX12_answersTo {g : zG} {I : Nat → Nat → Int32} {P : Nat → Nat → Option Nat} {r : Option Value} {h' : zH} {a0 : Nat} {x1 : Int32} (H : Zt none mX12_answersTo 0 0 0 [(0, .ref a0), (1, .int x1)] [] (g, I, P) r h') : Cl mX12_answersTo [.ref a0, .int x1] (g, I, P) r h' := Cl.of (by decide) (Nat.le_of_ble_eq_true rfl) H
theorem dX12_holds_0 : decode cX12_holds 0 = .ok (.iload_n 0, 1) := by decide +kernel
theorem dX12_holds_1 : decode cX12_holds 1 = .ok (.iload_n 1, 1) := by decide +kernel
theorem dX12_holds_2 : decode cX12_holds 2 = .ok (.ishr, 1) := by decide +kernel
theorem dX12_holds_3 : decode cX12_holds 3 = .ok (.iconst 1, 1) := by decide +kernel
theorem dX12_holds_4 : decode cX12_holds 4 = .ok (.iand, 1) := by decide +kernel
theorem dX12_holds_5 : decode cX12_holds 5 = .ok (.iconst 1, 1) := by decide +kernel
theorem dX12_holds_6 : decode cX12_holds 6 = .ok (.if_icmp .ne 7, 3) := by decide +kernel
theorem dX12_holds_9 : decode cX12_holds 9 = .ok (.iconst 1, 1) := by decide +kernel
theorem dX12_holds_10 : decode cX12_holds 10 = .ok (.goto 4, 3) := by decide +kernel
theorem dX12_holds_13 : decode cX12_holds 13 = .ok (.iconst 0, 1) := by decide +kernel
theorem dX12_holds_14 : decode cX12_holds 14 = .ok (.ireturn, 1) := by decide +kernel
set_option maxRecDepth 10000 in
theorem wX12_holds_0 {g : zG} {I : Nat → Nat → Int32} {P : Nat → Nat → Option Nat} {r : Option Value} {h' : zH} {x0 : Int32} {x1 : Int32} (H : ((¬ ((x0 >>> (x1 &&& 31)) &&& 1) = 1) → r = some (.int 0) ∧ h' = (g, I, P)) ∧ (((x0 >>> (x1 &&& 31)) &&& 1 = 1) → r = some (.int 1) ∧ h' = (g, I, P))) : Zt none mX12_holds 0 0 0 [(0, .int x0), (1, .int x1)] [] (g, I, P) r h' := by
  refine z_iload_n 0 dX12_holds_0 rfl (z_iload_n 1 dX12_holds_1 rfl (z_ishr dX12_holds_2 (z_iconst (w := 1) dX12_holds_3 (by decide) (z_iand dX12_holds_4 (z_iconst (w := 1) dX12_holds_5 (by decide) ?_)))))
  refine z_icmp_ne (t := 13) dX12_holds_6 (by decide) (fun q => ?_) (fun q => ?_)
  · have H1 := H.1 q
    refine z_iconst (w := 0) dX12_holds_13 (by decide) ?_
    obtain ⟨rfl, rfl⟩ := H1
    exact z_zret dX12_holds_14 rfl (Or.inl rfl) (by decide) (by decide)
  · have H2 := H.2 q
    refine z_iconst (w := 1) dX12_holds_9 (by decide) (z_goto (t := 14) dX12_holds_10 (by decide) ?_)
    obtain ⟨rfl, rfl⟩ := H2
    exact z_zret dX12_holds_14 rfl (Or.inr rfl) (by decide) (by decide)
theorem eX12_holds {g : zG} {I : Nat → Nat → Int32} {P : Nat → Nat → Option Nat} {r : Option Value} {h' : zH} {x0 : Int32} {x1 : Int32} (H : Zt none mX12_holds 0 0 0 [(0, .int x0), (1, .int x1)] [] (g, I, P) r h') : Cl mX12_holds [.int x0, .int x1] (g, I, P) r h' := Cl.of (by decide) (Nat.le_of_ble_eq_true rfl) H
theorem dX12_bitsOf_0 : decode cX12_bitsOf 0 = .ok (.iconst 0, 1) := by decide +kernel
theorem dX12_bitsOf_1 : decode cX12_bitsOf 1 = .ok (.istore_n 1, 1) := by decide +kernel
theorem dX12_bitsOf_2 : decode cX12_bitsOf 2 = .ok (.iconst 0, 1) := by decide +kernel
theorem dX12_bitsOf_3 : decode cX12_bitsOf 3 = .ok (.istore_n 2, 1) := by decide +kernel
theorem dX12_bitsOf_4 : decode cX12_bitsOf 4 = .ok (.iload_n 2, 1) := by decide +kernel
theorem dX12_bitsOf_5 : decode cX12_bitsOf 5 = .ok (.bipush 12, 2) := by decide +kernel
theorem dX12_bitsOf_7 : decode cX12_bitsOf 7 = .ok (.if_icmp .ge 17, 3) := by decide +kernel
theorem dX12_bitsOf_10 : decode cX12_bitsOf 10 = .ok (.iload_n 1, 1) := by decide +kernel
theorem dX12_bitsOf_11 : decode cX12_bitsOf 11 = .ok (.iload_n 0, 1) := by decide +kernel
theorem dX12_bitsOf_12 : decode cX12_bitsOf 12 = .ok (.iload_n 2, 1) := by decide +kernel
theorem dX12_bitsOf_13 : decode cX12_bitsOf 13 = .ok (.ishr, 1) := by decide +kernel
theorem dX12_bitsOf_14 : decode cX12_bitsOf 14 = .ok (.iconst 1, 1) := by decide +kernel
theorem dX12_bitsOf_15 : decode cX12_bitsOf 15 = .ok (.iand, 1) := by decide +kernel
theorem dX12_bitsOf_16 : decode cX12_bitsOf 16 = .ok (.iadd, 1) := by decide +kernel
theorem dX12_bitsOf_17 : decode cX12_bitsOf 17 = .ok (.istore_n 1, 1) := by decide +kernel
theorem dX12_bitsOf_18 : decode cX12_bitsOf 18 = .ok (.iinc 2 1, 3) := by decide +kernel
theorem dX12_bitsOf_21 : decode cX12_bitsOf 21 = .ok (.goto (-17), 3) := by decide +kernel
theorem dX12_bitsOf_24 : decode cX12_bitsOf 24 = .ok (.iload_n 1, 1) := by decide +kernel
theorem dX12_bitsOf_25 : decode cX12_bitsOf 25 = .ok (.ireturn, 1) := by decide +kernel
set_option maxRecDepth 10000 in
theorem wX12_bitsOf_0 {g : zG} {I : Nat → Nat → Int32} {P : Nat → Nat → Option Nat} {r : Option Value} {h' : zH} {x0 : Int32} (H : Zt none mX12_bitsOf 0 0 4 [(0, .int x0), (1, .int 0), (2, .int 0)] [] (g, I, P) r h') : Zt none mX12_bitsOf 0 0 0 [(0, .int x0)] [] (g, I, P) r h' := by
  refine z_iconst (w := 0) dX12_bitsOf_0 (by decide) (z_istore_n (lv' := [(1, .int 0), (0, .int x0)]) dX12_bitsOf_1 (by decide) rfl (z_iconst (w := 0) dX12_bitsOf_2 (by decide) (z_istore_n (lv' := [(2, .int 0), (1, .int 0), (0, .int x0)]) dX12_bitsOf_3 (by decide) rfl ?_)))
  exact z_less [2, 1, 0] rfl H
theorem eX12_bitsOf {g : zG} {I : Nat → Nat → Int32} {P : Nat → Nat → Option Nat} {r : Option Value} {h' : zH} {x0 : Int32} (H : Zt none mX12_bitsOf 0 0 0 [(0, .int x0)] [] (g, I, P) r h') : Cl mX12_bitsOf [.int x0] (g, I, P) r h' := Cl.of (by decide) (Nat.le_of_ble_eq_true rfl) H
set_option maxRecDepth 10000 in
theorem wX12_bitsOf_4 {g : zG} {I : Nat → Nat → Int32} {P : Nat → Nat → Option Nat} {r : Option Value} {h' : zH} {x0 : Int32} {x1 : Int32} {x2 : Int32} (H : ((12 ≤ x2) → r = some (.int x1) ∧ h' = (g, I, P)) ∧ ((¬ 12 ≤ x2) → ∀ y3 : Int32, y3 = x1 + ((x0 >>> (x2 &&& 31)) &&& 1) → Zt none mX12_bitsOf 0 0 4 [(0, .int x0), (1, .int y3), (2, .int (x2 + 1))] [] (g, I, P) r h')) : Zt none mX12_bitsOf 0 0 4 [(0, .int x0), (1, .int x1), (2, .int x2)] [] (g, I, P) r h' := by
  refine z_iload_n 2 dX12_bitsOf_4 rfl (z_bipush (w := 12) dX12_bitsOf_5 (by decide) ?_)
  refine z_icmp_ge (t := 24) dX12_bitsOf_7 (by decide) (fun q => ?_) (fun q => ?_)
  · have H1 := H.1 q
    refine z_iload_n 1 dX12_bitsOf_24 rfl ?_
    obtain ⟨rfl, rfl⟩ := H1
    exact z_iret dX12_bitsOf_25 rfl (by decide) (by decide)
  · have H2 := H.2 q
    refine z_iload_n 1 dX12_bitsOf_10 rfl (z_iload_n 0 dX12_bitsOf_11 rfl (z_iload_n 2 dX12_bitsOf_12 rfl (z_ishr dX12_bitsOf_13 (z_iconst (w := 1) dX12_bitsOf_14 (by decide) (z_iand dX12_bitsOf_15 (z_iadd dX12_bitsOf_16 ?_))))))
    refine z_nm (fun y3 e_y3 => ?_)
    have H4 := H2 y3 e_y3
    refine z_istore_n (lv' := [(1, .int y3), (0, .int x0), (2, .int x2)]) dX12_bitsOf_17 (by decide) rfl (z_iinc (y := x2 + 1) (lv' := [(2, .int (x2 + 1)), (1, .int y3), (0, .int x0)]) 2 dX12_bitsOf_18 rfl rfl (by decide) rfl (z_goto (t := 4) dX12_bitsOf_21 (by decide) ?_))
    exact z_less [2, 1, 0] rfl H4
theorem dX12_hill_0 : decode cX12_hill 0 = .ok (.aload_n 0, 1) := by decide +kernel
theorem dX12_hill_1 : decode cX12_hill 1 = .ok (.iload_n 1, 1) := by decide +kernel
theorem dX12_hill_2 : decode cX12_hill 2 = .ok (.invokevirtual 196, 3) := by decide +kernel
theorem dX12_hill_5 : decode cX12_hill 5 = .ok (.ifCond .ne 5, 3) := by decide +kernel
theorem dX12_hill_8 : decode cX12_hill 8 = .ok (.iconst (-1), 1) := by decide +kernel
theorem dX12_hill_9 : decode cX12_hill 9 = .ok (.ireturn, 1) := by decide +kernel
theorem dX12_hill_10 : decode cX12_hill 10 = .ok (.iload_n 2, 1) := by decide +kernel
theorem dX12_hill_11 : decode cX12_hill 11 = .ok (.iconst 0, 1) := by decide +kernel
theorem dX12_hill_12 : decode cX12_hill 12 = .ok (.iconst 1, 1) := by decide +kernel
theorem dX12_hill_13 : decode cX12_hill 13 = .ok (.invokestatic 120, 3) := by decide +kernel
theorem dX12_hill_16 : decode cX12_hill 16 = .ok (.ifCond .eq 15, 3) := by decide +kernel
theorem dX12_hill_19 : decode cX12_hill 19 = .ok (.aload_n 0, 1) := by decide +kernel
theorem dX12_hill_20 : decode cX12_hill 20 = .ok (.getfield 7, 3) := by decide +kernel
theorem dX12_hill_23 : decode cX12_hill 23 = .ok (.aload_n 0, 1) := by decide +kernel
theorem dX12_hill_24 : decode cX12_hill 24 = .ok (.getfield 184, 3) := by decide +kernel
theorem dX12_hill_27 : decode cX12_hill 27 = .ok (.iload_n 2, 1) := by decide +kernel
theorem dX12_hill_28 : decode cX12_hill 28 = .ok (.iadd, 1) := by decide +kernel
theorem dX12_hill_29 : decode cX12_hill 29 = .ok (.iaload, 1) := by decide +kernel
theorem dX12_hill_30 : decode cX12_hill 30 = .ok (.ireturn, 1) := by decide +kernel
theorem dX12_hill_31 : decode cX12_hill 31 = .ok (.iload_n 2, 1) := by decide +kernel
theorem dX12_hill_32 : decode cX12_hill 32 = .ok (.bipush 10, 2) := by decide +kernel
theorem dX12_hill_34 : decode cX12_hill 34 = .ok (.irem, 1) := by decide +kernel
theorem dX12_hill_35 : decode cX12_hill 35 = .ok (.istore_n 3, 1) := by decide +kernel
theorem dX12_hill_36 : decode cX12_hill 36 = .ok (.iload_n 2, 1) := by decide +kernel
theorem dX12_hill_37 : decode cX12_hill 37 = .ok (.bipush 40, 2) := by decide +kernel
theorem dX12_hill_39 : decode cX12_hill 39 = .ok (.bipush 49, 2) := by decide +kernel
theorem dX12_hill_41 : decode cX12_hill 41 = .ok (.invokestatic 120, 3) := by decide +kernel
theorem dX12_hill_44 : decode cX12_hill 44 = .ok (.ifCond .eq 19, 3) := by decide +kernel
theorem dX12_hill_47 : decode cX12_hill 47 = .ok (.iload_n 3, 1) := by decide +kernel
theorem dX12_hill_48 : decode cX12_hill 48 = .ok (.bipush 6, 2) := by decide +kernel
theorem dX12_hill_50 : decode cX12_hill 50 = .ok (.if_icmp .ge 11, 3) := by decide +kernel
theorem dX12_hill_53 : decode cX12_hill 53 = .ok (.aload_n 0, 1) := by decide +kernel
theorem dX12_hill_54 : decode cX12_hill 54 = .ok (.iload_n 3, 1) := by decide +kernel
theorem dX12_hill_55 : decode cX12_hill 55 = .ok (.invokevirtual 199, 3) := by decide +kernel
theorem dX12_hill_58 : decode cX12_hill 58 = .ok (.goto 4, 3) := by decide +kernel
theorem dX12_hill_61 : decode cX12_hill 61 = .ok (.iconst (-1), 1) := by decide +kernel
theorem dX12_hill_62 : decode cX12_hill 62 = .ok (.ireturn, 1) := by decide +kernel
theorem dX12_hill_63 : decode cX12_hill 63 = .ok (.iload_n 2, 1) := by decide +kernel
theorem dX12_hill_64 : decode cX12_hill 64 = .ok (.bipush 10, 2) := by decide +kernel
theorem dX12_hill_66 : decode cX12_hill 66 = .ok (.bipush 39, 2) := by decide +kernel
theorem dX12_hill_68 : decode cX12_hill 68 = .ok (.invokestatic 120, 3) := by decide +kernel
theorem dX12_hill_71 : decode cX12_hill 71 = .ok (.ifCond .eq 49, 3) := by decide +kernel
theorem dX12_hill_74 : decode cX12_hill 74 = .ok (.aload_n 0, 1) := by decide +kernel
theorem dX12_hill_75 : decode cX12_hill 75 = .ok (.iload_n 3, 1) := by decide +kernel
theorem dX12_hill_76 : decode cX12_hill 76 = .ok (.invokevirtual 202, 3) := by decide +kernel
theorem dX12_hill_79 : decode cX12_hill 79 = .ok (.ifCond .ne 7, 3) := by decide +kernel
theorem dX12_hill_82 : decode cX12_hill 82 = .ok (.iconst (-1), 1) := by decide +kernel
theorem dX12_hill_83 : decode cX12_hill 83 = .ok (.goto 36, 3) := by decide +kernel
theorem dX12_hill_86 : decode cX12_hill 86 = .ok (.iload_n 2, 1) := by decide +kernel
theorem dX12_hill_87 : decode cX12_hill 87 = .ok (.bipush 20, 2) := by decide +kernel
theorem dX12_hill_89 : decode cX12_hill 89 = .ok (.if_icmp .ge 11, 3) := by decide +kernel
theorem dX12_hill_92 : decode cX12_hill 92 = .ok (.aload_n 0, 1) := by decide +kernel
theorem dX12_hill_93 : decode cX12_hill 93 = .ok (.iload_n 3, 1) := by decide +kernel
theorem dX12_hill_94 : decode cX12_hill 94 = .ok (.invokevirtual 205, 3) := by decide +kernel
theorem dX12_hill_97 : decode cX12_hill 97 = .ok (.goto 22, 3) := by decide +kernel
theorem dX12_hill_100 : decode cX12_hill 100 = .ok (.iload_n 2, 1) := by decide +kernel
theorem dX12_hill_101 : decode cX12_hill 101 = .ok (.bipush 30, 2) := by decide +kernel
theorem dX12_hill_103 : decode cX12_hill 103 = .ok (.if_icmp .ge 11, 3) := by decide +kernel
theorem dX12_hill_106 : decode cX12_hill 106 = .ok (.aload_n 0, 1) := by decide +kernel
theorem dX12_hill_107 : decode cX12_hill 107 = .ok (.iload_n 3, 1) := by decide +kernel
theorem dX12_hill_108 : decode cX12_hill 108 = .ok (.invokevirtual 208, 3) := by decide +kernel
theorem dX12_hill_111 : decode cX12_hill 111 = .ok (.goto 8, 3) := by decide +kernel
theorem dX12_hill_114 : decode cX12_hill 114 = .ok (.aload_n 0, 1) := by decide +kernel
theorem dX12_hill_115 : decode cX12_hill 115 = .ok (.iload_n 3, 1) := by decide +kernel
theorem dX12_hill_116 : decode cX12_hill 116 = .ok (.invokevirtual 211, 3) := by decide +kernel
theorem dX12_hill_119 : decode cX12_hill 119 = .ok (.ireturn, 1) := by decide +kernel
theorem dX12_hill_120 : decode cX12_hill 120 = .ok (.iload_n 2, 1) := by decide +kernel
theorem dX12_hill_121 : decode cX12_hill 121 = .ok (.bipush 100, 2) := by decide +kernel
theorem dX12_hill_123 : decode cX12_hill 123 = .ok (.isub, 1) := by decide +kernel
theorem dX12_hill_124 : decode cX12_hill 124 = .ok (.bipush 6, 2) := by decide +kernel
theorem dX12_hill_126 : decode cX12_hill 126 = .ok (.idiv, 1) := by decide +kernel
theorem dX12_hill_127 : decode cX12_hill 127 = .ok (.istore 4, 2) := by decide +kernel
theorem dX12_hill_129 : decode cX12_hill 129 = .ok (.iload_n 2, 1) := by decide +kernel
theorem dX12_hill_130 : decode cX12_hill 130 = .ok (.bipush 100, 2) := by decide +kernel
theorem dX12_hill_132 : decode cX12_hill 132 = .ok (.if_icmp .lt 44, 3) := by decide +kernel
theorem dX12_hill_135 : decode cX12_hill 135 = .ok (.aload_n 0, 1) := by decide +kernel
theorem dX12_hill_136 : decode cX12_hill 136 = .ok (.iload 4, 2) := by decide +kernel
theorem dX12_hill_138 : decode cX12_hill 138 = .ok (.invokevirtual 202, 3) := by decide +kernel
theorem dX12_hill_141 : decode cX12_hill 141 = .ok (.ifCond .eq 35, 3) := by decide +kernel
theorem dX12_hill_144 : decode cX12_hill 144 = .ok (.iload_n 2, 1) := by decide +kernel
theorem dX12_hill_145 : decode cX12_hill 145 = .ok (.bipush 100, 2) := by decide +kernel
theorem dX12_hill_147 : decode cX12_hill 147 = .ok (.isub, 1) := by decide +kernel
theorem dX12_hill_148 : decode cX12_hill 148 = .ok (.bipush 6, 2) := by decide +kernel
theorem dX12_hill_150 : decode cX12_hill 150 = .ok (.irem, 1) := by decide +kernel
theorem dX12_hill_151 : decode cX12_hill 151 = .ok (.aload_n 0, 1) := by decide +kernel
theorem dX12_hill_152 : decode cX12_hill 152 = .ok (.iload 4, 2) := by decide +kernel
theorem dX12_hill_154 : decode cX12_hill 154 = .ok (.invokevirtual 205, 3) := by decide +kernel
theorem dX12_hill_157 : decode cX12_hill 157 = .ok (.if_icmp .ge 19, 3) := by decide +kernel
theorem dX12_hill_160 : decode cX12_hill 160 = .ok (.aload_n 0, 1) := by decide +kernel
theorem dX12_hill_161 : decode cX12_hill 161 = .ok (.iload 4, 2) := by decide +kernel
theorem dX12_hill_163 : decode cX12_hill 163 = .ok (.iload_n 2, 1) := by decide +kernel
theorem dX12_hill_164 : decode cX12_hill 164 = .ok (.bipush 100, 2) := by decide +kernel
theorem dX12_hill_166 : decode cX12_hill 166 = .ok (.isub, 1) := by decide +kernel
theorem dX12_hill_167 : decode cX12_hill 167 = .ok (.bipush 6, 2) := by decide +kernel
theorem dX12_hill_169 : decode cX12_hill 169 = .ok (.irem, 1) := by decide +kernel
theorem dX12_hill_170 : decode cX12_hill 170 = .ok (.invokevirtual 214, 3) := by decide +kernel
theorem dX12_hill_173 : decode cX12_hill 173 = .ok (.goto 4, 3) := by decide +kernel
theorem dX12_hill_176 : decode cX12_hill 176 = .ok (.iconst (-1), 1) := by decide +kernel
theorem dX12_hill_177 : decode cX12_hill 177 = .ok (.ireturn, 1) := by decide +kernel
set_option maxRecDepth 10000 in
theorem wX12_hill_0 {g : zG} {I : Nat → Nat → Int32} {P : Nat → Nat → Option Nat} {r : Option Value} {h' : zH} {a0 : Nat} {x1 : Int32} {x2 : Int32} (H : zk g a0 12 ∧ ∃ (w1 : Int32) (I2 : Nat → Nat → Int32), Cl mX12_isHill [.ref a0, .int x1] (g, I, P) (some (.int w1)) (g, I2, P) ∧ ((¬ w1 = 0) → ∃ (w6 : Int32), Cl mX12_isIn [.int x2, .int 0, .int 1] (g, I2, P) (some (.int w6)) (g, I2, P) ∧ ((w6 = 0) → ∃ (w10 : Int32), Cl mX12_isIn [.int x2, .int 40, .int 49] (g, I2, P) (some (.int w10)) (g, I2, P) ∧ ((w10 = 0) → ∃ (w14 : Int32), Cl mX12_isIn [.int x2, .int 10, .int 39] (g, I2, P) (some (.int w14)) (g, I2, P) ∧ ((w14 = 0) → ((x2 < 100) → r = some (.int (-1)) ∧ h' = (g, I2, P)) ∧ ((¬ x2 < 100) → zk g a0 12 ∧ ∃ (w20 : Int32), Cl mX12_isWord [.ref a0, .int ((x2 - 100) / 6)] (g, I2, P) (some (.int w20)) (g, I2, P) ∧ ((w20 = 0) → r = some (.int (-1)) ∧ h' = (g, I2, P)) ∧ ((¬ w20 = 0) → zk g a0 12 ∧ ∃ (w25 : Int32), Cl mX12_longOf [.ref a0, .int ((x2 - 100) / 6)] (g, I2, P) (some (.int w25)) (g, I2, P) ∧ ((w25 ≤ (x2 - 100) - (x2 - 100) / 6 * 6) → r = some (.int (-1)) ∧ h' = (g, I2, P)) ∧ ((¬ w25 ≤ (x2 - 100) - (x2 - 100) / 6 * 6) → zk g a0 12 ∧ ∃ (w30 : Int32), Cl mX12_letterOf [.ref a0, .int ((x2 - 100) / 6), .int ((x2 - 100) - (x2 - 100) / 6 * 6)] (g, I2, P) (some (.int w30)) (g, I2, P) ∧ r = some (.int w30) ∧ h' = (g, I2, P))))) ∧ ((¬ w14 = 0) → zk g a0 12 ∧ ∃ (w34 : Int32), Cl mX12_isWord [.ref a0, .int (x2 - x2 / 10 * 10)] (g, I2, P) (some (.int w34)) (g, I2, P) ∧ ((¬ w34 = 0) → ((20 ≤ x2) → ((30 ≤ x2) → zk g a0 12 ∧ ∃ (w40 : Int32), Cl mX12_behind [.ref a0, .int (x2 - x2 / 10 * 10)] (g, I2, P) (some (.int w40)) (g, I2, P) ∧ r = some (.int w40) ∧ h' = (g, I2, P)) ∧ ((¬ 30 ≤ x2) → zk g a0 12 ∧ ∃ (w44 : Int32), Cl mX12_oftenOf [.ref a0, .int (x2 - x2 / 10 * 10)] (g, I2, P) (some (.int w44)) (g, I2, P) ∧ r = some (.int w44) ∧ h' = (g, I2, P))) ∧ ((¬ 20 ≤ x2) → zk g a0 12 ∧ ∃ (w48 : Int32), Cl mX12_longOf [.ref a0, .int (x2 - x2 / 10 * 10)] (g, I2, P) (some (.int w48)) (g, I2, P) ∧ r = some (.int w48) ∧ h' = (g, I2, P))) ∧ ((w34 = 0) → r = some (.int (-1)) ∧ h' = (g, I2, P)))) ∧ ((¬ w10 = 0) → ((6 ≤ x2 - x2 / 10 * 10) → r = some (.int (-1)) ∧ h' = (g, I2, P)) ∧ ((¬ 6 ≤ x2 - x2 / 10 * 10) → zk g a0 12 ∧ ∃ (w55 : Int32), Cl mX12_answersTo [.ref a0, .int (x2 - x2 / 10 * 10)] (g, I2, P) (some (.int w55)) (g, I2, P) ∧ r = some (.int w55) ∧ h' = (g, I2, P)))) ∧ ((¬ w6 = 0) → zk g a0 12 ∧ ∃ b59, P a0 0 = some b59 ∧ zk g a0 12 ∧ zk g b59 13 ∧ vp_in ((I2 a0 13) + x2) (g.2.2 b59) ∧ r = some (.int (I2 b59 ((I2 a0 13) + x2).toNatClampNeg)) ∧ h' = (g, I2, P))) ∧ ((w1 = 0) → r = some (.int (-1)) ∧ h' = (g, I2, P))) : Zt none mX12_hill 0 0 0 [(0, .ref a0), (1, .int x1), (2, .int x2)] [] (g, I, P) r h' := by
  refine z_aload_n 0 dX12_hill_0 rfl rfl (z_iload_n 1 dX12_hill_1 rfl ?_)
  obtain ⟨oc3, w1, I2, c3, H4⟩ := H
  refine z_virt (As := [.int x1]) (st := []) (r1 := (some (.int w1))) (h1 := (g, I2, P)) dX12_hill_2 kX12_isHill wm_X12_196 ⟨by decide, by decide⟩ rfl rfl (Nat.le_of_ble_eq_true rfl) (by decide) (by decide) oc3 c3 ?_
  refine z_if_ne (t := 10) dX12_hill_5 (by decide) (fun q => ?_) (fun q => ?_)
  · have H5 := H4.1 q
    refine z_iload_n 2 dX12_hill_10 rfl (z_iconst (w := 0) dX12_hill_11 (by decide) (z_iconst (w := 1) dX12_hill_12 (by decide) ?_))
    obtain ⟨w6, c7, H8⟩ := H5
    refine z_stat (As := [.int x2, .int 0, .int 1]) (st := []) (r1 := (some (.int w6))) (h1 := (g, I2, P)) dX12_hill_13 kX12_isIn wm_X12_120 ⟨by decide, by decide⟩ rfl rfl (Nat.le_of_ble_eq_true rfl) (by decide) (by decide) c7 ?_
    refine z_if_eq (t := 31) dX12_hill_16 (by decide) (fun q => ?_) (fun q => ?_)
    · have H9 := H8.1 q
      refine z_iload_n 2 dX12_hill_31 rfl (z_bipush (w := 10) dX12_hill_32 (by decide) (z_irem dX12_hill_34 (by decide) (z_istore_n (lv' := [(3, .int (x2 - x2 / 10 * 10)), (0, .ref a0), (1, .int x1), (2, .int x2)]) dX12_hill_35 (by decide) rfl (z_iload_n 3 dX12_hill_36 rfl (z_bipush (w := 40) dX12_hill_37 (by decide) (z_bipush (w := 49) dX12_hill_39 (by decide) ?_))))))
      obtain ⟨w10, c11, H12⟩ := H9
      refine z_stat (As := [.int x2, .int 40, .int 49]) (st := []) (r1 := (some (.int w10))) (h1 := (g, I2, P)) dX12_hill_41 kX12_isIn wm_X12_120 ⟨by decide, by decide⟩ rfl rfl (Nat.le_of_ble_eq_true rfl) (by decide) (by decide) c11 ?_
      refine z_if_eq (t := 63) dX12_hill_44 (by decide) (fun q => ?_) (fun q => ?_)
      · have H13 := H12.1 q
        refine z_iload_n 3 dX12_hill_63 rfl (z_bipush (w := 10) dX12_hill_64 (by decide) (z_bipush (w := 39) dX12_hill_66 (by decide) ?_))
        obtain ⟨w14, c15, H16⟩ := H13
        refine z_stat (As := [.int x2, .int 10, .int 39]) (st := []) (r1 := (some (.int w14))) (h1 := (g, I2, P)) dX12_hill_68 kX12_isIn wm_X12_120 ⟨by decide, by decide⟩ rfl rfl (Nat.le_of_ble_eq_true rfl) (by decide) (by decide) c15 ?_
        refine z_if_eq (t := 120) dX12_hill_71 (by decide) (fun q => ?_) (fun q => ?_)
        · have H17 := H16.1 q
          refine z_iload_n 3 dX12_hill_120 rfl (z_bipush (w := 100) dX12_hill_121 (by decide) (z_isub dX12_hill_123 (z_bipush (w := 6) dX12_hill_124 (by decide) (z_idiv dX12_hill_126 (by decide) (z_istore (lv' := [(4, .int ((x2 - 100) / 6)), (3, .int (x2 - x2 / 10 * 10)), (0, .ref a0), (1, .int x1), (2, .int x2)]) dX12_hill_127 (by decide) rfl (z_iload_n 4 dX12_hill_129 rfl (z_bipush (w := 100) dX12_hill_130 (by decide) ?_)))))))
          refine z_icmp_lt (t := 176) dX12_hill_132 (by decide) (fun q => ?_) (fun q => ?_)
          · have H18 := H17.1 q
            refine z_iconst (w := (-1)) dX12_hill_176 (by decide) ?_
            obtain ⟨rfl, rfl⟩ := H18
            exact z_iret dX12_hill_177 rfl (by decide) (by decide)
          · have H19 := H17.2 q
            refine z_aload_n 2 dX12_hill_135 rfl rfl (z_iload 0 dX12_hill_136 rfl ?_)
            obtain ⟨oc21, w20, c21, H22⟩ := H19
            refine z_virt (As := [.int ((x2 - 100) / 6)]) (st := []) (r1 := (some (.int w20))) (h1 := (g, I2, P)) dX12_hill_138 kX12_isWord wm_X12_202 ⟨by decide, by decide⟩ rfl rfl (Nat.le_of_ble_eq_true rfl) (by decide) (by decide) oc21 c21 ?_
            refine z_if_eq (t := 176) dX12_hill_141 (by decide) (fun q => ?_) (fun q => ?_)
            · have H23 := H22.1 q
              refine z_iconst (w := (-1)) dX12_hill_176 (by decide) ?_
              obtain ⟨rfl, rfl⟩ := H23
              exact z_iret dX12_hill_177 rfl (by decide) (by decide)
            · have H24 := H22.2 q
              refine z_iload_n 4 dX12_hill_144 rfl (z_bipush (w := 100) dX12_hill_145 (by decide) (z_isub dX12_hill_147 (z_bipush (w := 6) dX12_hill_148 (by decide) (z_irem dX12_hill_150 (by decide) (z_aload_n 2 dX12_hill_151 rfl rfl (z_iload 0 dX12_hill_152 rfl ?_))))))
              obtain ⟨oc26, w25, c26, H27⟩ := H24
              refine z_virt (As := [.int ((x2 - 100) / 6)]) (st := [.int ((x2 - 100) - (x2 - 100) / 6 * 6)]) (r1 := (some (.int w25))) (h1 := (g, I2, P)) dX12_hill_154 kX12_longOf wm_X12_205 ⟨by decide, by decide⟩ rfl rfl (Nat.le_of_ble_eq_true rfl) (by decide) (by decide) oc26 c26 ?_
              refine z_icmp_ge (t := 176) dX12_hill_157 (by decide) (fun q => ?_) (fun q => ?_)
              · have H28 := H27.1 q
                refine z_iconst (w := (-1)) dX12_hill_176 (by decide) ?_
                obtain ⟨rfl, rfl⟩ := H28
                exact z_iret dX12_hill_177 rfl (by decide) (by decide)
              · have H29 := H27.2 q
                refine z_aload_n 2 dX12_hill_160 rfl rfl (z_iload 0 dX12_hill_161 rfl (z_iload_n 4 dX12_hill_163 rfl (z_bipush (w := 100) dX12_hill_164 (by decide) (z_isub dX12_hill_166 (z_bipush (w := 6) dX12_hill_167 (by decide) (z_irem dX12_hill_169 (by decide) ?_))))))
                obtain ⟨oc31, w30, c31, H32⟩ := H29
                refine z_virt (As := [.int ((x2 - 100) / 6), .int ((x2 - 100) - (x2 - 100) / 6 * 6)]) (st := []) (r1 := (some (.int w30))) (h1 := (g, I2, P)) dX12_hill_170 kX12_letterOf wm_X12_214 ⟨by decide, by decide⟩ rfl rfl (Nat.le_of_ble_eq_true rfl) (by decide) (by decide) oc31 c31 ?_
                refine z_goto (t := 177) dX12_hill_173 (by decide) ?_
                obtain ⟨rfl, rfl⟩ := H32
                exact z_iret dX12_hill_177 rfl (by decide) (by decide)
        · have H33 := H16.2 q
          refine z_aload_n 1 dX12_hill_74 rfl rfl (z_iload_n 0 dX12_hill_75 rfl ?_)
          obtain ⟨oc35, w34, c35, H36⟩ := H33
          refine z_virt (As := [.int (x2 - x2 / 10 * 10)]) (st := []) (r1 := (some (.int w34))) (h1 := (g, I2, P)) dX12_hill_76 kX12_isWord wm_X12_202 ⟨by decide, by decide⟩ rfl rfl (Nat.le_of_ble_eq_true rfl) (by decide) (by decide) oc35 c35 ?_
          refine z_if_ne (t := 86) dX12_hill_79 (by decide) (fun q => ?_) (fun q => ?_)
          · have H37 := H36.1 q
            refine z_iload_n 3 dX12_hill_86 rfl (z_bipush (w := 20) dX12_hill_87 (by decide) ?_)
            refine z_icmp_ge (t := 100) dX12_hill_89 (by decide) (fun q => ?_) (fun q => ?_)
            · have H38 := H37.1 q
              refine z_iload_n 3 dX12_hill_100 rfl (z_bipush (w := 30) dX12_hill_101 (by decide) ?_)
              refine z_icmp_ge (t := 114) dX12_hill_103 (by decide) (fun q => ?_) (fun q => ?_)
              · have H39 := H38.1 q
                refine z_aload_n 1 dX12_hill_114 rfl rfl (z_iload_n 0 dX12_hill_115 rfl ?_)
                obtain ⟨oc41, w40, c41, H42⟩ := H39
                refine z_virt (As := [.int (x2 - x2 / 10 * 10)]) (st := []) (r1 := (some (.int w40))) (h1 := (g, I2, P)) dX12_hill_116 kX12_behind wm_X12_211 ⟨by decide, by decide⟩ rfl rfl (Nat.le_of_ble_eq_true rfl) (by decide) (by decide) oc41 c41 ?_
                obtain ⟨rfl, rfl⟩ := H42
                exact z_iret dX12_hill_119 rfl (by decide) (by decide)
              · have H43 := H38.2 q
                refine z_aload_n 1 dX12_hill_106 rfl rfl (z_iload_n 0 dX12_hill_107 rfl ?_)
                obtain ⟨oc45, w44, c45, H46⟩ := H43
                refine z_virt (As := [.int (x2 - x2 / 10 * 10)]) (st := []) (r1 := (some (.int w44))) (h1 := (g, I2, P)) dX12_hill_108 kX12_oftenOf wm_X12_208 ⟨by decide, by decide⟩ rfl rfl (Nat.le_of_ble_eq_true rfl) (by decide) (by decide) oc45 c45 ?_
                refine z_goto (t := 119) dX12_hill_111 (by decide) ?_
                obtain ⟨rfl, rfl⟩ := H46
                exact z_iret dX12_hill_119 rfl (by decide) (by decide)
            · have H47 := H37.2 q
              refine z_aload_n 1 dX12_hill_92 rfl rfl (z_iload_n 0 dX12_hill_93 rfl ?_)
              obtain ⟨oc49, w48, c49, H50⟩ := H47
              refine z_virt (As := [.int (x2 - x2 / 10 * 10)]) (st := []) (r1 := (some (.int w48))) (h1 := (g, I2, P)) dX12_hill_94 kX12_longOf wm_X12_205 ⟨by decide, by decide⟩ rfl rfl (Nat.le_of_ble_eq_true rfl) (by decide) (by decide) oc49 c49 ?_
              refine z_goto (t := 119) dX12_hill_97 (by decide) ?_
              obtain ⟨rfl, rfl⟩ := H50
              exact z_iret dX12_hill_119 rfl (by decide) (by decide)
          · have H51 := H36.2 q
            refine z_iconst (w := (-1)) dX12_hill_82 (by decide) (z_goto (t := 119) dX12_hill_83 (by decide) ?_)
            obtain ⟨rfl, rfl⟩ := H51
            exact z_iret dX12_hill_119 rfl (by decide) (by decide)
      · have H52 := H12.2 q
        refine z_iload_n 0 dX12_hill_47 rfl (z_bipush (w := 6) dX12_hill_48 (by decide) ?_)
        refine z_icmp_ge (t := 61) dX12_hill_50 (by decide) (fun q => ?_) (fun q => ?_)
        · have H53 := H52.1 q
          refine z_iconst (w := (-1)) dX12_hill_61 (by decide) ?_
          obtain ⟨rfl, rfl⟩ := H53
          exact z_iret dX12_hill_62 rfl (by decide) (by decide)
        · have H54 := H52.2 q
          refine z_aload_n 1 dX12_hill_53 rfl rfl (z_iload_n 0 dX12_hill_54 rfl ?_)
          obtain ⟨oc56, w55, c56, H57⟩ := H54
          refine z_virt (As := [.int (x2 - x2 / 10 * 10)]) (st := []) (r1 := (some (.int w55))) (h1 := (g, I2, P)) dX12_hill_55 kX12_answersTo wm_X12_199 ⟨by decide, by decide⟩ rfl rfl (Nat.le_of_ble_eq_true rfl) (by decide) (by decide) oc56 c56 ?_
          refine z_goto (t := 62) dX12_hill_58 (by decide) ?_
          obtain ⟨rfl, rfl⟩ := H57
          exact z_iret dX12_hill_62 rfl (by decide) (by decide)
    · have H58 := H8.2 q
      refine z_aload_n 0 dX12_hill_19 rfl rfl ?_
      obtain ⟨oe61, b59, e61, H60⟩ := H58
      refine z_getP dX12_hill_20 wf_X12_7 (by decide) (by decide) rfl oe61 (fun q => (by cases q.symm.trans e61)) (fun j q => ?_)
      cases q.symm.trans e61
      refine z_aload_n 0 dX12_hill_23 rfl rfl (z_getI dX12_hill_24 wf_X12_184 (by decide) (by decide) rfl H60.1 (z_iload_n 2 dX12_hill_27 rfl (z_iadd dX12_hill_28 (z_iald dX12_hill_29 H60.2.1 H60.2.2.1 ?_))))
      obtain ⟨rfl, rfl⟩ := H60.2.2.2
      exact z_iret dX12_hill_30 rfl (by decide) (by decide)
  · have H62 := H4.2 q
    refine z_iconst (w := (-1)) dX12_hill_8 (by decide) ?_
    obtain ⟨rfl, rfl⟩ := H62
    exact z_iret dX12_hill_9 rfl (by decide) (by decide)
theorem eX12_hill {g : zG} {I : Nat → Nat → Int32} {P : Nat → Nat → Option Nat} {r : Option Value} {h' : zH} {a0 : Nat} {x1 : Int32} {x2 : Int32} (H : Zt none mX12_hill 0 0 0 [(0, .ref a0), (1, .int x1), (2, .int x2)] [] (g, I, P) r h') : Cl mX12_hill [.ref a0, .int x1, .int x2] (g, I, P) r h' := Cl.of (by decide) (Nat.le_of_ble_eq_true rfl) H
