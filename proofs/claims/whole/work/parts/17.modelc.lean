theorem dX12_changesOf_0 : decode cX12_changesOf 0 = .ok (.iconst 0, 1) := by decide +kernel
theorem dX12_changesOf_1 : decode cX12_changesOf 1 = .ok (.istore_n 1, 1) := by decide +kernel
theorem dX12_changesOf_2 : decode cX12_changesOf 2 = .ok (.iload_n 1, 1) := by decide +kernel
theorem dX12_changesOf_3 : decode cX12_changesOf 3 = .ok (.aload_n 0, 1) := by decide +kernel
theorem dX12_changesOf_4 : decode cX12_changesOf 4 = .ok (.getfield 309, 3) := by decide +kernel
theorem dX12_changesOf_7 : decode cX12_changesOf 7 = .ok (.if_icmp .gt 180, 3) := by decide +kernel
theorem dX12_changesOf_10 : decode cX12_changesOf 10 = .ok (.iconst 0, 1) := by decide +kernel
theorem dX12_changesOf_11 : decode cX12_changesOf 11 = .ok (.istore_n 2, 1) := by decide +kernel
theorem dX12_changesOf_12 : decode cX12_changesOf 12 = .ok (.iload_n 2, 1) := by decide +kernel
theorem dX12_changesOf_13 : decode cX12_changesOf 13 = .ok (.aload_n 0, 1) := by decide +kernel
theorem dX12_changesOf_14 : decode cX12_changesOf 14 = .ok (.getfield 312, 3) := by decide +kernel
theorem dX12_changesOf_17 : decode cX12_changesOf 17 = .ok (.if_icmp .gt 164, 3) := by decide +kernel
theorem dX12_changesOf_20 : decode cX12_changesOf 20 = .ok (.iload_n 1, 1) := by decide +kernel
theorem dX12_changesOf_21 : decode cX12_changesOf 21 = .ok (.ifCond .ne 7, 3) := by decide +kernel
theorem dX12_changesOf_24 : decode cX12_changesOf 24 = .ok (.iload_n 2, 1) := by decide +kernel
theorem dX12_changesOf_25 : decode cX12_changesOf 25 = .ok (.goto 51, 3) := by decide +kernel
theorem dX12_changesOf_28 : decode cX12_changesOf 28 = .ok (.iload_n 2, 1) := by decide +kernel
theorem dX12_changesOf_29 : decode cX12_changesOf 29 = .ok (.ifCond .ne 7, 3) := by decide +kernel
theorem dX12_changesOf_32 : decode cX12_changesOf 32 = .ok (.iload_n 1, 1) := by decide +kernel
theorem dX12_changesOf_33 : decode cX12_changesOf 33 = .ok (.goto 43, 3) := by decide +kernel
theorem dX12_changesOf_36 : decode cX12_changesOf 36 = .ok (.aload_n 0, 1) := by decide +kernel
theorem dX12_changesOf_37 : decode cX12_changesOf 37 = .ok (.getfield 53, 3) := by decide +kernel
theorem dX12_changesOf_40 : decode cX12_changesOf 40 = .ok (.bipush 13, 2) := by decide +kernel
theorem dX12_changesOf_42 : decode cX12_changesOf 42 = .ok (.iload_n 1, 1) := by decide +kernel
theorem dX12_changesOf_43 : decode cX12_changesOf 43 = .ok (.iconst 1, 1) := by decide +kernel
theorem dX12_changesOf_44 : decode cX12_changesOf 44 = .ok (.isub, 1) := by decide +kernel
theorem dX12_changesOf_45 : decode cX12_changesOf 45 = .ok (.imul, 1) := by decide +kernel
theorem dX12_changesOf_46 : decode cX12_changesOf 46 = .ok (.iload_n 2, 1) := by decide +kernel
theorem dX12_changesOf_47 : decode cX12_changesOf 47 = .ok (.iadd, 1) := by decide +kernel
theorem dX12_changesOf_48 : decode cX12_changesOf 48 = .ok (.iconst 1, 1) := by decide +kernel
theorem dX12_changesOf_49 : decode cX12_changesOf 49 = .ok (.isub, 1) := by decide +kernel
theorem dX12_changesOf_50 : decode cX12_changesOf 50 = .ok (.iaload, 1) := by decide +kernel
theorem dX12_changesOf_51 : decode cX12_changesOf 51 = .ok (.aload_n 0, 1) := by decide +kernel
theorem dX12_changesOf_52 : decode cX12_changesOf 52 = .ok (.getfield 47, 3) := by decide +kernel
theorem dX12_changesOf_55 : decode cX12_changesOf 55 = .ok (.iload_n 1, 1) := by decide +kernel
theorem dX12_changesOf_56 : decode cX12_changesOf 56 = .ok (.iconst 1, 1) := by decide +kernel
theorem dX12_changesOf_57 : decode cX12_changesOf 57 = .ok (.isub, 1) := by decide +kernel
theorem dX12_changesOf_58 : decode cX12_changesOf 58 = .ok (.iaload, 1) := by decide +kernel
theorem dX12_changesOf_59 : decode cX12_changesOf 59 = .ok (.aload_n 0, 1) := by decide +kernel
theorem dX12_changesOf_60 : decode cX12_changesOf 60 = .ok (.getfield 50, 3) := by decide +kernel
theorem dX12_changesOf_63 : decode cX12_changesOf 63 = .ok (.iload_n 2, 1) := by decide +kernel
theorem dX12_changesOf_64 : decode cX12_changesOf 64 = .ok (.iconst 1, 1) := by decide +kernel
theorem dX12_changesOf_65 : decode cX12_changesOf 65 = .ok (.isub, 1) := by decide +kernel
theorem dX12_changesOf_66 : decode cX12_changesOf 66 = .ok (.iaload, 1) := by decide +kernel
theorem dX12_changesOf_67 : decode cX12_changesOf 67 = .ok (.if_icmp .ne 7, 3) := by decide +kernel
theorem dX12_changesOf_70 : decode cX12_changesOf 70 = .ok (.iconst 0, 1) := by decide +kernel
theorem dX12_changesOf_71 : decode cX12_changesOf 71 = .ok (.goto 4, 3) := by decide +kernel
theorem dX12_changesOf_74 : decode cX12_changesOf 74 = .ok (.iconst 1, 1) := by decide +kernel
theorem dX12_changesOf_75 : decode cX12_changesOf 75 = .ok (.iadd, 1) := by decide +kernel
theorem dX12_changesOf_76 : decode cX12_changesOf 76 = .ok (.istore_n 3, 1) := by decide +kernel
theorem dX12_changesOf_77 : decode cX12_changesOf 77 = .ok (.iload_n 1, 1) := by decide +kernel
theorem dX12_changesOf_78 : decode cX12_changesOf 78 = .ok (.ifCond .le 42, 3) := by decide +kernel
theorem dX12_changesOf_81 : decode cX12_changesOf 81 = .ok (.iload_n 2, 1) := by decide +kernel
theorem dX12_changesOf_82 : decode cX12_changesOf 82 = .ok (.ifCond .le 38, 3) := by decide +kernel
theorem dX12_changesOf_85 : decode cX12_changesOf 85 = .ok (.aload_n 0, 1) := by decide +kernel
theorem dX12_changesOf_86 : decode cX12_changesOf 86 = .ok (.getfield 53, 3) := by decide +kernel
theorem dX12_changesOf_89 : decode cX12_changesOf 89 = .ok (.bipush 13, 2) := by decide +kernel
theorem dX12_changesOf_91 : decode cX12_changesOf 91 = .ok (.iload_n 1, 1) := by decide +kernel
theorem dX12_changesOf_92 : decode cX12_changesOf 92 = .ok (.iconst 1, 1) := by decide +kernel
theorem dX12_changesOf_93 : decode cX12_changesOf 93 = .ok (.isub, 1) := by decide +kernel
theorem dX12_changesOf_94 : decode cX12_changesOf 94 = .ok (.imul, 1) := by decide +kernel
theorem dX12_changesOf_95 : decode cX12_changesOf 95 = .ok (.iload_n 2, 1) := by decide +kernel
theorem dX12_changesOf_96 : decode cX12_changesOf 96 = .ok (.iadd, 1) := by decide +kernel
theorem dX12_changesOf_97 : decode cX12_changesOf 97 = .ok (.iaload, 1) := by decide +kernel
theorem dX12_changesOf_98 : decode cX12_changesOf 98 = .ok (.iconst 1, 1) := by decide +kernel
theorem dX12_changesOf_99 : decode cX12_changesOf 99 = .ok (.iadd, 1) := by decide +kernel
theorem dX12_changesOf_100 : decode cX12_changesOf 100 = .ok (.iload_n 3, 1) := by decide +kernel
theorem dX12_changesOf_101 : decode cX12_changesOf 101 = .ok (.if_icmp .ge 19, 3) := by decide +kernel
theorem dX12_changesOf_104 : decode cX12_changesOf 104 = .ok (.aload_n 0, 1) := by decide +kernel
theorem dX12_changesOf_105 : decode cX12_changesOf 105 = .ok (.getfield 53, 3) := by decide +kernel
theorem dX12_changesOf_108 : decode cX12_changesOf 108 = .ok (.bipush 13, 2) := by decide +kernel
theorem dX12_changesOf_110 : decode cX12_changesOf 110 = .ok (.iload_n 1, 1) := by decide +kernel
theorem dX12_changesOf_111 : decode cX12_changesOf 111 = .ok (.iconst 1, 1) := by decide +kernel
theorem dX12_changesOf_112 : decode cX12_changesOf 112 = .ok (.isub, 1) := by decide +kernel
theorem dX12_changesOf_113 : decode cX12_changesOf 113 = .ok (.imul, 1) := by decide +kernel
theorem dX12_changesOf_114 : decode cX12_changesOf 114 = .ok (.iload_n 2, 1) := by decide +kernel
theorem dX12_changesOf_115 : decode cX12_changesOf 115 = .ok (.iadd, 1) := by decide +kernel
theorem dX12_changesOf_116 : decode cX12_changesOf 116 = .ok (.iaload, 1) := by decide +kernel
theorem dX12_changesOf_117 : decode cX12_changesOf 117 = .ok (.iconst 1, 1) := by decide +kernel
theorem dX12_changesOf_118 : decode cX12_changesOf 118 = .ok (.iadd, 1) := by decide +kernel
theorem dX12_changesOf_119 : decode cX12_changesOf 119 = .ok (.istore_n 3, 1) := by decide +kernel
theorem dX12_changesOf_120 : decode cX12_changesOf 120 = .ok (.iload_n 1, 1) := by decide +kernel
theorem dX12_changesOf_121 : decode cX12_changesOf 121 = .ok (.ifCond .le 42, 3) := by decide +kernel
theorem dX12_changesOf_124 : decode cX12_changesOf 124 = .ok (.iload_n 2, 1) := by decide +kernel
theorem dX12_changesOf_125 : decode cX12_changesOf 125 = .ok (.ifCond .le 38, 3) := by decide +kernel
theorem dX12_changesOf_128 : decode cX12_changesOf 128 = .ok (.aload_n 0, 1) := by decide +kernel
theorem dX12_changesOf_129 : decode cX12_changesOf 129 = .ok (.getfield 53, 3) := by decide +kernel
theorem dX12_changesOf_132 : decode cX12_changesOf 132 = .ok (.bipush 13, 2) := by decide +kernel
theorem dX12_changesOf_134 : decode cX12_changesOf 134 = .ok (.iload_n 1, 1) := by decide +kernel
theorem dX12_changesOf_135 : decode cX12_changesOf 135 = .ok (.imul, 1) := by decide +kernel
theorem dX12_changesOf_136 : decode cX12_changesOf 136 = .ok (.iload_n 2, 1) := by decide +kernel
theorem dX12_changesOf_137 : decode cX12_changesOf 137 = .ok (.iadd, 1) := by decide +kernel
theorem dX12_changesOf_138 : decode cX12_changesOf 138 = .ok (.iconst 1, 1) := by decide +kernel
theorem dX12_changesOf_139 : decode cX12_changesOf 139 = .ok (.isub, 1) := by decide +kernel
theorem dX12_changesOf_140 : decode cX12_changesOf 140 = .ok (.iaload, 1) := by decide +kernel
theorem dX12_changesOf_141 : decode cX12_changesOf 141 = .ok (.iconst 1, 1) := by decide +kernel
theorem dX12_changesOf_142 : decode cX12_changesOf 142 = .ok (.iadd, 1) := by decide +kernel
theorem dX12_changesOf_143 : decode cX12_changesOf 143 = .ok (.iload_n 3, 1) := by decide +kernel
theorem dX12_changesOf_144 : decode cX12_changesOf 144 = .ok (.if_icmp .ge 19, 3) := by decide +kernel
theorem dX12_changesOf_147 : decode cX12_changesOf 147 = .ok (.aload_n 0, 1) := by decide +kernel
theorem dX12_changesOf_148 : decode cX12_changesOf 148 = .ok (.getfield 53, 3) := by decide +kernel
theorem dX12_changesOf_151 : decode cX12_changesOf 151 = .ok (.bipush 13, 2) := by decide +kernel
theorem dX12_changesOf_153 : decode cX12_changesOf 153 = .ok (.iload_n 1, 1) := by decide +kernel
theorem dX12_changesOf_154 : decode cX12_changesOf 154 = .ok (.imul, 1) := by decide +kernel
theorem dX12_changesOf_155 : decode cX12_changesOf 155 = .ok (.iload_n 2, 1) := by decide +kernel
theorem dX12_changesOf_156 : decode cX12_changesOf 156 = .ok (.iadd, 1) := by decide +kernel
theorem dX12_changesOf_157 : decode cX12_changesOf 157 = .ok (.iconst 1, 1) := by decide +kernel
theorem dX12_changesOf_158 : decode cX12_changesOf 158 = .ok (.isub, 1) := by decide +kernel
theorem dX12_changesOf_159 : decode cX12_changesOf 159 = .ok (.iaload, 1) := by decide +kernel
theorem dX12_changesOf_160 : decode cX12_changesOf 160 = .ok (.iconst 1, 1) := by decide +kernel
theorem dX12_changesOf_161 : decode cX12_changesOf 161 = .ok (.iadd, 1) := by decide +kernel
theorem dX12_changesOf_162 : decode cX12_changesOf 162 = .ok (.istore_n 3, 1) := by decide +kernel
theorem dX12_changesOf_163 : decode cX12_changesOf 163 = .ok (.aload_n 0, 1) := by decide +kernel
theorem dX12_changesOf_164 : decode cX12_changesOf 164 = .ok (.getfield 53, 3) := by decide +kernel
theorem dX12_changesOf_167 : decode cX12_changesOf 167 = .ok (.bipush 13, 2) := by decide +kernel
theorem dX12_changesOf_169 : decode cX12_changesOf 169 = .ok (.iload_n 1, 1) := by decide +kernel
theorem dX12_changesOf_170 : decode cX12_changesOf 170 = .ok (.imul, 1) := by decide +kernel
theorem dX12_changesOf_171 : decode cX12_changesOf 171 = .ok (.iload_n 2, 1) := by decide +kernel
theorem dX12_changesOf_172 : decode cX12_changesOf 172 = .ok (.iadd, 1) := by decide +kernel
theorem dX12_changesOf_173 : decode cX12_changesOf 173 = .ok (.iload_n 3, 1) := by decide +kernel
theorem dX12_changesOf_174 : decode cX12_changesOf 174 = .ok (.iastore, 1) := by decide +kernel
theorem dX12_changesOf_175 : decode cX12_changesOf 175 = .ok (.iinc 2 1, 3) := by decide +kernel
theorem dX12_changesOf_178 : decode cX12_changesOf 178 = .ok (.goto (-166), 3) := by decide +kernel
theorem dX12_changesOf_181 : decode cX12_changesOf 181 = .ok (.iinc 1 1, 3) := by decide +kernel
theorem dX12_changesOf_184 : decode cX12_changesOf 184 = .ok (.goto (-182), 3) := by decide +kernel
theorem dX12_changesOf_187 : decode cX12_changesOf 187 = .ok (.aload_n 0, 1) := by decide +kernel
theorem dX12_changesOf_188 : decode cX12_changesOf 188 = .ok (.getfield 53, 3) := by decide +kernel
theorem dX12_changesOf_191 : decode cX12_changesOf 191 = .ok (.bipush 13, 2) := by decide +kernel
theorem dX12_changesOf_193 : decode cX12_changesOf 193 = .ok (.aload_n 0, 1) := by decide +kernel
theorem dX12_changesOf_194 : decode cX12_changesOf 194 = .ok (.getfield 309, 3) := by decide +kernel
theorem dX12_changesOf_197 : decode cX12_changesOf 197 = .ok (.imul, 1) := by decide +kernel
theorem dX12_changesOf_198 : decode cX12_changesOf 198 = .ok (.aload_n 0, 1) := by decide +kernel
theorem dX12_changesOf_199 : decode cX12_changesOf 199 = .ok (.getfield 312, 3) := by decide +kernel
theorem dX12_changesOf_202 : decode cX12_changesOf 202 = .ok (.iadd, 1) := by decide +kernel
theorem dX12_changesOf_203 : decode cX12_changesOf 203 = .ok (.iaload, 1) := by decide +kernel
theorem dX12_changesOf_204 : decode cX12_changesOf 204 = .ok (.ireturn, 1) := by decide +kernel
set_option maxRecDepth 10000 in
theorem wX12_changesOf_0 {g : zG} {I : Nat → Nat → Int32} {P : Nat → Nat → Option Nat} {r : Option Value} {h' : zH} {a0 : Nat} (H : Zt none mX12_changesOf 0 0 2 [(0, .ref a0), (1, .int 0)] [] (g, I, P) r h') : Zt none mX12_changesOf 0 0 0 [(0, .ref a0)] [] (g, I, P) r h' := by
  refine z_iconst (w := 0) dX12_changesOf_0 (by decide) (z_istore_n (lv' := [(1, .int 0), (0, .ref a0)]) dX12_changesOf_1 (by decide) rfl ?_)
  exact z_less [1, 0] rfl H
theorem eX12_changesOf {g : zG} {I : Nat → Nat → Int32} {P : Nat → Nat → Option Nat} {r : Option Value} {h' : zH} {a0 : Nat} (H : Zt none mX12_changesOf 0 0 0 [(0, .ref a0)] [] (g, I, P) r h') : Cl mX12_changesOf [.ref a0] (g, I, P) r h' := Cl.of (by decide) (Nat.le_of_ble_eq_true rfl) H
set_option maxRecDepth 10000 in
theorem wX12_changesOf_2 {g : zG} {I : Nat → Nat → Int32} {P : Nat → Nat → Option Nat} {r : Option Value} {h' : zH} {a0 : Nat} {x1 : Int32} (H : zk g a0 12 ∧ ((I a0 31 < x1) → zk g a0 12 ∧ ∃ b2, P a0 33 = some b2 ∧ zk g a0 12 ∧ zk g a0 12 ∧ zk g b2 13 ∧ vp_in ((13 * (I a0 31)) + (I a0 32)) (g.2.2 b2) ∧ r = some (.int (I b2 ((13 * (I a0 31)) + (I a0 32)).toNatClampNeg)) ∧ h' = (g, I, P)) ∧ ((¬ I a0 31 < x1) → Zt none mX12_changesOf 0 0 12 [(0, .ref a0), (1, .int x1), (2, .int 0)] [] (g, I, P) r h')) : Zt none mX12_changesOf 0 0 2 [(0, .ref a0), (1, .int x1)] [] (g, I, P) r h' := by
  refine z_iload_n 1 dX12_changesOf_2 rfl (z_aload_n 0 dX12_changesOf_3 rfl rfl (z_getI dX12_changesOf_4 wf_X12_309 (by decide) (by decide) rfl H.1 ?_))
  refine z_icmp_gt (t := 187) dX12_changesOf_7 (by decide) (fun q => ?_) (fun q => ?_)
  · have H1 := H.2.1 q
    refine z_aload_n 0 dX12_changesOf_187 rfl rfl ?_
    obtain ⟨oe4, b2, e4, H3⟩ := H1
    refine z_getP dX12_changesOf_188 wf_X12_53 (by decide) (by decide) rfl oe4 (fun q => (by cases q.symm.trans e4)) (fun j q => ?_)
    cases q.symm.trans e4
    refine z_bipush (w := 13) dX12_changesOf_191 (by decide) (z_aload_n 0 dX12_changesOf_193 rfl rfl (z_getI dX12_changesOf_194 wf_X12_309 (by decide) (by decide) rfl H3.1 (z_imul dX12_changesOf_197 (z_aload_n 0 dX12_changesOf_198 rfl rfl (z_getI dX12_changesOf_199 wf_X12_312 (by decide) (by decide) rfl H3.2.1 (z_iadd dX12_changesOf_202 (z_iald dX12_changesOf_203 H3.2.2.1 H3.2.2.2.1 ?_)))))))
    obtain ⟨rfl, rfl⟩ := H3.2.2.2.2
    exact z_iret dX12_changesOf_204 rfl (by decide) (by decide)
  · have H5 := H.2.2 q
    refine z_iconst (w := 0) dX12_changesOf_10 (by decide) (z_istore_n (lv' := [(2, .int 0), (0, .ref a0), (1, .int x1)]) dX12_changesOf_11 (by decide) rfl ?_)
    exact z_less [1, 2, 0] rfl H5
set_option maxRecDepth 10000 in
theorem wX12_changesOf_12 {g : zG} {I : Nat → Nat → Int32} {P : Nat → Nat → Option Nat} {r : Option Value} {h' : zH} {a0 : Nat} {x1 : Int32} {x2 : Int32} (H : zk g a0 12 ∧ ((I a0 32 < x2) → Zt none mX12_changesOf 0 0 2 [(0, .ref a0), (1, .int (x1 + 1))] [] (g, I, P) r h') ∧ ((¬ I a0 32 < x2) → ((¬ x1 = 0) → ((¬ x2 = 0) → zk g a0 12 ∧ ∃ b5, P a0 33 = some b5 ∧ zk g b5 13 ∧ vp_in (((13 * (x1 - 1)) + x2) - 1) (g.2.2 b5) ∧ zk g a0 12 ∧ ∃ b8, P a0 29 = some b8 ∧ zk g b8 13 ∧ vp_in (x1 - 1) (g.2.2 b8) ∧ zk g a0 12 ∧ ∃ b11, P a0 30 = some b11 ∧ zk g b11 13 ∧ vp_in (x2 - 1) (g.2.2 b11) ∧ ((¬ (I b8 (x1 - 1).toNatClampNeg) = I b11 (x2 - 1).toNatClampNeg) → Zt none mX12_changesOf 0 0 76 [(0, .ref a0), (1, .int x1), (2, .int x2)] [.int ((I b5 (((13 * (x1 - 1)) + x2) - 1).toNatClampNeg) + 1)] (g, I, P) r h') ∧ ((I b8 (x1 - 1).toNatClampNeg = I b11 (x2 - 1).toNatClampNeg) → Zt none mX12_changesOf 0 0 76 [(0, .ref a0), (1, .int x1), (2, .int x2)] [.int ((I b5 (((13 * (x1 - 1)) + x2) - 1).toNatClampNeg) + 0)] (g, I, P) r h')) ∧ ((x2 = 0) → Zt none mX12_changesOf 0 0 76 [(0, .ref a0), (1, .int x1), (2, .int x2)] [.int x1] (g, I, P) r h')) ∧ ((x1 = 0) → Zt none mX12_changesOf 0 0 76 [(0, .ref a0), (1, .int x1), (2, .int x2)] [.int x2] (g, I, P) r h'))) : Zt none mX12_changesOf 0 0 12 [(0, .ref a0), (1, .int x1), (2, .int x2)] [] (g, I, P) r h' := by
  refine z_iload_n 2 dX12_changesOf_12 rfl (z_aload_n 0 dX12_changesOf_13 rfl rfl (z_getI dX12_changesOf_14 wf_X12_312 (by decide) (by decide) rfl H.1 ?_))
  refine z_icmp_gt (t := 181) dX12_changesOf_17 (by decide) (fun q => ?_) (fun q => ?_)
  · have H1 := H.2.1 q
    refine z_iinc (y := x1 + 1) (lv' := [(1, .int (x1 + 1)), (0, .ref a0), (2, .int x2)]) 1 dX12_changesOf_181 rfl rfl (by decide) rfl (z_goto (t := 2) dX12_changesOf_184 (by decide) ?_)
    exact z_less [1, 0] rfl H1
  · have H2 := H.2.2 q
    refine z_iload_n 1 dX12_changesOf_20 rfl ?_
    refine z_if_ne (t := 28) dX12_changesOf_21 (by decide) (fun q => ?_) (fun q => ?_)
    · have H3 := H2.1 q
      refine z_iload_n 2 dX12_changesOf_28 rfl ?_
      refine z_if_ne (t := 36) dX12_changesOf_29 (by decide) (fun q => ?_) (fun q => ?_)
      · have H4 := H3.1 q
        refine z_aload_n 0 dX12_changesOf_36 rfl rfl ?_
        obtain ⟨oe7, b5, e7, H6⟩ := H4
        refine z_getP dX12_changesOf_37 wf_X12_53 (by decide) (by decide) rfl oe7 (fun q => (by cases q.symm.trans e7)) (fun j q => ?_)
        cases q.symm.trans e7
        refine z_bipush (w := 13) dX12_changesOf_40 (by decide) (z_iload_n 1 dX12_changesOf_42 rfl (z_iconst (w := 1) dX12_changesOf_43 (by decide) (z_isub dX12_changesOf_44 (z_imul dX12_changesOf_45 (z_iload_n 2 dX12_changesOf_46 rfl (z_iadd dX12_changesOf_47 (z_iconst (w := 1) dX12_changesOf_48 (by decide) (z_isub dX12_changesOf_49 (z_iald dX12_changesOf_50 H6.1 H6.2.1 (z_aload_n 0 dX12_changesOf_51 rfl rfl ?_))))))))))
        obtain ⟨oe10, b8, e10, H9⟩ := H6.2.2
        refine z_getP dX12_changesOf_52 wf_X12_47 (by decide) (by decide) rfl oe10 (fun q => (by cases q.symm.trans e10)) (fun j q => ?_)
        cases q.symm.trans e10
        refine z_iload_n 1 dX12_changesOf_55 rfl (z_iconst (w := 1) dX12_changesOf_56 (by decide) (z_isub dX12_changesOf_57 (z_iald dX12_changesOf_58 H9.1 H9.2.1 (z_aload_n 0 dX12_changesOf_59 rfl rfl ?_))))
        obtain ⟨oe13, b11, e13, H12⟩ := H9.2.2
        refine z_getP dX12_changesOf_60 wf_X12_50 (by decide) (by decide) rfl oe13 (fun q => (by cases q.symm.trans e13)) (fun j q => ?_)
        cases q.symm.trans e13
        refine z_iload_n 2 dX12_changesOf_63 rfl (z_iconst (w := 1) dX12_changesOf_64 (by decide) (z_isub dX12_changesOf_65 (z_iald dX12_changesOf_66 H12.1 H12.2.1 ?_)))
        refine z_icmp_ne (t := 74) dX12_changesOf_67 (by decide) (fun q => ?_) (fun q => ?_)
        · have H14 := H12.2.2.1 q
          refine z_iconst (w := 1) dX12_changesOf_74 (by decide) (z_iadd dX12_changesOf_75 ?_)
          exact z_less [0, 1, 2] rfl H14
        · have H15 := H12.2.2.2 q
          refine z_iconst (w := 0) dX12_changesOf_70 (by decide) (z_goto (t := 75) dX12_changesOf_71 (by decide) (z_iadd dX12_changesOf_75 ?_))
          exact z_less [0, 1, 2] rfl H15
      · have H16 := H3.2 q
        refine z_iload_n 1 dX12_changesOf_32 rfl (z_goto (t := 76) dX12_changesOf_33 (by decide) ?_)
        exact z_less [0, 1, 2] rfl H16
    · have H17 := H2.2 q
      refine z_iload_n 2 dX12_changesOf_24 rfl (z_goto (t := 76) dX12_changesOf_25 (by decide) ?_)
      exact z_less [0, 1, 2] rfl H17
set_option maxRecDepth 10000 in
theorem wX12_changesOf_76 {g : zG} {I : Nat → Nat → Int32} {P : Nat → Nat → Option Nat} {r : Option Value} {h' : zH} {a0 : Nat} {x1 : Int32} {x2 : Int32} {xs0 : Int32} (H : ((x1 ≤ 0) → Zt none mX12_changesOf 0 0 120 [(0, .ref a0), (1, .int x1), (2, .int x2), (3, .int xs0)] [] (g, I, P) r h') ∧ ((¬ x1 ≤ 0) → ((x2 ≤ 0) → Zt none mX12_changesOf 0 0 120 [(0, .ref a0), (1, .int x1), (2, .int x2), (3, .int xs0)] [] (g, I, P) r h') ∧ ((¬ x2 ≤ 0) → zk g a0 12 ∧ ∃ b5, P a0 33 = some b5 ∧ zk g b5 13 ∧ vp_in ((13 * (x1 - 1)) + x2) (g.2.2 b5) ∧ ((xs0 ≤ (I b5 ((13 * (x1 - 1)) + x2).toNatClampNeg) + 1) → Zt none mX12_changesOf 0 0 120 [(0, .ref a0), (1, .int x1), (2, .int x2), (3, .int xs0)] [] (g, I, P) r h') ∧ ((¬ xs0 ≤ (I b5 ((13 * (x1 - 1)) + x2).toNatClampNeg) + 1) → zk g a0 12 ∧ ∃ b10, P a0 33 = some b10 ∧ zk g b10 13 ∧ vp_in ((13 * (x1 - 1)) + x2) (g.2.2 b10) ∧ ∀ y13 : Int32, y13 = (I b10 ((13 * (x1 - 1)) + x2).toNatClampNeg) + 1 → Zt none mX12_changesOf 0 0 120 [(0, .ref a0), (1, .int x1), (2, .int x2), (3, .int y13)] [] (g, I, P) r h')))) : Zt none mX12_changesOf 0 0 76 [(0, .ref a0), (1, .int x1), (2, .int x2)] [.int xs0] (g, I, P) r h' := by
  refine z_istore_n (lv' := [(3, .int xs0), (0, .ref a0), (1, .int x1), (2, .int x2)]) dX12_changesOf_76 (by decide) rfl (z_iload_n 2 dX12_changesOf_77 rfl ?_)
  refine z_if_le (t := 120) dX12_changesOf_78 (by decide) (fun q => ?_) (fun q => ?_)
  · have H1 := H.1 q
    exact z_less [1, 2, 3, 0] rfl H1
  · have H2 := H.2 q
    refine z_iload_n 3 dX12_changesOf_81 rfl ?_
    refine z_if_le (t := 120) dX12_changesOf_82 (by decide) (fun q => ?_) (fun q => ?_)
    · have H3 := H2.1 q
      exact z_less [1, 2, 3, 0] rfl H3
    · have H4 := H2.2 q
      refine z_aload_n 1 dX12_changesOf_85 rfl rfl ?_
      obtain ⟨oe7, b5, e7, H6⟩ := H4
      refine z_getP dX12_changesOf_86 wf_X12_53 (by decide) (by decide) rfl oe7 (fun q => (by cases q.symm.trans e7)) (fun j q => ?_)
      cases q.symm.trans e7
      refine z_bipush (w := 13) dX12_changesOf_89 (by decide) (z_iload_n 2 dX12_changesOf_91 rfl (z_iconst (w := 1) dX12_changesOf_92 (by decide) (z_isub dX12_changesOf_93 (z_imul dX12_changesOf_94 (z_iload_n 3 dX12_changesOf_95 rfl (z_iadd dX12_changesOf_96 (z_iald dX12_changesOf_97 H6.1 H6.2.1 (z_iconst (w := 1) dX12_changesOf_98 (by decide) (z_iadd dX12_changesOf_99 (z_iload_n 0 dX12_changesOf_100 rfl ?_))))))))))
      refine z_icmp_ge (t := 120) dX12_changesOf_101 (by decide) (fun q => ?_) (fun q => ?_)
      · have H8 := H6.2.2.1 q
        exact z_less [1, 2, 3, 0] rfl H8
      · have H9 := H6.2.2.2 q
        refine z_aload_n 1 dX12_changesOf_104 rfl rfl ?_
        obtain ⟨oe12, b10, e12, H11⟩ := H9
        refine z_getP dX12_changesOf_105 wf_X12_53 (by decide) (by decide) rfl oe12 (fun q => (by cases q.symm.trans e12)) (fun j q => ?_)
        cases q.symm.trans e12
        refine z_bipush (w := 13) dX12_changesOf_108 (by decide) (z_iload_n 2 dX12_changesOf_110 rfl (z_iconst (w := 1) dX12_changesOf_111 (by decide) (z_isub dX12_changesOf_112 (z_imul dX12_changesOf_113 (z_iload_n 3 dX12_changesOf_114 rfl (z_iadd dX12_changesOf_115 (z_iald dX12_changesOf_116 H11.1 H11.2.1 (z_iconst (w := 1) dX12_changesOf_117 (by decide) (z_iadd dX12_changesOf_118 ?_)))))))))
        refine z_nm (fun y13 e_y13 => ?_)
        have H14 := H11.2.2 y13 e_y13
        refine z_istore_n (lv' := [(3, .int y13), (0, .ref a0), (1, .int x1), (2, .int x2)]) dX12_changesOf_119 (by decide) rfl ?_
        exact z_less [1, 2, 3, 0] rfl H14
set_option maxRecDepth 10000 in
theorem wX12_changesOf_120 {g : zG} {I : Nat → Nat → Int32} {P : Nat → Nat → Option Nat} {r : Option Value} {h' : zH} {a0 : Nat} {x1 : Int32} {x2 : Int32} {x3 : Int32} (H : ((x1 ≤ 0) → zk g a0 12 ∧ ∃ b2, P a0 33 = some b2 ∧ zk g b2 13 ∧ vp_in ((13 * x1) + x2) (g.2.2 b2) ∧ Zt none mX12_changesOf 0 0 12 [(0, .ref a0), (1, .int x1), (2, .int (x2 + 1))] [] (g, zU I b2 ((13 * x1) + x2).toNatClampNeg x3, P) r h') ∧ ((¬ x1 ≤ 0) → ((x2 ≤ 0) → zk g a0 12 ∧ ∃ b7, P a0 33 = some b7 ∧ zk g b7 13 ∧ vp_in ((13 * x1) + x2) (g.2.2 b7) ∧ Zt none mX12_changesOf 0 0 12 [(0, .ref a0), (1, .int x1), (2, .int (x2 + 1))] [] (g, zU I b7 ((13 * x1) + x2).toNatClampNeg x3, P) r h') ∧ ((¬ x2 ≤ 0) → zk g a0 12 ∧ ∃ b11, P a0 33 = some b11 ∧ zk g b11 13 ∧ vp_in (((13 * x1) + x2) - 1) (g.2.2 b11) ∧ ((x3 ≤ (I b11 (((13 * x1) + x2) - 1).toNatClampNeg) + 1) → zk g a0 12 ∧ ∃ b15, P a0 33 = some b15 ∧ zk g b15 13 ∧ vp_in ((13 * x1) + x2) (g.2.2 b15) ∧ Zt none mX12_changesOf 0 0 12 [(0, .ref a0), (1, .int x1), (2, .int (x2 + 1))] [] (g, zU I b15 ((13 * x1) + x2).toNatClampNeg x3, P) r h') ∧ ((¬ x3 ≤ (I b11 (((13 * x1) + x2) - 1).toNatClampNeg) + 1) → zk g a0 12 ∧ ∃ b19, P a0 33 = some b19 ∧ zk g b19 13 ∧ vp_in (((13 * x1) + x2) - 1) (g.2.2 b19) ∧ ∀ y22 : Int32, y22 = (I b19 (((13 * x1) + x2) - 1).toNatClampNeg) + 1 → zk g a0 12 ∧ ∃ b24, P a0 33 = some b24 ∧ zk g b24 13 ∧ vp_in ((13 * x1) + x2) (g.2.2 b24) ∧ Zt none mX12_changesOf 0 0 12 [(0, .ref a0), (1, .int x1), (2, .int (x2 + 1))] [] (g, zU I b24 ((13 * x1) + x2).toNatClampNeg y22, P) r h')))) : Zt none mX12_changesOf 0 0 120 [(0, .ref a0), (1, .int x1), (2, .int x2), (3, .int x3)] [] (g, I, P) r h' := by
  refine z_iload_n 1 dX12_changesOf_120 rfl ?_
  refine z_if_le (t := 163) dX12_changesOf_121 (by decide) (fun q => ?_) (fun q => ?_)
  · have H1 := H.1 q
    refine z_aload_n 0 dX12_changesOf_163 rfl rfl ?_
    obtain ⟨oe4, b2, e4, H3⟩ := H1
    refine z_getP dX12_changesOf_164 wf_X12_53 (by decide) (by decide) rfl oe4 (fun q => (by cases q.symm.trans e4)) (fun j q => ?_)
    cases q.symm.trans e4
    refine z_bipush (w := 13) dX12_changesOf_167 (by decide) (z_iload_n 1 dX12_changesOf_169 rfl (z_imul dX12_changesOf_170 (z_iload_n 2 dX12_changesOf_171 rfl (z_iadd dX12_changesOf_172 (z_iload_n 3 dX12_changesOf_173 rfl (z_iast (g := g) (I := I) (Q := P) dX12_changesOf_174 H3.1 H3.2.1 (z_iinc (y := x2 + 1) (lv' := [(2, .int (x2 + 1)), (0, .ref a0), (1, .int x1), (3, .int x3)]) 2 dX12_changesOf_175 rfl rfl (by decide) rfl (z_goto (t := 12) dX12_changesOf_178 (by decide) ?_))))))))
    exact z_less [1, 2, 0] rfl H3.2.2
  · have H5 := H.2 q
    refine z_iload_n 2 dX12_changesOf_124 rfl ?_
    refine z_if_le (t := 163) dX12_changesOf_125 (by decide) (fun q => ?_) (fun q => ?_)
    · have H6 := H5.1 q
      refine z_aload_n 0 dX12_changesOf_163 rfl rfl ?_
      obtain ⟨oe9, b7, e9, H8⟩ := H6
      refine z_getP dX12_changesOf_164 wf_X12_53 (by decide) (by decide) rfl oe9 (fun q => (by cases q.symm.trans e9)) (fun j q => ?_)
      cases q.symm.trans e9
      refine z_bipush (w := 13) dX12_changesOf_167 (by decide) (z_iload_n 1 dX12_changesOf_169 rfl (z_imul dX12_changesOf_170 (z_iload_n 2 dX12_changesOf_171 rfl (z_iadd dX12_changesOf_172 (z_iload_n 3 dX12_changesOf_173 rfl (z_iast (g := g) (I := I) (Q := P) dX12_changesOf_174 H8.1 H8.2.1 (z_iinc (y := x2 + 1) (lv' := [(2, .int (x2 + 1)), (0, .ref a0), (1, .int x1), (3, .int x3)]) 2 dX12_changesOf_175 rfl rfl (by decide) rfl (z_goto (t := 12) dX12_changesOf_178 (by decide) ?_))))))))
      exact z_less [1, 2, 0] rfl H8.2.2
    · have H10 := H5.2 q
      refine z_aload_n 0 dX12_changesOf_128 rfl rfl ?_
      obtain ⟨oe13, b11, e13, H12⟩ := H10
      refine z_getP dX12_changesOf_129 wf_X12_53 (by decide) (by decide) rfl oe13 (fun q => (by cases q.symm.trans e13)) (fun j q => ?_)
      cases q.symm.trans e13
      refine z_bipush (w := 13) dX12_changesOf_132 (by decide) (z_iload_n 1 dX12_changesOf_134 rfl (z_imul dX12_changesOf_135 (z_iload_n 2 dX12_changesOf_136 rfl (z_iadd dX12_changesOf_137 (z_iconst (w := 1) dX12_changesOf_138 (by decide) (z_isub dX12_changesOf_139 (z_iald dX12_changesOf_140 H12.1 H12.2.1 (z_iconst (w := 1) dX12_changesOf_141 (by decide) (z_iadd dX12_changesOf_142 (z_iload_n 3 dX12_changesOf_143 rfl ?_))))))))))
      refine z_icmp_ge (t := 163) dX12_changesOf_144 (by decide) (fun q => ?_) (fun q => ?_)
      · have H14 := H12.2.2.1 q
        refine z_aload_n 0 dX12_changesOf_163 rfl rfl ?_
        obtain ⟨oe17, b15, e17, H16⟩ := H14
        refine z_getP dX12_changesOf_164 wf_X12_53 (by decide) (by decide) rfl oe17 (fun q => (by cases q.symm.trans e17)) (fun j q => ?_)
        cases q.symm.trans e17
        refine z_bipush (w := 13) dX12_changesOf_167 (by decide) (z_iload_n 1 dX12_changesOf_169 rfl (z_imul dX12_changesOf_170 (z_iload_n 2 dX12_changesOf_171 rfl (z_iadd dX12_changesOf_172 (z_iload_n 3 dX12_changesOf_173 rfl (z_iast (g := g) (I := I) (Q := P) dX12_changesOf_174 H16.1 H16.2.1 (z_iinc (y := x2 + 1) (lv' := [(2, .int (x2 + 1)), (0, .ref a0), (1, .int x1), (3, .int x3)]) 2 dX12_changesOf_175 rfl rfl (by decide) rfl (z_goto (t := 12) dX12_changesOf_178 (by decide) ?_))))))))
        exact z_less [1, 2, 0] rfl H16.2.2
      · have H18 := H12.2.2.2 q
        refine z_aload_n 0 dX12_changesOf_147 rfl rfl ?_
        obtain ⟨oe21, b19, e21, H20⟩ := H18
        refine z_getP dX12_changesOf_148 wf_X12_53 (by decide) (by decide) rfl oe21 (fun q => (by cases q.symm.trans e21)) (fun j q => ?_)
        cases q.symm.trans e21
        refine z_bipush (w := 13) dX12_changesOf_151 (by decide) (z_iload_n 1 dX12_changesOf_153 rfl (z_imul dX12_changesOf_154 (z_iload_n 2 dX12_changesOf_155 rfl (z_iadd dX12_changesOf_156 (z_iconst (w := 1) dX12_changesOf_157 (by decide) (z_isub dX12_changesOf_158 (z_iald dX12_changesOf_159 H20.1 H20.2.1 (z_iconst (w := 1) dX12_changesOf_160 (by decide) (z_iadd dX12_changesOf_161 ?_)))))))))
        refine z_nm (fun y22 e_y22 => ?_)
        have H23 := H20.2.2 y22 e_y22
        refine z_istore_n (lv' := [(3, .int y22), (0, .ref a0), (1, .int x1), (2, .int x2)]) dX12_changesOf_162 (by decide) rfl (z_aload_n 1 dX12_changesOf_163 rfl rfl ?_)
        obtain ⟨oe26, b24, e26, H25⟩ := H23
        refine z_getP dX12_changesOf_164 wf_X12_53 (by decide) (by decide) rfl oe26 (fun q => (by cases q.symm.trans e26)) (fun j q => ?_)
        cases q.symm.trans e26
        refine z_bipush (w := 13) dX12_changesOf_167 (by decide) (z_iload_n 2 dX12_changesOf_169 rfl (z_imul dX12_changesOf_170 (z_iload_n 3 dX12_changesOf_171 rfl (z_iadd dX12_changesOf_172 (z_iload_n 0 dX12_changesOf_173 rfl (z_iast (g := g) (I := I) (Q := P) dX12_changesOf_174 H25.1 H25.2.1 (z_iinc (y := x2 + 1) (lv' := [(2, .int (x2 + 1)), (3, .int y22), (0, .ref a0), (1, .int x1)]) 3 dX12_changesOf_175 rfl rfl (by decide) rfl (z_goto (t := 12) dX12_changesOf_178 (by decide) ?_))))))))
        exact z_less [2, 3, 0] rfl H25.2.2
theorem dX12_slips_0 : decode cX12_slips 0 = .ok (.aload_n 0, 1) := by decide +kernel
theorem dX12_slips_1 : decode cX12_slips 1 = .ok (.iload_n 1, 1) := by decide +kernel
theorem dX12_slips_2 : decode cX12_slips 2 = .ok (.invokevirtual 196, 3) := by decide +kernel
theorem dX12_slips_5 : decode cX12_slips 5 = .ok (.ifCond .eq 22, 3) := by decide +kernel
theorem dX12_slips_8 : decode cX12_slips 8 = .ok (.aload_n 0, 1) := by decide +kernel
theorem dX12_slips_9 : decode cX12_slips 9 = .ok (.iload_n 2, 1) := by decide +kernel
theorem dX12_slips_10 : decode cX12_slips 10 = .ok (.iload_n 3, 1) := by decide +kernel
theorem dX12_slips_11 : decode cX12_slips 11 = .ok (.invokevirtual 272, 3) := by decide +kernel
theorem dX12_slips_14 : decode cX12_slips 14 = .ok (.ifCond .eq 13, 3) := by decide +kernel
theorem dX12_slips_17 : decode cX12_slips 17 = .ok (.iload 4, 2) := by decide +kernel
theorem dX12_slips_19 : decode cX12_slips 19 = .ok (.iconst 0, 1) := by decide +kernel
theorem dX12_slips_20 : decode cX12_slips 20 = .ok (.iconst 3, 1) := by decide +kernel
theorem dX12_slips_21 : decode cX12_slips 21 = .ok (.invokestatic 120, 3) := by decide +kernel
theorem dX12_slips_24 : decode cX12_slips 24 = .ok (.ifCond .ne 5, 3) := by decide +kernel
theorem dX12_slips_27 : decode cX12_slips 27 = .ok (.iconst (-1), 1) := by decide +kernel
theorem dX12_slips_28 : decode cX12_slips 28 = .ok (.ireturn, 1) := by decide +kernel
theorem dX12_slips_29 : decode cX12_slips 29 = .ok (.iconst 0, 1) := by decide +kernel
theorem dX12_slips_30 : decode cX12_slips 30 = .ok (.istore 5, 2) := by decide +kernel
theorem dX12_slips_32 : decode cX12_slips 32 = .ok (.iconst 0, 1) := by decide +kernel
theorem dX12_slips_33 : decode cX12_slips 33 = .ok (.istore 6, 2) := by decide +kernel
theorem dX12_slips_35 : decode cX12_slips 35 = .ok (.iload 6, 2) := by decide +kernel
theorem dX12_slips_37 : decode cX12_slips 37 = .ok (.aload_n 0, 1) := by decide +kernel
theorem dX12_slips_38 : decode cX12_slips 38 = .ok (.getfield 190, 3) := by decide +kernel
theorem dX12_slips_41 : decode cX12_slips 41 = .ok (.if_icmp .ge 77, 3) := by decide +kernel
theorem dX12_slips_44 : decode cX12_slips 44 = .ok (.iconst 0, 1) := by decide +kernel
theorem dX12_slips_45 : decode cX12_slips 45 = .ok (.istore 7, 2) := by decide +kernel
theorem dX12_slips_47 : decode cX12_slips 47 = .ok (.iload 7, 2) := by decide +kernel
theorem dX12_slips_49 : decode cX12_slips 49 = .ok (.aload_n 0, 1) := by decide +kernel
theorem dX12_slips_50 : decode cX12_slips 50 = .ok (.getfield 269, 3) := by decide +kernel
theorem dX12_slips_53 : decode cX12_slips 53 = .ok (.if_icmp .ge 22, 3) := by decide +kernel
theorem dX12_slips_56 : decode cX12_slips 56 = .ok (.aload_n 0, 1) := by decide +kernel
theorem dX12_slips_57 : decode cX12_slips 57 = .ok (.getfield 47, 3) := by decide +kernel
theorem dX12_slips_60 : decode cX12_slips 60 = .ok (.iload 7, 2) := by decide +kernel
theorem dX12_slips_62 : decode cX12_slips 62 = .ok (.aload_n 0, 1) := by decide +kernel
theorem dX12_slips_63 : decode cX12_slips 63 = .ok (.iload 7, 2) := by decide +kernel
theorem dX12_slips_65 : decode cX12_slips 65 = .ok (.invokevirtual 275, 3) := by decide +kernel
theorem dX12_slips_68 : decode cX12_slips 68 = .ok (.iastore, 1) := by decide +kernel
theorem dX12_slips_69 : decode cX12_slips 69 = .ok (.iinc 7 1, 3) := by decide +kernel
theorem dX12_slips_72 : decode cX12_slips 72 = .ok (.goto (-25), 3) := by decide +kernel
theorem dX12_slips_75 : decode cX12_slips 75 = .ok (.aload_n 0, 1) := by decide +kernel
theorem dX12_slips_76 : decode cX12_slips 76 = .ok (.aload_n 0, 1) := by decide +kernel
theorem dX12_slips_77 : decode cX12_slips 77 = .ok (.getfield 269, 3) := by decide +kernel
theorem dX12_slips_80 : decode cX12_slips 80 = .ok (.putfield 309, 3) := by decide +kernel
theorem dX12_slips_83 : decode cX12_slips 83 = .ok (.aload_n 0, 1) := by decide +kernel
theorem dX12_slips_84 : decode cX12_slips 84 = .ok (.iload 6, 2) := by decide +kernel
theorem dX12_slips_86 : decode cX12_slips 86 = .ok (.iconst 0, 1) := by decide +kernel
theorem dX12_slips_87 : decode cX12_slips 87 = .ok (.invokevirtual 315, 3) := by decide +kernel
theorem dX12_slips_90 : decode cX12_slips 90 = .ok (.iload 5, 2) := by decide +kernel
theorem dX12_slips_92 : decode cX12_slips 92 = .ok (.aload_n 0, 1) := by decide +kernel
theorem dX12_slips_93 : decode cX12_slips 93 = .ok (.invokevirtual 319, 3) := by decide +kernel
theorem dX12_slips_96 : decode cX12_slips 96 = .ok (.iload 4, 2) := by decide +kernel
theorem dX12_slips_98 : decode cX12_slips 98 = .ok (.if_icmp .gt 10, 3) := by decide +kernel
theorem dX12_slips_101 : decode cX12_slips 101 = .ok (.iconst 1, 1) := by decide +kernel
theorem dX12_slips_102 : decode cX12_slips 102 = .ok (.iload 6, 2) := by decide +kernel
theorem dX12_slips_104 : decode cX12_slips 104 = .ok (.ishl, 1) := by decide +kernel
theorem dX12_slips_105 : decode cX12_slips 105 = .ok (.goto 4, 3) := by decide +kernel
theorem dX12_slips_108 : decode cX12_slips 108 = .ok (.iconst 0, 1) := by decide +kernel
theorem dX12_slips_109 : decode cX12_slips 109 = .ok (.ior, 1) := by decide +kernel
theorem dX12_slips_110 : decode cX12_slips 110 = .ok (.istore 5, 2) := by decide +kernel
theorem dX12_slips_112 : decode cX12_slips 112 = .ok (.iinc 6 1, 3) := by decide +kernel
theorem dX12_slips_115 : decode cX12_slips 115 = .ok (.goto (-80), 3) := by decide +kernel
theorem dX12_slips_118 : decode cX12_slips 118 = .ok (.iload 5, 2) := by decide +kernel
theorem dX12_slips_120 : decode cX12_slips 120 = .ok (.ireturn, 1) := by decide +kernel
set_option maxRecDepth 10000 in
theorem wX12_slips_0 {g : zG} {I : Nat → Nat → Int32} {P : Nat → Nat → Option Nat} {r : Option Value} {h' : zH} {a0 : Nat} {x1 : Int32} {x2 : Int32} {x3 : Int32} {x4 : Int32} (H : zk g a0 12 ∧ ∃ (w1 : Int32) (I2 : Nat → Nat → Int32), Cl mX12_isHill [.ref a0, .int x1] (g, I, P) (some (.int w1)) (g, I2, P) ∧ ((w1 = 0) → r = some (.int (-1)) ∧ h' = (g, I2, P)) ∧ ((¬ w1 = 0) → zk g a0 12 ∧ ∃ (w7 : Int32) (I8 : Nat → Nat → Int32), Cl mX12_isLine [.ref a0, .int x2, .int x3] (g, I2, P) (some (.int w7)) (g, I8, P) ∧ ((w7 = 0) → r = some (.int (-1)) ∧ h' = (g, I8, P)) ∧ ((¬ w7 = 0) → ∃ (w13 : Int32), Cl mX12_isIn [.int x4, .int 0, .int 3] (g, I8, P) (some (.int w13)) (g, I8, P) ∧ ((¬ w13 = 0) → Zt none mX12_slips 0 0 35 [(0, .ref a0), (4, .int x4), (5, .int 0), (6, .int 0)] [] (g, I8, P) r h') ∧ ((w13 = 0) → r = some (.int (-1)) ∧ h' = (g, I8, P))))) : Zt none mX12_slips 0 0 0 [(0, .ref a0), (1, .int x1), (2, .int x2), (3, .int x3), (4, .int x4)] [] (g, I, P) r h' := by
  refine z_aload_n 0 dX12_slips_0 rfl rfl (z_iload_n 1 dX12_slips_1 rfl ?_)
  obtain ⟨oc3, w1, I2, c3, H4⟩ := H
  refine z_virt (As := [.int x1]) (st := []) (r1 := (some (.int w1))) (h1 := (g, I2, P)) dX12_slips_2 kX12_isHill wm_X12_196 ⟨by decide, by decide⟩ rfl rfl (Nat.le_of_ble_eq_true rfl) (by decide) (by decide) oc3 c3 ?_
  refine z_if_eq (t := 27) dX12_slips_5 (by decide) (fun q => ?_) (fun q => ?_)
  · have H5 := H4.1 q
    refine z_iconst (w := (-1)) dX12_slips_27 (by decide) ?_
    obtain ⟨rfl, rfl⟩ := H5
    exact z_iret dX12_slips_28 rfl (by decide) (by decide)
  · have H6 := H4.2 q
    refine z_aload_n 0 dX12_slips_8 rfl rfl (z_iload_n 2 dX12_slips_9 rfl (z_iload_n 3 dX12_slips_10 rfl ?_))
    obtain ⟨oc9, w7, I8, c9, H10⟩ := H6
    refine z_virt (As := [.int x2, .int x3]) (st := []) (r1 := (some (.int w7))) (h1 := (g, I8, P)) dX12_slips_11 kX12_isLine wm_X12_272 ⟨by decide, by decide⟩ rfl rfl (Nat.le_of_ble_eq_true rfl) (by decide) (by decide) oc9 c9 ?_
    refine z_if_eq (t := 27) dX12_slips_14 (by decide) (fun q => ?_) (fun q => ?_)
    · have H11 := H10.1 q
      refine z_iconst (w := (-1)) dX12_slips_27 (by decide) ?_
      obtain ⟨rfl, rfl⟩ := H11
      exact z_iret dX12_slips_28 rfl (by decide) (by decide)
    · have H12 := H10.2 q
      refine z_iload 4 dX12_slips_17 rfl (z_iconst (w := 0) dX12_slips_19 (by decide) (z_iconst (w := 3) dX12_slips_20 (by decide) ?_))
      obtain ⟨w13, c14, H15⟩ := H12
      refine z_stat (As := [.int x4, .int 0, .int 3]) (st := []) (r1 := (some (.int w13))) (h1 := (g, I8, P)) dX12_slips_21 kX12_isIn wm_X12_120 ⟨by decide, by decide⟩ rfl rfl (Nat.le_of_ble_eq_true rfl) (by decide) (by decide) c14 ?_
      refine z_if_ne (t := 29) dX12_slips_24 (by decide) (fun q => ?_) (fun q => ?_)
      · have H16 := H15.1 q
        refine z_iconst (w := 0) dX12_slips_29 (by decide) (z_istore (lv' := [(5, .int 0), (0, .ref a0), (1, .int x1), (2, .int x2), (3, .int x3), (4, .int x4)]) dX12_slips_30 (by decide) rfl (z_iconst (w := 0) dX12_slips_32 (by decide) (z_istore (lv' := [(6, .int 0), (5, .int 0), (0, .ref a0), (1, .int x1), (2, .int x2), (3, .int x3), (4, .int x4)]) dX12_slips_33 (by decide) rfl ?_)))
        exact z_less [2, 6, 1, 0] rfl H16
      · have H17 := H15.2 q
        refine z_iconst (w := (-1)) dX12_slips_27 (by decide) ?_
        obtain ⟨rfl, rfl⟩ := H17
        exact z_iret dX12_slips_28 rfl (by decide) (by decide)
theorem eX12_slips {g : zG} {I : Nat → Nat → Int32} {P : Nat → Nat → Option Nat} {r : Option Value} {h' : zH} {a0 : Nat} {x1 : Int32} {x2 : Int32} {x3 : Int32} {x4 : Int32} (H : Zt none mX12_slips 0 0 0 [(0, .ref a0), (1, .int x1), (2, .int x2), (3, .int x3), (4, .int x4)] [] (g, I, P) r h') : Cl mX12_slips [.ref a0, .int x1, .int x2, .int x3, .int x4] (g, I, P) r h' := Cl.of (by decide) (Nat.le_of_ble_eq_true rfl) H
set_option maxRecDepth 10000 in
theorem wX12_slips_35 {g : zG} {I : Nat → Nat → Int32} {P : Nat → Nat → Option Nat} {r : Option Value} {h' : zH} {a0 : Nat} {x4 : Int32} {x5 : Int32} {x6 : Int32} (H : zk g a0 12 ∧ ((I a0 15 ≤ x6) → r = some (.int x5) ∧ h' = (g, I, P)) ∧ ((¬ I a0 15 ≤ x6) → Zt none mX12_slips 0 0 47 [(0, .ref a0), (4, .int x4), (5, .int x5), (6, .int x6), (7, .int 0)] [] (g, I, P) r h')) : Zt none mX12_slips 0 0 35 [(0, .ref a0), (4, .int x4), (5, .int x5), (6, .int x6)] [] (g, I, P) r h' := by
  refine z_iload 3 dX12_slips_35 rfl (z_aload_n 0 dX12_slips_37 rfl rfl (z_getI dX12_slips_38 wf_X12_190 (by decide) (by decide) rfl H.1 ?_))
  refine z_icmp_ge (t := 118) dX12_slips_41 (by decide) (fun q => ?_) (fun q => ?_)
  · have H1 := H.2.1 q
    refine z_iload 2 dX12_slips_118 rfl ?_
    obtain ⟨rfl, rfl⟩ := H1
    exact z_iret dX12_slips_120 rfl (by decide) (by decide)
  · have H2 := H.2.2 q
    refine z_iconst (w := 0) dX12_slips_44 (by decide) (z_istore (lv' := [(7, .int 0), (0, .ref a0), (4, .int x4), (5, .int x5), (6, .int x6)]) dX12_slips_45 (by decide) rfl ?_)
    exact z_less [1, 2, 3, 4, 0] rfl H2
set_option maxRecDepth 10000 in
theorem wX12_slips_47 {g : zG} {I : Nat → Nat → Int32} {P : Nat → Nat → Option Nat} {r : Option Value} {h' : zH} {a0 : Nat} {x4 : Int32} {x5 : Int32} {x6 : Int32} {x7 : Int32} (H : zk g a0 12 ∧ ((I a0 27 ≤ x7) → zk g a0 12 ∧ zk g a0 12 ∧ zk g a0 12 ∧ ∃ (I2 : Nat → Nat → Int32), Cl mX12_takesWord [.ref a0, .int x6, .int 0] (g, zU I a0 31 (I a0 27), P) none (g, I2, P) ∧ zk g a0 12 ∧ ∃ (w5 : Int32) (I6 : Nat → Nat → Int32), Cl mX12_changesOf [.ref a0] (g, I2, P) (some (.int w5)) (g, I6, P) ∧ ((x4 < w5) → Zt none mX12_slips 0 0 35 [(0, .ref a0), (4, .int x4), (5, .int (x5 ||| 0)), (6, .int (x6 + 1))] [] (g, I6, P) r h') ∧ ((¬ x4 < w5) → ∀ y11 : Int32, y11 = x5 ||| ((1 : Int32) <<< (x6 &&& 31)) → Zt none mX12_slips 0 0 35 [(0, .ref a0), (4, .int x4), (5, .int y11), (6, .int (x6 + 1))] [] (g, I6, P) r h')) ∧ ((¬ I a0 27 ≤ x7) → zk g a0 12 ∧ ∃ b14, P a0 29 = some b14 ∧ zk g a0 12 ∧ ∃ (w17 : Int32), Cl mX12_inLine [.ref a0, .int x7] (g, I, P) (some (.int w17)) (g, I, P) ∧ zk g b14 13 ∧ vp_in x7 (g.2.2 b14) ∧ Zt none mX12_slips 0 0 47 [(0, .ref a0), (4, .int x4), (5, .int x5), (6, .int x6), (7, .int (x7 + 1))] [] (g, zU I b14 x7.toNatClampNeg w17, P) r h')) : Zt none mX12_slips 0 0 47 [(0, .ref a0), (4, .int x4), (5, .int x5), (6, .int x6), (7, .int x7)] [] (g, I, P) r h' := by
  refine z_iload 4 dX12_slips_47 rfl (z_aload_n 0 dX12_slips_49 rfl rfl (z_getI dX12_slips_50 wf_X12_269 (by decide) (by decide) rfl H.1 ?_))
  refine z_icmp_ge (t := 75) dX12_slips_53 (by decide) (fun q => ?_) (fun q => ?_)
  · have H1 := H.2.1 q
    refine z_aload_n 0 dX12_slips_75 rfl rfl (z_aload_n 0 dX12_slips_76 rfl rfl (z_getI dX12_slips_77 wf_X12_269 (by decide) (by decide) rfl H1.1 (z_putI (g := g) (I := I) (Q := P) dX12_slips_80 wf_X12_309 (by decide) (by decide) rfl (Or.inl rfl) (zfit_int rfl) H1.2.1 (z_aload_n 0 dX12_slips_83 rfl rfl (z_iload 3 dX12_slips_84 rfl (z_iconst (w := 0) dX12_slips_86 (by decide) ?_))))))
    obtain ⟨oc3, I2, c3, H4⟩ := H1.2.2
    refine z_virt (As := [.int x6, .int 0]) (st := []) (r1 := none) (h1 := (g, I2, P)) dX12_slips_87 kX12_takesWord wm_X12_315 ⟨by decide, by decide⟩ rfl rfl (Nat.le_of_ble_eq_true rfl) (by decide) (by decide) oc3 c3 ?_
    refine z_iload 2 dX12_slips_90 rfl (z_aload_n 0 dX12_slips_92 rfl rfl ?_)
    obtain ⟨oc7, w5, I6, c7, H8⟩ := H4
    refine z_virt (As := []) (st := [.int x5]) (r1 := (some (.int w5))) (h1 := (g, I6, P)) dX12_slips_93 kX12_changesOf wm_X12_319 ⟨by decide, by decide⟩ rfl rfl (Nat.le_of_ble_eq_true rfl) (by decide) (by decide) oc7 c7 ?_
    refine z_iload 1 dX12_slips_96 rfl ?_
    refine z_icmp_gt (t := 108) dX12_slips_98 (by decide) (fun q => ?_) (fun q => ?_)
    · have H9 := H8.1 q
      refine z_iconst (w := 0) dX12_slips_108 (by decide) (z_ior dX12_slips_109 (z_istore (lv' := [(5, .int (x5 ||| 0)), (0, .ref a0), (4, .int x4), (6, .int x6), (7, .int x7)]) dX12_slips_110 (by decide) rfl (z_iinc (y := x6 + 1) (lv' := [(6, .int (x6 + 1)), (5, .int (x5 ||| 0)), (0, .ref a0), (4, .int x4), (7, .int x7)]) 3 dX12_slips_112 rfl rfl (by decide) rfl (z_goto (t := 35) dX12_slips_115 (by decide) ?_))))
      exact z_less [2, 3, 1, 0] rfl H9
    · have H10 := H8.2 q
      refine z_iconst (w := 1) dX12_slips_101 (by decide) (z_iload 3 dX12_slips_102 rfl (z_ishl dX12_slips_104 (z_goto (t := 109) dX12_slips_105 (by decide) (z_ior dX12_slips_109 ?_))))
      refine z_nm (fun y11 e_y11 => ?_)
      have H12 := H10 y11 e_y11
      refine z_istore (lv' := [(5, .int y11), (0, .ref a0), (4, .int x4), (6, .int x6), (7, .int x7)]) dX12_slips_110 (by decide) rfl (z_iinc (y := x6 + 1) (lv' := [(6, .int (x6 + 1)), (5, .int y11), (0, .ref a0), (4, .int x4), (7, .int x7)]) 3 dX12_slips_112 rfl rfl (by decide) rfl (z_goto (t := 35) dX12_slips_115 (by decide) ?_))
      exact z_less [2, 3, 1, 0] rfl H12
  · have H13 := H.2.2 q
    refine z_aload_n 0 dX12_slips_56 rfl rfl ?_
    obtain ⟨oe16, b14, e16, H15⟩ := H13
    refine z_getP dX12_slips_57 wf_X12_47 (by decide) (by decide) rfl oe16 (fun q => (by cases q.symm.trans e16)) (fun j q => ?_)
    cases q.symm.trans e16
    refine z_iload 4 dX12_slips_60 rfl (z_aload_n 0 dX12_slips_62 rfl rfl (z_iload 4 dX12_slips_63 rfl ?_))
    obtain ⟨oc18, w17, c18, H19⟩ := H15
    refine z_virt (As := [.int x7]) (st := [.int x7, .ref b14]) (r1 := (some (.int w17))) (h1 := (g, I, P)) dX12_slips_65 kX12_inLine wm_X12_275 ⟨by decide, by decide⟩ rfl rfl (Nat.le_of_ble_eq_true rfl) (by decide) (by decide) oc18 c18 ?_
    refine z_iast (g := g) (I := I) (Q := P) dX12_slips_68 H19.1 H19.2.1 (z_iinc (y := x7 + 1) (lv' := [(7, .int (x7 + 1)), (0, .ref a0), (4, .int x4), (5, .int x5), (6, .int x6)]) 4 dX12_slips_69 rfl rfl (by decide) rfl (z_goto (t := 47) dX12_slips_72 (by decide) ?_))
    exact z_less [1, 2, 3, 4, 0] rfl H19.2.2
theorem dX12_echo_0 : decode cX12_echo 0 = .ok (.aload_n 0, 1) := by decide +kernel
theorem dX12_echo_1 : decode cX12_echo 1 = .ok (.iload_n 1, 1) := by decide +kernel
theorem dX12_echo_2 : decode cX12_echo 2 = .ok (.iload_n 3, 1) := by decide +kernel
theorem dX12_echo_3 : decode cX12_echo 3 = .ok (.invokevirtual 272, 3) := by decide +kernel
theorem dX12_echo_6 : decode cX12_echo 6 = .ok (.ifCond .ne 6, 3) := by decide +kernel
theorem dX12_echo_9 : decode cX12_echo 9 = .ok (.bipush (-2), 2) := by decide +kernel
theorem dX12_echo_11 : decode cX12_echo 11 = .ok (.ireturn, 1) := by decide +kernel
theorem dX12_echo_12 : decode cX12_echo 12 = .ok (.iconst 0, 1) := by decide +kernel
theorem dX12_echo_13 : decode cX12_echo 13 = .ok (.istore 5, 2) := by decide +kernel
theorem dX12_echo_15 : decode cX12_echo 15 = .ok (.iload 5, 2) := by decide +kernel
theorem dX12_echo_17 : decode cX12_echo 17 = .ok (.aload_n 0, 1) := by decide +kernel
theorem dX12_echo_18 : decode cX12_echo 18 = .ok (.getfield 269, 3) := by decide +kernel
theorem dX12_echo_21 : decode cX12_echo 21 = .ok (.if_icmp .ge 22, 3) := by decide +kernel
theorem dX12_echo_24 : decode cX12_echo 24 = .ok (.aload_n 0, 1) := by decide +kernel
theorem dX12_echo_25 : decode cX12_echo 25 = .ok (.getfield 50, 3) := by decide +kernel
theorem dX12_echo_28 : decode cX12_echo 28 = .ok (.iload 5, 2) := by decide +kernel
theorem dX12_echo_30 : decode cX12_echo 30 = .ok (.aload_n 0, 1) := by decide +kernel
theorem dX12_echo_31 : decode cX12_echo 31 = .ok (.iload 5, 2) := by decide +kernel
theorem dX12_echo_33 : decode cX12_echo 33 = .ok (.invokevirtual 275, 3) := by decide +kernel
theorem dX12_echo_36 : decode cX12_echo 36 = .ok (.iastore, 1) := by decide +kernel
theorem dX12_echo_37 : decode cX12_echo 37 = .ok (.iinc 5 1, 3) := by decide +kernel
theorem dX12_echo_40 : decode cX12_echo 40 = .ok (.goto (-25), 3) := by decide +kernel
theorem dX12_echo_43 : decode cX12_echo 43 = .ok (.aload_n 0, 1) := by decide +kernel
theorem dX12_echo_44 : decode cX12_echo 44 = .ok (.aload_n 0, 1) := by decide +kernel
theorem dX12_echo_45 : decode cX12_echo 45 = .ok (.getfield 269, 3) := by decide +kernel
theorem dX12_echo_48 : decode cX12_echo 48 = .ok (.putfield 312, 3) := by decide +kernel
theorem dX12_echo_51 : decode cX12_echo 51 = .ok (.aload_n 0, 1) := by decide +kernel
theorem dX12_echo_52 : decode cX12_echo 52 = .ok (.iload_n 1, 1) := by decide +kernel
theorem dX12_echo_53 : decode cX12_echo 53 = .ok (.iload_n 2, 1) := by decide +kernel
theorem dX12_echo_54 : decode cX12_echo 54 = .ok (.invokevirtual 272, 3) := by decide +kernel
theorem dX12_echo_57 : decode cX12_echo 57 = .ok (.ifCond .ne 6, 3) := by decide +kernel
theorem dX12_echo_60 : decode cX12_echo 60 = .ok (.bipush (-2), 2) := by decide +kernel
theorem dX12_echo_62 : decode cX12_echo 62 = .ok (.ireturn, 1) := by decide +kernel
theorem dX12_echo_63 : decode cX12_echo 63 = .ok (.iconst 0, 1) := by decide +kernel
theorem dX12_echo_64 : decode cX12_echo 64 = .ok (.istore 5, 2) := by decide +kernel
theorem dX12_echo_66 : decode cX12_echo 66 = .ok (.iconst (-1), 1) := by decide +kernel
theorem dX12_echo_67 : decode cX12_echo 67 = .ok (.istore 6, 2) := by decide +kernel
theorem dX12_echo_69 : decode cX12_echo 69 = .ok (.iconst 0, 1) := by decide +kernel
theorem dX12_echo_70 : decode cX12_echo 70 = .ok (.istore 7, 2) := by decide +kernel
theorem dX12_echo_72 : decode cX12_echo 72 = .ok (.iload 7, 2) := by decide +kernel
theorem dX12_echo_74 : decode cX12_echo 74 = .ok (.aload_n 0, 1) := by decide +kernel
theorem dX12_echo_75 : decode cX12_echo 75 = .ok (.getfield 269, 3) := by decide +kernel
theorem dX12_echo_78 : decode cX12_echo 78 = .ok (.if_icmp .ge 100, 3) := by decide +kernel
theorem dX12_echo_81 : decode cX12_echo 81 = .ok (.iconst 0, 1) := by decide +kernel
theorem dX12_echo_82 : decode cX12_echo 82 = .ok (.istore 8, 2) := by decide +kernel
theorem dX12_echo_84 : decode cX12_echo 84 = .ok (.iload 8, 2) := by decide +kernel
theorem dX12_echo_86 : decode cX12_echo 86 = .ok (.aload_n 0, 1) := by decide +kernel
theorem dX12_echo_87 : decode cX12_echo 87 = .ok (.getfield 312, 3) := by decide +kernel
theorem dX12_echo_90 : decode cX12_echo 90 = .ok (.if_icmp .ge 82, 3) := by decide +kernel
theorem dX12_echo_93 : decode cX12_echo 93 = .ok (.iconst 0, 1) := by decide +kernel
theorem dX12_echo_94 : decode cX12_echo 94 = .ok (.istore 9, 2) := by decide +kernel
theorem dX12_echo_96 : decode cX12_echo 96 = .ok (.iload 7, 2) := by decide +kernel
theorem dX12_echo_98 : decode cX12_echo 98 = .ok (.iload 9, 2) := by decide +kernel
theorem dX12_echo_100 : decode cX12_echo 100 = .ok (.iadd, 1) := by decide +kernel
theorem dX12_echo_101 : decode cX12_echo 101 = .ok (.aload_n 0, 1) := by decide +kernel
theorem dX12_echo_102 : decode cX12_echo 102 = .ok (.getfield 269, 3) := by decide +kernel
theorem dX12_echo_105 : decode cX12_echo 105 = .ok (.if_icmp .ge 43, 3) := by decide +kernel
theorem dX12_echo_108 : decode cX12_echo 108 = .ok (.iload 8, 2) := by decide +kernel
theorem dX12_echo_110 : decode cX12_echo 110 = .ok (.iload 9, 2) := by decide +kernel
theorem dX12_echo_112 : decode cX12_echo 112 = .ok (.iadd, 1) := by decide +kernel
theorem dX12_echo_113 : decode cX12_echo 113 = .ok (.aload_n 0, 1) := by decide +kernel
theorem dX12_echo_114 : decode cX12_echo 114 = .ok (.getfield 312, 3) := by decide +kernel
theorem dX12_echo_117 : decode cX12_echo 117 = .ok (.if_icmp .ge 31, 3) := by decide +kernel
theorem dX12_echo_120 : decode cX12_echo 120 = .ok (.aload_n 0, 1) := by decide +kernel
theorem dX12_echo_121 : decode cX12_echo 121 = .ok (.iload 7, 2) := by decide +kernel
theorem dX12_echo_123 : decode cX12_echo 123 = .ok (.iload 9, 2) := by decide +kernel
theorem dX12_echo_125 : decode cX12_echo 125 = .ok (.iadd, 1) := by decide +kernel
theorem dX12_echo_126 : decode cX12_echo 126 = .ok (.invokevirtual 275, 3) := by decide +kernel
theorem dX12_echo_129 : decode cX12_echo 129 = .ok (.aload_n 0, 1) := by decide +kernel
theorem dX12_echo_130 : decode cX12_echo 130 = .ok (.getfield 50, 3) := by decide +kernel
theorem dX12_echo_133 : decode cX12_echo 133 = .ok (.iload 8, 2) := by decide +kernel
theorem dX12_echo_135 : decode cX12_echo 135 = .ok (.iload 9, 2) := by decide +kernel
theorem dX12_echo_137 : decode cX12_echo 137 = .ok (.iadd, 1) := by decide +kernel
theorem dX12_echo_138 : decode cX12_echo 138 = .ok (.iaload, 1) := by decide +kernel
theorem dX12_echo_139 : decode cX12_echo 139 = .ok (.if_icmp .ne 9, 3) := by decide +kernel
theorem dX12_echo_142 : decode cX12_echo 142 = .ok (.iinc 9 1, 3) := by decide +kernel
theorem dX12_echo_145 : decode cX12_echo 145 = .ok (.goto (-49), 3) := by decide +kernel
theorem dX12_echo_148 : decode cX12_echo 148 = .ok (.iload 9, 2) := by decide +kernel
theorem dX12_echo_150 : decode cX12_echo 150 = .ok (.iload 5, 2) := by decide +kernel
theorem dX12_echo_152 : decode cX12_echo 152 = .ok (.if_icmp .gt 6, 3) := by decide +kernel
theorem dX12_echo_155 : decode cX12_echo 155 = .ok (.goto 11, 3) := by decide +kernel
theorem dX12_echo_158 : decode cX12_echo 158 = .ok (.iload 9, 2) := by decide +kernel
theorem dX12_echo_160 : decode cX12_echo 160 = .ok (.istore 5, 2) := by decide +kernel
theorem dX12_echo_162 : decode cX12_echo 162 = .ok (.iload 7, 2) := by decide +kernel
theorem dX12_echo_164 : decode cX12_echo 164 = .ok (.istore 6, 2) := by decide +kernel
theorem dX12_echo_166 : decode cX12_echo 166 = .ok (.iinc 8 1, 3) := by decide +kernel
theorem dX12_echo_169 : decode cX12_echo 169 = .ok (.goto (-85), 3) := by decide +kernel
theorem dX12_echo_172 : decode cX12_echo 172 = .ok (.iinc 7 1, 3) := by decide +kernel
theorem dX12_echo_175 : decode cX12_echo 175 = .ok (.goto (-103), 3) := by decide +kernel
theorem dX12_echo_178 : decode cX12_echo 178 = .ok (.iload 4, 2) := by decide +kernel
theorem dX12_echo_180 : decode cX12_echo 180 = .ok (.ifCond .eq 8, 3) := by decide +kernel
theorem dX12_echo_183 : decode cX12_echo 183 = .ok (.iload 6, 2) := by decide +kernel
theorem dX12_echo_185 : decode cX12_echo 185 = .ok (.goto 5, 3) := by decide +kernel
theorem dX12_echo_188 : decode cX12_echo 188 = .ok (.iload 5, 2) := by decide +kernel
theorem dX12_echo_190 : decode cX12_echo 190 = .ok (.ireturn, 1) := by decide +kernel
set_option maxRecDepth 10000 in
theorem wX12_echo_0 {g : zG} {I : Nat → Nat → Int32} {P : Nat → Nat → Option Nat} {r : Option Value} {h' : zH} {a0 : Nat} {x1 : Int32} {x2 : Int32} {x3 : Int32} {x4 : Int32} (H : zk g a0 12 ∧ ∃ (w1 : Int32) (I2 : Nat → Nat → Int32), Cl mX12_isLine [.ref a0, .int x1, .int x3] (g, I, P) (some (.int w1)) (g, I2, P) ∧ ((¬ w1 = 0) → Zt none mX12_echo 0 0 15 [(0, .ref a0), (1, .int x1), (2, .int x2), (4, .int x4), (5, .int 0)] [] (g, I2, P) r h') ∧ ((w1 = 0) → r = some (.int (-2)) ∧ h' = (g, I2, P))) : Zt none mX12_echo 0 0 0 [(0, .ref a0), (1, .int x1), (2, .int x2), (3, .int x3), (4, .int x4)] [] (g, I, P) r h' := by
  refine z_aload_n 0 dX12_echo_0 rfl rfl (z_iload_n 1 dX12_echo_1 rfl (z_iload_n 3 dX12_echo_2 rfl ?_))
  obtain ⟨oc3, w1, I2, c3, H4⟩ := H
  refine z_virt (As := [.int x1, .int x3]) (st := []) (r1 := (some (.int w1))) (h1 := (g, I2, P)) dX12_echo_3 kX12_isLine wm_X12_272 ⟨by decide, by decide⟩ rfl rfl (Nat.le_of_ble_eq_true rfl) (by decide) (by decide) oc3 c3 ?_
  refine z_if_ne (t := 12) dX12_echo_6 (by decide) (fun q => ?_) (fun q => ?_)
  · have H5 := H4.1 q
    refine z_iconst (w := 0) dX12_echo_12 (by decide) (z_istore (lv' := [(5, .int 0), (0, .ref a0), (1, .int x1), (2, .int x2), (3, .int x3), (4, .int x4)]) dX12_echo_13 (by decide) rfl ?_)
    exact z_less [1, 2, 3, 5, 0] rfl H5
  · have H6 := H4.2 q
    refine z_bipush (w := (-2)) dX12_echo_9 (by decide) ?_
    obtain ⟨rfl, rfl⟩ := H6
    exact z_iret dX12_echo_11 rfl (by decide) (by decide)
theorem eX12_echo {g : zG} {I : Nat → Nat → Int32} {P : Nat → Nat → Option Nat} {r : Option Value} {h' : zH} {a0 : Nat} {x1 : Int32} {x2 : Int32} {x3 : Int32} {x4 : Int32} (H : Zt none mX12_echo 0 0 0 [(0, .ref a0), (1, .int x1), (2, .int x2), (3, .int x3), (4, .int x4)] [] (g, I, P) r h') : Cl mX12_echo [.ref a0, .int x1, .int x2, .int x3, .int x4] (g, I, P) r h' := Cl.of (by decide) (Nat.le_of_ble_eq_true rfl) H
set_option maxRecDepth 10000 in
theorem wX12_echo_15 {g : zG} {I : Nat → Nat → Int32} {P : Nat → Nat → Option Nat} {r : Option Value} {h' : zH} {a0 : Nat} {x1 : Int32} {x2 : Int32} {x4 : Int32} {x5 : Int32} (H : zk g a0 12 ∧ ((I a0 27 ≤ x5) → zk g a0 12 ∧ zk g a0 12 ∧ zk g a0 12 ∧ ∃ (w2 : Int32) (I3 : Nat → Nat → Int32), Cl mX12_isLine [.ref a0, .int x1, .int x2] (g, zU I a0 32 (I a0 27), P) (some (.int w2)) (g, I3, P) ∧ ((¬ w2 = 0) → Zt none mX12_echo 0 0 72 [(0, .ref a0), (4, .int x4), (5, .int 0), (6, .int (-1)), (7, .int 0)] [] (g, I3, P) r h') ∧ ((w2 = 0) → r = some (.int (-2)) ∧ h' = (g, I3, P))) ∧ ((¬ I a0 27 ≤ x5) → zk g a0 12 ∧ ∃ b9, P a0 30 = some b9 ∧ zk g a0 12 ∧ ∃ (w12 : Int32), Cl mX12_inLine [.ref a0, .int x5] (g, I, P) (some (.int w12)) (g, I, P) ∧ zk g b9 13 ∧ vp_in x5 (g.2.2 b9) ∧ Zt none mX12_echo 0 0 15 [(0, .ref a0), (1, .int x1), (2, .int x2), (4, .int x4), (5, .int (x5 + 1))] [] (g, zU I b9 x5.toNatClampNeg w12, P) r h')) : Zt none mX12_echo 0 0 15 [(0, .ref a0), (1, .int x1), (2, .int x2), (4, .int x4), (5, .int x5)] [] (g, I, P) r h' := by
  refine z_iload 4 dX12_echo_15 rfl (z_aload_n 0 dX12_echo_17 rfl rfl (z_getI dX12_echo_18 wf_X12_269 (by decide) (by decide) rfl H.1 ?_))
  refine z_icmp_ge (t := 43) dX12_echo_21 (by decide) (fun q => ?_) (fun q => ?_)
  · have H1 := H.2.1 q
    refine z_aload_n 0 dX12_echo_43 rfl rfl (z_aload_n 0 dX12_echo_44 rfl rfl (z_getI dX12_echo_45 wf_X12_269 (by decide) (by decide) rfl H1.1 (z_putI (g := g) (I := I) (Q := P) dX12_echo_48 wf_X12_312 (by decide) (by decide) rfl (Or.inl rfl) (zfit_int rfl) H1.2.1 (z_aload_n 0 dX12_echo_51 rfl rfl (z_iload_n 1 dX12_echo_52 rfl (z_iload_n 2 dX12_echo_53 rfl ?_))))))
    obtain ⟨oc4, w2, I3, c4, H5⟩ := H1.2.2
    refine z_virt (As := [.int x1, .int x2]) (st := []) (r1 := (some (.int w2))) (h1 := (g, I3, P)) dX12_echo_54 kX12_isLine wm_X12_272 ⟨by decide, by decide⟩ rfl rfl (Nat.le_of_ble_eq_true rfl) (by decide) (by decide) oc4 c4 ?_
    refine z_if_ne (t := 63) dX12_echo_57 (by decide) (fun q => ?_) (fun q => ?_)
    · have H6 := H5.1 q
      refine z_iconst (w := 0) dX12_echo_63 (by decide) (z_istore (lv' := [(5, .int 0), (0, .ref a0), (1, .int x1), (2, .int x2), (4, .int x4)]) dX12_echo_64 (by decide) rfl (z_iconst (w := (-1)) dX12_echo_66 (by decide) (z_istore (lv' := [(6, .int (-1)), (5, .int 0), (0, .ref a0), (1, .int x1), (2, .int x2), (4, .int x4)]) dX12_echo_67 (by decide) rfl (z_iconst (w := 0) dX12_echo_69 (by decide) (z_istore (lv' := [(7, .int 0), (6, .int (-1)), (5, .int 0), (0, .ref a0), (1, .int x1), (2, .int x2), (4, .int x4)]) dX12_echo_70 (by decide) rfl ?_)))))
      exact z_less [3, 6, 2, 1, 0] rfl H6
    · have H7 := H5.2 q
      refine z_bipush (w := (-2)) dX12_echo_60 (by decide) ?_
      obtain ⟨rfl, rfl⟩ := H7
      exact z_iret dX12_echo_62 rfl (by decide) (by decide)
  · have H8 := H.2.2 q
    refine z_aload_n 0 dX12_echo_24 rfl rfl ?_
    obtain ⟨oe11, b9, e11, H10⟩ := H8
    refine z_getP dX12_echo_25 wf_X12_50 (by decide) (by decide) rfl oe11 (fun q => (by cases q.symm.trans e11)) (fun j q => ?_)
    cases q.symm.trans e11
    refine z_iload 4 dX12_echo_28 rfl (z_aload_n 0 dX12_echo_30 rfl rfl (z_iload 4 dX12_echo_31 rfl ?_))
    obtain ⟨oc13, w12, c13, H14⟩ := H10
    refine z_virt (As := [.int x5]) (st := [.int x5, .ref b9]) (r1 := (some (.int w12))) (h1 := (g, I, P)) dX12_echo_33 kX12_inLine wm_X12_275 ⟨by decide, by decide⟩ rfl rfl (Nat.le_of_ble_eq_true rfl) (by decide) (by decide) oc13 c13 ?_
    refine z_iast (g := g) (I := I) (Q := P) dX12_echo_36 H14.1 H14.2.1 (z_iinc (y := x5 + 1) (lv' := [(5, .int (x5 + 1)), (0, .ref a0), (1, .int x1), (2, .int x2), (4, .int x4)]) 4 dX12_echo_37 rfl rfl (by decide) rfl (z_goto (t := 15) dX12_echo_40 (by decide) ?_))
    exact z_less [1, 2, 3, 4, 0] rfl H14.2.2
set_option maxRecDepth 10000 in
theorem wX12_echo_72 {g : zG} {I : Nat → Nat → Int32} {P : Nat → Nat → Option Nat} {r : Option Value} {h' : zH} {a0 : Nat} {x4 : Int32} {x5 : Int32} {x6 : Int32} {x7 : Int32} (H : zk g a0 12 ∧ ((I a0 27 ≤ x7) → ((x4 = 0) → r = some (.int x5) ∧ h' = (g, I, P)) ∧ ((¬ x4 = 0) → r = some (.int x6) ∧ h' = (g, I, P))) ∧ ((¬ I a0 27 ≤ x7) → Zt none mX12_echo 0 0 84 [(0, .ref a0), (4, .int x4), (5, .int x5), (6, .int x6), (7, .int x7), (8, .int 0)] [] (g, I, P) r h')) : Zt none mX12_echo 0 0 72 [(0, .ref a0), (4, .int x4), (5, .int x5), (6, .int x6), (7, .int x7)] [] (g, I, P) r h' := by
  refine z_iload 4 dX12_echo_72 rfl (z_aload_n 0 dX12_echo_74 rfl rfl (z_getI dX12_echo_75 wf_X12_269 (by decide) (by decide) rfl H.1 ?_))
  refine z_icmp_ge (t := 178) dX12_echo_78 (by decide) (fun q => ?_) (fun q => ?_)
  · have H1 := H.2.1 q
    refine z_iload 1 dX12_echo_178 rfl ?_
    refine z_if_eq (t := 188) dX12_echo_180 (by decide) (fun q => ?_) (fun q => ?_)
    · have H2 := H1.1 q
      refine z_iload 2 dX12_echo_188 rfl ?_
      obtain ⟨rfl, rfl⟩ := H2
      exact z_iret dX12_echo_190 rfl (by decide) (by decide)
    · have H3 := H1.2 q
      refine z_iload 3 dX12_echo_183 rfl (z_goto (t := 190) dX12_echo_185 (by decide) ?_)
      obtain ⟨rfl, rfl⟩ := H3
      exact z_iret dX12_echo_190 rfl (by decide) (by decide)
  · have H4 := H.2.2 q
    refine z_iconst (w := 0) dX12_echo_81 (by decide) (z_istore (lv' := [(8, .int 0), (0, .ref a0), (4, .int x4), (5, .int x5), (6, .int x6), (7, .int x7)]) dX12_echo_82 (by decide) rfl ?_)
    exact z_less [1, 2, 3, 4, 5, 0] rfl H4
set_option maxRecDepth 10000 in
theorem wX12_echo_84 {g : zG} {I : Nat → Nat → Int32} {P : Nat → Nat → Option Nat} {r : Option Value} {h' : zH} {a0 : Nat} {x4 : Int32} {x5 : Int32} {x6 : Int32} {x7 : Int32} {x8 : Int32} (H : zk g a0 12 ∧ ((I a0 32 ≤ x8) → Zt none mX12_echo 0 0 72 [(0, .ref a0), (4, .int x4), (5, .int x5), (6, .int x6), (7, .int (x7 + 1))] [] (g, I, P) r h') ∧ ((¬ I a0 32 ≤ x8) → Zt none mX12_echo 0 0 96 [(0, .ref a0), (4, .int x4), (5, .int x5), (6, .int x6), (7, .int x7), (8, .int x8), (9, .int 0)] [] (g, I, P) r h')) : Zt none mX12_echo 0 0 84 [(0, .ref a0), (4, .int x4), (5, .int x5), (6, .int x6), (7, .int x7), (8, .int x8)] [] (g, I, P) r h' := by
  refine z_iload 5 dX12_echo_84 rfl (z_aload_n 0 dX12_echo_86 rfl rfl (z_getI dX12_echo_87 wf_X12_312 (by decide) (by decide) rfl H.1 ?_))
  refine z_icmp_ge (t := 172) dX12_echo_90 (by decide) (fun q => ?_) (fun q => ?_)
  · have H1 := H.2.1 q
    refine z_iinc (y := x7 + 1) (lv' := [(7, .int (x7 + 1)), (0, .ref a0), (4, .int x4), (5, .int x5), (6, .int x6), (8, .int x8)]) 4 dX12_echo_172 rfl rfl (by decide) rfl (z_goto (t := 72) dX12_echo_175 (by decide) ?_)
    exact z_less [1, 2, 3, 4, 0] rfl H1
  · have H2 := H.2.2 q
    refine z_iconst (w := 0) dX12_echo_93 (by decide) (z_istore (lv' := [(9, .int 0), (0, .ref a0), (4, .int x4), (5, .int x5), (6, .int x6), (7, .int x7), (8, .int x8)]) dX12_echo_94 (by decide) rfl ?_)
    exact z_less [1, 2, 3, 4, 5, 6, 0] rfl H2
set_option maxRecDepth 10000 in
theorem wX12_echo_96 {g : zG} {I : Nat → Nat → Int32} {P : Nat → Nat → Option Nat} {r : Option Value} {h' : zH} {a0 : Nat} {x4 : Int32} {x5 : Int32} {x6 : Int32} {x7 : Int32} {x8 : Int32} {x9 : Int32} (H : zk g a0 12 ∧ ((I a0 27 ≤ x7 + x9) → ((x5 < x9) → Zt none mX12_echo 0 0 84 [(0, .ref a0), (4, .int x4), (5, .int x9), (6, .int x7), (7, .int x7), (8, .int (x8 + 1))] [] (g, I, P) r h') ∧ ((¬ x5 < x9) → Zt none mX12_echo 0 0 84 [(0, .ref a0), (4, .int x4), (5, .int x5), (6, .int x6), (7, .int x7), (8, .int (x8 + 1))] [] (g, I, P) r h')) ∧ ((¬ I a0 27 ≤ x7 + x9) → zk g a0 12 ∧ ((I a0 32 ≤ x8 + x9) → ((x5 < x9) → Zt none mX12_echo 0 0 84 [(0, .ref a0), (4, .int x4), (5, .int x9), (6, .int x7), (7, .int x7), (8, .int (x8 + 1))] [] (g, I, P) r h') ∧ ((¬ x5 < x9) → Zt none mX12_echo 0 0 84 [(0, .ref a0), (4, .int x4), (5, .int x5), (6, .int x6), (7, .int x7), (8, .int (x8 + 1))] [] (g, I, P) r h')) ∧ ((¬ I a0 32 ≤ x8 + x9) → zk g a0 12 ∧ ∃ (w9 : Int32), Cl mX12_inLine [.ref a0, .int (x7 + x9)] (g, I, P) (some (.int w9)) (g, I, P) ∧ zk g a0 12 ∧ ∃ b12, P a0 30 = some b12 ∧ zk g b12 13 ∧ vp_in (x8 + x9) (g.2.2 b12) ∧ ((¬ w9 = I b12 (x8 + x9).toNatClampNeg) → ((x5 < x9) → Zt none mX12_echo 0 0 84 [(0, .ref a0), (4, .int x4), (5, .int x9), (6, .int x7), (7, .int x7), (8, .int (x8 + 1))] [] (g, I, P) r h') ∧ ((¬ x5 < x9) → Zt none mX12_echo 0 0 84 [(0, .ref a0), (4, .int x4), (5, .int x5), (6, .int x6), (7, .int x7), (8, .int (x8 + 1))] [] (g, I, P) r h')) ∧ ((w9 = I b12 (x8 + x9).toNatClampNeg) → Zt none mX12_echo 0 0 96 [(0, .ref a0), (4, .int x4), (5, .int x5), (6, .int x6), (7, .int x7), (8, .int x8), (9, .int (x9 + 1))] [] (g, I, P) r h')))) : Zt none mX12_echo 0 0 96 [(0, .ref a0), (4, .int x4), (5, .int x5), (6, .int x6), (7, .int x7), (8, .int x8), (9, .int x9)] [] (g, I, P) r h' := by
  refine z_iload 4 dX12_echo_96 rfl (z_iload 6 dX12_echo_98 rfl (z_iadd dX12_echo_100 (z_aload_n 0 dX12_echo_101 rfl rfl (z_getI dX12_echo_102 wf_X12_269 (by decide) (by decide) rfl H.1 ?_))))
  refine z_icmp_ge (t := 148) dX12_echo_105 (by decide) (fun q => ?_) (fun q => ?_)
  · have H1 := H.2.1 q
    refine z_iload 6 dX12_echo_148 rfl (z_iload 2 dX12_echo_150 rfl ?_)
    refine z_icmp_gt (t := 158) dX12_echo_152 (by decide) (fun q => ?_) (fun q => ?_)
    · have H2 := H1.1 q
      refine z_iload 6 dX12_echo_158 rfl (z_istore (lv' := [(5, .int x9), (0, .ref a0), (4, .int x4), (6, .int x6), (7, .int x7), (8, .int x8), (9, .int x9)]) dX12_echo_160 (by decide) rfl (z_iload 4 dX12_echo_162 rfl (z_istore (lv' := [(6, .int x7), (5, .int x9), (0, .ref a0), (4, .int x4), (7, .int x7), (8, .int x8), (9, .int x9)]) dX12_echo_164 (by decide) rfl (z_iinc (y := x8 + 1) (lv' := [(8, .int (x8 + 1)), (6, .int x7), (5, .int x9), (0, .ref a0), (4, .int x4), (7, .int x7), (9, .int x9)]) 5 dX12_echo_166 rfl rfl (by decide) rfl (z_goto (t := 84) dX12_echo_169 (by decide) ?_)))))
      exact z_less [3, 4, 2, 1, 5, 0] rfl H2
    · have H3 := H1.2 q
      refine z_goto (t := 166) dX12_echo_155 (by decide) (z_iinc (y := x8 + 1) (lv' := [(8, .int (x8 + 1)), (0, .ref a0), (4, .int x4), (5, .int x5), (6, .int x6), (7, .int x7), (9, .int x9)]) 5 dX12_echo_166 rfl rfl (by decide) rfl (z_goto (t := 84) dX12_echo_169 (by decide) ?_))
      exact z_less [1, 2, 3, 4, 5, 0] rfl H3
  · have H4 := H.2.2 q
    refine z_iload 5 dX12_echo_108 rfl (z_iload 6 dX12_echo_110 rfl (z_iadd dX12_echo_112 (z_aload_n 0 dX12_echo_113 rfl rfl (z_getI dX12_echo_114 wf_X12_312 (by decide) (by decide) rfl H4.1 ?_))))
    refine z_icmp_ge (t := 148) dX12_echo_117 (by decide) (fun q => ?_) (fun q => ?_)
    · have H5 := H4.2.1 q
      refine z_iload 6 dX12_echo_148 rfl (z_iload 2 dX12_echo_150 rfl ?_)
      refine z_icmp_gt (t := 158) dX12_echo_152 (by decide) (fun q => ?_) (fun q => ?_)
      · have H6 := H5.1 q
        refine z_iload 6 dX12_echo_158 rfl (z_istore (lv' := [(5, .int x9), (0, .ref a0), (4, .int x4), (6, .int x6), (7, .int x7), (8, .int x8), (9, .int x9)]) dX12_echo_160 (by decide) rfl (z_iload 4 dX12_echo_162 rfl (z_istore (lv' := [(6, .int x7), (5, .int x9), (0, .ref a0), (4, .int x4), (7, .int x7), (8, .int x8), (9, .int x9)]) dX12_echo_164 (by decide) rfl (z_iinc (y := x8 + 1) (lv' := [(8, .int (x8 + 1)), (6, .int x7), (5, .int x9), (0, .ref a0), (4, .int x4), (7, .int x7), (9, .int x9)]) 5 dX12_echo_166 rfl rfl (by decide) rfl (z_goto (t := 84) dX12_echo_169 (by decide) ?_)))))
        exact z_less [3, 4, 2, 1, 5, 0] rfl H6
      · have H7 := H5.2 q
        refine z_goto (t := 166) dX12_echo_155 (by decide) (z_iinc (y := x8 + 1) (lv' := [(8, .int (x8 + 1)), (0, .ref a0), (4, .int x4), (5, .int x5), (6, .int x6), (7, .int x7), (9, .int x9)]) 5 dX12_echo_166 rfl rfl (by decide) rfl (z_goto (t := 84) dX12_echo_169 (by decide) ?_))
        exact z_less [1, 2, 3, 4, 5, 0] rfl H7
    · have H8 := H4.2.2 q
      refine z_aload_n 0 dX12_echo_120 rfl rfl (z_iload 4 dX12_echo_121 rfl (z_iload 6 dX12_echo_123 rfl (z_iadd dX12_echo_125 ?_)))
      obtain ⟨oc10, w9, c10, H11⟩ := H8
      refine z_virt (As := [.int (x7 + x9)]) (st := []) (r1 := (some (.int w9))) (h1 := (g, I, P)) dX12_echo_126 kX12_inLine wm_X12_275 ⟨by decide, by decide⟩ rfl rfl (Nat.le_of_ble_eq_true rfl) (by decide) (by decide) oc10 c10 ?_
      refine z_aload_n 0 dX12_echo_129 rfl rfl ?_
      obtain ⟨oe14, b12, e14, H13⟩ := H11
      refine z_getP dX12_echo_130 wf_X12_50 (by decide) (by decide) rfl oe14 (fun q => (by cases q.symm.trans e14)) (fun j q => ?_)
      cases q.symm.trans e14
      refine z_iload 5 dX12_echo_133 rfl (z_iload 6 dX12_echo_135 rfl (z_iadd dX12_echo_137 (z_iald dX12_echo_138 H13.1 H13.2.1 ?_)))
      refine z_icmp_ne (t := 148) dX12_echo_139 (by decide) (fun q => ?_) (fun q => ?_)
      · have H15 := H13.2.2.1 q
        refine z_iload 6 dX12_echo_148 rfl (z_iload 2 dX12_echo_150 rfl ?_)
        refine z_icmp_gt (t := 158) dX12_echo_152 (by decide) (fun q => ?_) (fun q => ?_)
        · have H16 := H15.1 q
          refine z_iload 6 dX12_echo_158 rfl (z_istore (lv' := [(5, .int x9), (0, .ref a0), (4, .int x4), (6, .int x6), (7, .int x7), (8, .int x8), (9, .int x9)]) dX12_echo_160 (by decide) rfl (z_iload 4 dX12_echo_162 rfl (z_istore (lv' := [(6, .int x7), (5, .int x9), (0, .ref a0), (4, .int x4), (7, .int x7), (8, .int x8), (9, .int x9)]) dX12_echo_164 (by decide) rfl (z_iinc (y := x8 + 1) (lv' := [(8, .int (x8 + 1)), (6, .int x7), (5, .int x9), (0, .ref a0), (4, .int x4), (7, .int x7), (9, .int x9)]) 5 dX12_echo_166 rfl rfl (by decide) rfl (z_goto (t := 84) dX12_echo_169 (by decide) ?_)))))
          exact z_less [3, 4, 2, 1, 5, 0] rfl H16
        · have H17 := H15.2 q
          refine z_goto (t := 166) dX12_echo_155 (by decide) (z_iinc (y := x8 + 1) (lv' := [(8, .int (x8 + 1)), (0, .ref a0), (4, .int x4), (5, .int x5), (6, .int x6), (7, .int x7), (9, .int x9)]) 5 dX12_echo_166 rfl rfl (by decide) rfl (z_goto (t := 84) dX12_echo_169 (by decide) ?_))
          exact z_less [1, 2, 3, 4, 5, 0] rfl H17
      · have H18 := H13.2.2.2 q
        refine z_iinc (y := x9 + 1) (lv' := [(9, .int (x9 + 1)), (0, .ref a0), (4, .int x4), (5, .int x5), (6, .int x6), (7, .int x7), (8, .int x8)]) 6 dX12_echo_142 rfl rfl (by decide) rfl (z_goto (t := 96) dX12_echo_145 (by decide) ?_)
        exact z_less [1, 2, 3, 4, 5, 6, 0] rfl H18
theorem dX12_apartOf_0 : decode cX12_apartOf 0 = .ok (.aload_n 0, 1) := by decide +kernel
theorem dX12_apartOf_1 : decode cX12_apartOf 1 = .ok (.iload_n 1, 1) := by decide +kernel
theorem dX12_apartOf_2 : decode cX12_apartOf 2 = .ok (.iconst 1, 1) := by decide +kernel
theorem dX12_apartOf_3 : decode cX12_apartOf 3 = .ok (.invokevirtual 315, 3) := by decide +kernel
theorem dX12_apartOf_6 : decode cX12_apartOf 6 = .ok (.aload_n 0, 1) := by decide +kernel
theorem dX12_apartOf_7 : decode cX12_apartOf 7 = .ok (.iload_n 2, 1) := by decide +kernel
theorem dX12_apartOf_8 : decode cX12_apartOf 8 = .ok (.iconst 0, 1) := by decide +kernel
theorem dX12_apartOf_9 : decode cX12_apartOf 9 = .ok (.invokevirtual 315, 3) := by decide +kernel
theorem dX12_apartOf_12 : decode cX12_apartOf 12 = .ok (.aload_n 0, 1) := by decide +kernel
theorem dX12_apartOf_13 : decode cX12_apartOf 13 = .ok (.invokevirtual 319, 3) := by decide +kernel
theorem dX12_apartOf_16 : decode cX12_apartOf 16 = .ok (.ireturn, 1) := by decide +kernel
set_option maxRecDepth 10000 in
theorem wX12_apartOf_0 {g : zG} {I : Nat → Nat → Int32} {P : Nat → Nat → Option Nat} {r : Option Value} {h' : zH} {a0 : Nat} {x1 : Int32} {x2 : Int32} (H : zk g a0 12 ∧ ∃ (I1 : Nat → Nat → Int32), Cl mX12_takesWord [.ref a0, .int x1, .int 1] (g, I, P) none (g, I1, P) ∧ zk g a0 12 ∧ ∃ (I4 : Nat → Nat → Int32), Cl mX12_takesWord [.ref a0, .int x2, .int 0] (g, I1, P) none (g, I4, P) ∧ zk g a0 12 ∧ ∃ (w7 : Int32) (I8 : Nat → Nat → Int32), Cl mX12_changesOf [.ref a0] (g, I4, P) (some (.int w7)) (g, I8, P) ∧ r = some (.int w7) ∧ h' = (g, I8, P)) : Zt none mX12_apartOf 0 0 0 [(0, .ref a0), (1, .int x1), (2, .int x2)] [] (g, I, P) r h' := by
  refine z_aload_n 0 dX12_apartOf_0 rfl rfl (z_iload_n 1 dX12_apartOf_1 rfl (z_iconst (w := 1) dX12_apartOf_2 (by decide) ?_))
  obtain ⟨oc2, I1, c2, H3⟩ := H
  refine z_virt (As := [.int x1, .int 1]) (st := []) (r1 := none) (h1 := (g, I1, P)) dX12_apartOf_3 kX12_takesWord wm_X12_315 ⟨by decide, by decide⟩ rfl rfl (Nat.le_of_ble_eq_true rfl) (by decide) (by decide) oc2 c2 ?_
  refine z_aload_n 0 dX12_apartOf_6 rfl rfl (z_iload_n 2 dX12_apartOf_7 rfl (z_iconst (w := 0) dX12_apartOf_8 (by decide) ?_))
  obtain ⟨oc5, I4, c5, H6⟩ := H3
  refine z_virt (As := [.int x2, .int 0]) (st := []) (r1 := none) (h1 := (g, I4, P)) dX12_apartOf_9 kX12_takesWord wm_X12_315 ⟨by decide, by decide⟩ rfl rfl (Nat.le_of_ble_eq_true rfl) (by decide) (by decide) oc5 c5 ?_
  refine z_aload_n 0 dX12_apartOf_12 rfl rfl ?_
  obtain ⟨oc9, w7, I8, c9, H10⟩ := H6
  refine z_virt (As := []) (st := []) (r1 := (some (.int w7))) (h1 := (g, I8, P)) dX12_apartOf_13 kX12_changesOf wm_X12_319 ⟨by decide, by decide⟩ rfl rfl (Nat.le_of_ble_eq_true rfl) (by decide) (by decide) oc9 c9 ?_
  obtain ⟨rfl, rfl⟩ := H10
  exact z_iret dX12_apartOf_16 rfl (by decide) (by decide)
theorem eX12_apartOf {g : zG} {I : Nat → Nat → Int32} {P : Nat → Nat → Option Nat} {r : Option Value} {h' : zH} {a0 : Nat} {x1 : Int32} {x2 : Int32} (H : Zt none mX12_apartOf 0 0 0 [(0, .ref a0), (1, .int x1), (2, .int x2)] [] (g, I, P) r h') : Cl mX12_apartOf [.ref a0, .int x1, .int x2] (g, I, P) r h' := Cl.of (by decide) (Nat.le_of_ble_eq_true rfl) H
theorem dX12_alike_0 : decode cX12_alike 0 = .ok (.aload_n 0, 1) := by decide +kernel
theorem dX12_alike_1 : decode cX12_alike 1 = .ok (.iload_n 1, 1) := by decide +kernel
theorem dX12_alike_2 : decode cX12_alike 2 = .ok (.invokevirtual 196, 3) := by decide +kernel
theorem dX12_alike_5 : decode cX12_alike 5 = .ok (.ifCond .eq 19, 3) := by decide +kernel
theorem dX12_alike_8 : decode cX12_alike 8 = .ok (.aload_n 0, 1) := by decide +kernel
theorem dX12_alike_9 : decode cX12_alike 9 = .ok (.iload_n 2, 1) := by decide +kernel
theorem dX12_alike_10 : decode cX12_alike 10 = .ok (.invokevirtual 202, 3) := by decide +kernel
theorem dX12_alike_13 : decode cX12_alike 13 = .ok (.ifCond .eq 11, 3) := by decide +kernel
theorem dX12_alike_16 : decode cX12_alike 16 = .ok (.aload_n 0, 1) := by decide +kernel
theorem dX12_alike_17 : decode cX12_alike 17 = .ok (.iload_n 3, 1) := by decide +kernel
theorem dX12_alike_18 : decode cX12_alike 18 = .ok (.invokevirtual 202, 3) := by decide +kernel
theorem dX12_alike_21 : decode cX12_alike 21 = .ok (.ifCond .ne 5, 3) := by decide +kernel
theorem dX12_alike_24 : decode cX12_alike 24 = .ok (.iconst (-1), 1) := by decide +kernel
theorem dX12_alike_25 : decode cX12_alike 25 = .ok (.ireturn, 1) := by decide +kernel
theorem dX12_alike_26 : decode cX12_alike 26 = .ok (.iload 4, 2) := by decide +kernel
theorem dX12_alike_28 : decode cX12_alike 28 = .ok (.ifCond .eq 12, 3) := by decide +kernel
theorem dX12_alike_31 : decode cX12_alike 31 = .ok (.aload_n 0, 1) := by decide +kernel
theorem dX12_alike_32 : decode cX12_alike 32 = .ok (.iload_n 2, 1) := by decide +kernel
theorem dX12_alike_33 : decode cX12_alike 33 = .ok (.iload_n 3, 1) := by decide +kernel
theorem dX12_alike_34 : decode cX12_alike 34 = .ok (.invokevirtual 322, 3) := by decide +kernel
theorem dX12_alike_37 : decode cX12_alike 37 = .ok (.goto 9, 3) := by decide +kernel
theorem dX12_alike_40 : decode cX12_alike 40 = .ok (.aload_n 0, 1) := by decide +kernel
theorem dX12_alike_41 : decode cX12_alike 41 = .ok (.iload_n 2, 1) := by decide +kernel
theorem dX12_alike_42 : decode cX12_alike 42 = .ok (.iload_n 3, 1) := by decide +kernel
theorem dX12_alike_43 : decode cX12_alike 43 = .ok (.invokevirtual 294, 3) := by decide +kernel
theorem dX12_alike_46 : decode cX12_alike 46 = .ok (.ireturn, 1) := by decide +kernel
set_option maxRecDepth 10000 in
theorem wX12_alike_0 {g : zG} {I : Nat → Nat → Int32} {P : Nat → Nat → Option Nat} {r : Option Value} {h' : zH} {a0 : Nat} {x1 : Int32} {x2 : Int32} {x3 : Int32} {x4 : Int32} (H : zk g a0 12 ∧ ∃ (w1 : Int32) (I2 : Nat → Nat → Int32), Cl mX12_isHill [.ref a0, .int x1] (g, I, P) (some (.int w1)) (g, I2, P) ∧ ((w1 = 0) → r = some (.int (-1)) ∧ h' = (g, I2, P)) ∧ ((¬ w1 = 0) → zk g a0 12 ∧ ∃ (w7 : Int32), Cl mX12_isWord [.ref a0, .int x2] (g, I2, P) (some (.int w7)) (g, I2, P) ∧ ((w7 = 0) → r = some (.int (-1)) ∧ h' = (g, I2, P)) ∧ ((¬ w7 = 0) → zk g a0 12 ∧ ∃ (w12 : Int32), Cl mX12_isWord [.ref a0, .int x3] (g, I2, P) (some (.int w12)) (g, I2, P) ∧ ((¬ w12 = 0) → ((x4 = 0) → zk g a0 12 ∧ ∃ (w17 : Int32), Cl mX12_alikeOf [.ref a0, .int x2, .int x3] (g, I2, P) (some (.int w17)) (g, I2, P) ∧ r = some (.int w17) ∧ h' = (g, I2, P)) ∧ ((¬ x4 = 0) → zk g a0 12 ∧ ∃ (w21 : Int32) (I22 : Nat → Nat → Int32), Cl mX12_apartOf [.ref a0, .int x2, .int x3] (g, I2, P) (some (.int w21)) (g, I22, P) ∧ r = some (.int w21) ∧ h' = (g, I22, P))) ∧ ((w12 = 0) → r = some (.int (-1)) ∧ h' = (g, I2, P))))) : Zt none mX12_alike 0 0 0 [(0, .ref a0), (1, .int x1), (2, .int x2), (3, .int x3), (4, .int x4)] [] (g, I, P) r h' := by
  refine z_aload_n 0 dX12_alike_0 rfl rfl (z_iload_n 1 dX12_alike_1 rfl ?_)
  obtain ⟨oc3, w1, I2, c3, H4⟩ := H
  refine z_virt (As := [.int x1]) (st := []) (r1 := (some (.int w1))) (h1 := (g, I2, P)) dX12_alike_2 kX12_isHill wm_X12_196 ⟨by decide, by decide⟩ rfl rfl (Nat.le_of_ble_eq_true rfl) (by decide) (by decide) oc3 c3 ?_
  refine z_if_eq (t := 24) dX12_alike_5 (by decide) (fun q => ?_) (fun q => ?_)
  · have H5 := H4.1 q
    refine z_iconst (w := (-1)) dX12_alike_24 (by decide) ?_
    obtain ⟨rfl, rfl⟩ := H5
    exact z_iret dX12_alike_25 rfl (by decide) (by decide)
  · have H6 := H4.2 q
    refine z_aload_n 0 dX12_alike_8 rfl rfl (z_iload_n 2 dX12_alike_9 rfl ?_)
    obtain ⟨oc8, w7, c8, H9⟩ := H6
    refine z_virt (As := [.int x2]) (st := []) (r1 := (some (.int w7))) (h1 := (g, I2, P)) dX12_alike_10 kX12_isWord wm_X12_202 ⟨by decide, by decide⟩ rfl rfl (Nat.le_of_ble_eq_true rfl) (by decide) (by decide) oc8 c8 ?_
    refine z_if_eq (t := 24) dX12_alike_13 (by decide) (fun q => ?_) (fun q => ?_)
    · have H10 := H9.1 q
      refine z_iconst (w := (-1)) dX12_alike_24 (by decide) ?_
      obtain ⟨rfl, rfl⟩ := H10
      exact z_iret dX12_alike_25 rfl (by decide) (by decide)
    · have H11 := H9.2 q
      refine z_aload_n 0 dX12_alike_16 rfl rfl (z_iload_n 3 dX12_alike_17 rfl ?_)
      obtain ⟨oc13, w12, c13, H14⟩ := H11
      refine z_virt (As := [.int x3]) (st := []) (r1 := (some (.int w12))) (h1 := (g, I2, P)) dX12_alike_18 kX12_isWord wm_X12_202 ⟨by decide, by decide⟩ rfl rfl (Nat.le_of_ble_eq_true rfl) (by decide) (by decide) oc13 c13 ?_
      refine z_if_ne (t := 26) dX12_alike_21 (by decide) (fun q => ?_) (fun q => ?_)
      · have H15 := H14.1 q
        refine z_iload 4 dX12_alike_26 rfl ?_
        refine z_if_eq (t := 40) dX12_alike_28 (by decide) (fun q => ?_) (fun q => ?_)
        · have H16 := H15.1 q
          refine z_aload_n 0 dX12_alike_40 rfl rfl (z_iload_n 2 dX12_alike_41 rfl (z_iload_n 3 dX12_alike_42 rfl ?_))
          obtain ⟨oc18, w17, c18, H19⟩ := H16
          refine z_virt (As := [.int x2, .int x3]) (st := []) (r1 := (some (.int w17))) (h1 := (g, I2, P)) dX12_alike_43 kX12_alikeOf wm_X12_294 ⟨by decide, by decide⟩ rfl rfl (Nat.le_of_ble_eq_true rfl) (by decide) (by decide) oc18 c18 ?_
          obtain ⟨rfl, rfl⟩ := H19
          exact z_iret dX12_alike_46 rfl (by decide) (by decide)
        · have H20 := H15.2 q
          refine z_aload_n 0 dX12_alike_31 rfl rfl (z_iload_n 2 dX12_alike_32 rfl (z_iload_n 3 dX12_alike_33 rfl ?_))
          obtain ⟨oc23, w21, I22, c23, H24⟩ := H20
          refine z_virt (As := [.int x2, .int x3]) (st := []) (r1 := (some (.int w21))) (h1 := (g, I22, P)) dX12_alike_34 kX12_apartOf wm_X12_322 ⟨by decide, by decide⟩ rfl rfl (Nat.le_of_ble_eq_true rfl) (by decide) (by decide) oc23 c23 ?_
          refine z_goto (t := 46) dX12_alike_37 (by decide) ?_
          obtain ⟨rfl, rfl⟩ := H24
          exact z_iret dX12_alike_46 rfl (by decide) (by decide)
      · have H25 := H14.2 q
        refine z_iconst (w := (-1)) dX12_alike_24 (by decide) ?_
        obtain ⟨rfl, rfl⟩ := H25
        exact z_iret dX12_alike_25 rfl (by decide) (by decide)
theorem eX12_alike {g : zG} {I : Nat → Nat → Int32} {P : Nat → Nat → Option Nat} {r : Option Value} {h' : zH} {a0 : Nat} {x1 : Int32} {x2 : Int32} {x3 : Int32} {x4 : Int32} (H : Zt none mX12_alike 0 0 0 [(0, .ref a0), (1, .int x1), (2, .int x2), (3, .int x3), (4, .int x4)] [] (g, I, P) r h') : Cl mX12_alike [.ref a0, .int x1, .int x2, .int x3, .int x4] (g, I, P) r h' := Cl.of (by decide) (Nat.le_of_ble_eq_true rfl) H
theorem dX12_closestOf_0 : decode cX12_closestOf 0 = .ok (.iconst (-1), 1) := by decide +kernel
theorem dX12_closestOf_1 : decode cX12_closestOf 1 = .ok (.istore_n 1, 1) := by decide +kernel
theorem dX12_closestOf_2 : decode cX12_closestOf 2 = .ok (.iconst 0, 1) := by decide +kernel
theorem dX12_closestOf_3 : decode cX12_closestOf 3 = .ok (.istore_n 2, 1) := by decide +kernel
theorem dX12_closestOf_4 : decode cX12_closestOf 4 = .ok (.iload_n 2, 1) := by decide +kernel
theorem dX12_closestOf_5 : decode cX12_closestOf 5 = .ok (.aload_n 0, 1) := by decide +kernel
theorem dX12_closestOf_6 : decode cX12_closestOf 6 = .ok (.getfield 190, 3) := by decide +kernel
theorem dX12_closestOf_9 : decode cX12_closestOf 9 = .ok (.if_icmp .ge 60, 3) := by decide +kernel
theorem dX12_closestOf_12 : decode cX12_closestOf 12 = .ok (.iload_n 2, 1) := by decide +kernel
theorem dX12_closestOf_13 : decode cX12_closestOf 13 = .ok (.iconst 1, 1) := by decide +kernel
theorem dX12_closestOf_14 : decode cX12_closestOf 14 = .ok (.iadd, 1) := by decide +kernel
theorem dX12_closestOf_15 : decode cX12_closestOf 15 = .ok (.istore_n 3, 1) := by decide +kernel
theorem dX12_closestOf_16 : decode cX12_closestOf 16 = .ok (.iload_n 3, 1) := by decide +kernel
theorem dX12_closestOf_17 : decode cX12_closestOf 17 = .ok (.aload_n 0, 1) := by decide +kernel
theorem dX12_closestOf_18 : decode cX12_closestOf 18 = .ok (.getfield 190, 3) := by decide +kernel
theorem dX12_closestOf_21 : decode cX12_closestOf 21 = .ok (.if_icmp .ge 42, 3) := by decide +kernel
theorem dX12_closestOf_24 : decode cX12_closestOf 24 = .ok (.iload_n 1, 1) := by decide +kernel
theorem dX12_closestOf_25 : decode cX12_closestOf 25 = .ok (.iconst (-1), 1) := by decide +kernel
theorem dX12_closestOf_26 : decode cX12_closestOf 26 = .ok (.if_icmp .eq 24, 3) := by decide +kernel
theorem dX12_closestOf_29 : decode cX12_closestOf 29 = .ok (.aload_n 0, 1) := by decide +kernel
theorem dX12_closestOf_30 : decode cX12_closestOf 30 = .ok (.iload_n 2, 1) := by decide +kernel
theorem dX12_closestOf_31 : decode cX12_closestOf 31 = .ok (.iload_n 3, 1) := by decide +kernel
theorem dX12_closestOf_32 : decode cX12_closestOf 32 = .ok (.invokevirtual 322, 3) := by decide +kernel
theorem dX12_closestOf_35 : decode cX12_closestOf 35 = .ok (.aload_n 0, 1) := by decide +kernel
theorem dX12_closestOf_36 : decode cX12_closestOf 36 = .ok (.iload_n 1, 1) := by decide +kernel
theorem dX12_closestOf_37 : decode cX12_closestOf 37 = .ok (.bipush 10, 2) := by decide +kernel
theorem dX12_closestOf_39 : decode cX12_closestOf 39 = .ok (.idiv, 1) := by decide +kernel
theorem dX12_closestOf_40 : decode cX12_closestOf 40 = .ok (.iload_n 1, 1) := by decide +kernel
theorem dX12_closestOf_41 : decode cX12_closestOf 41 = .ok (.bipush 10, 2) := by decide +kernel
theorem dX12_closestOf_43 : decode cX12_closestOf 43 = .ok (.irem, 1) := by decide +kernel
theorem dX12_closestOf_44 : decode cX12_closestOf 44 = .ok (.invokevirtual 322, 3) := by decide +kernel
theorem dX12_closestOf_47 : decode cX12_closestOf 47 = .ok (.if_icmp .ge 10, 3) := by decide +kernel
theorem dX12_closestOf_50 : decode cX12_closestOf 50 = .ok (.bipush 10, 2) := by decide +kernel
theorem dX12_closestOf_52 : decode cX12_closestOf 52 = .ok (.iload_n 2, 1) := by decide +kernel
theorem dX12_closestOf_53 : decode cX12_closestOf 53 = .ok (.imul, 1) := by decide +kernel
theorem dX12_closestOf_54 : decode cX12_closestOf 54 = .ok (.iload_n 3, 1) := by decide +kernel
theorem dX12_closestOf_55 : decode cX12_closestOf 55 = .ok (.iadd, 1) := by decide +kernel
theorem dX12_closestOf_56 : decode cX12_closestOf 56 = .ok (.istore_n 1, 1) := by decide +kernel
theorem dX12_closestOf_57 : decode cX12_closestOf 57 = .ok (.iinc 3 1, 3) := by decide +kernel
theorem dX12_closestOf_60 : decode cX12_closestOf 60 = .ok (.goto (-44), 3) := by decide +kernel
theorem dX12_closestOf_63 : decode cX12_closestOf 63 = .ok (.iinc 2 1, 3) := by decide +kernel
theorem dX12_closestOf_66 : decode cX12_closestOf 66 = .ok (.goto (-62), 3) := by decide +kernel
theorem dX12_closestOf_69 : decode cX12_closestOf 69 = .ok (.iload_n 1, 1) := by decide +kernel
theorem dX12_closestOf_70 : decode cX12_closestOf 70 = .ok (.ireturn, 1) := by decide +kernel
set_option maxRecDepth 10000 in
theorem wX12_closestOf_0 {g : zG} {I : Nat → Nat → Int32} {P : Nat → Nat → Option Nat} {r : Option Value} {h' : zH} {a0 : Nat} (H : Zt none mX12_closestOf 0 0 4 [(0, .ref a0), (1, .int (-1)), (2, .int 0)] [] (g, I, P) r h') : Zt none mX12_closestOf 0 0 0 [(0, .ref a0)] [] (g, I, P) r h' := by
  refine z_iconst (w := (-1)) dX12_closestOf_0 (by decide) (z_istore_n (lv' := [(1, .int (-1)), (0, .ref a0)]) dX12_closestOf_1 (by decide) rfl (z_iconst (w := 0) dX12_closestOf_2 (by decide) (z_istore_n (lv' := [(2, .int 0), (1, .int (-1)), (0, .ref a0)]) dX12_closestOf_3 (by decide) rfl ?_)))
  exact z_less [2, 1, 0] rfl H
theorem eX12_closestOf {g : zG} {I : Nat → Nat → Int32} {P : Nat → Nat → Option Nat} {r : Option Value} {h' : zH} {a0 : Nat} (H : Zt none mX12_closestOf 0 0 0 [(0, .ref a0)] [] (g, I, P) r h') : Cl mX12_closestOf [.ref a0] (g, I, P) r h' := Cl.of (by decide) (Nat.le_of_ble_eq_true rfl) H
set_option maxRecDepth 10000 in
theorem wX12_closestOf_4 {g : zG} {I : Nat → Nat → Int32} {P : Nat → Nat → Option Nat} {r : Option Value} {h' : zH} {a0 : Nat} {x1 : Int32} {x2 : Int32} (H : zk g a0 12 ∧ ((I a0 15 ≤ x2) → r = some (.int x1) ∧ h' = (g, I, P)) ∧ ((¬ I a0 15 ≤ x2) → Zt none mX12_closestOf 0 0 16 [(0, .ref a0), (1, .int x1), (2, .int x2), (3, .int (x2 + 1))] [] (g, I, P) r h')) : Zt none mX12_closestOf 0 0 4 [(0, .ref a0), (1, .int x1), (2, .int x2)] [] (g, I, P) r h' := by
  refine z_iload_n 2 dX12_closestOf_4 rfl (z_aload_n 0 dX12_closestOf_5 rfl rfl (z_getI dX12_closestOf_6 wf_X12_190 (by decide) (by decide) rfl H.1 ?_))
  refine z_icmp_ge (t := 69) dX12_closestOf_9 (by decide) (fun q => ?_) (fun q => ?_)
  · have H1 := H.2.1 q
    refine z_iload_n 1 dX12_closestOf_69 rfl ?_
    obtain ⟨rfl, rfl⟩ := H1
    exact z_iret dX12_closestOf_70 rfl (by decide) (by decide)
  · have H2 := H.2.2 q
    refine z_iload_n 2 dX12_closestOf_12 rfl (z_iconst (w := 1) dX12_closestOf_13 (by decide) (z_iadd dX12_closestOf_14 (z_istore_n (lv' := [(3, .int (x2 + 1)), (0, .ref a0), (1, .int x1), (2, .int x2)]) dX12_closestOf_15 (by decide) rfl ?_)))
    exact z_less [1, 2, 3, 0] rfl H2
set_option maxRecDepth 10000 in
theorem wX12_closestOf_16 {g : zG} {I : Nat → Nat → Int32} {P : Nat → Nat → Option Nat} {r : Option Value} {h' : zH} {a0 : Nat} {x1 : Int32} {x2 : Int32} {x3 : Int32} (H : zk g a0 12 ∧ ((I a0 15 ≤ x3) → Zt none mX12_closestOf 0 0 4 [(0, .ref a0), (1, .int x1), (2, .int (x2 + 1))] [] (g, I, P) r h') ∧ ((¬ I a0 15 ≤ x3) → ((x1 = (-1)) → Zt none mX12_closestOf 0 0 16 [(0, .ref a0), (1, .int ((10 * x2) + x3)), (2, .int x2), (3, .int (x3 + 1))] [] (g, I, P) r h') ∧ ((¬ x1 = (-1)) → zk g a0 12 ∧ ∃ (w5 : Int32) (I6 : Nat → Nat → Int32), Cl mX12_apartOf [.ref a0, .int x2, .int x3] (g, I, P) (some (.int w5)) (g, I6, P) ∧ zk g a0 12 ∧ ∃ (w9 : Int32) (I10 : Nat → Nat → Int32), Cl mX12_apartOf [.ref a0, .int (x1 / 10), .int (x1 - x1 / 10 * 10)] (g, I6, P) (some (.int w9)) (g, I10, P) ∧ ((w9 ≤ w5) → Zt none mX12_closestOf 0 0 16 [(0, .ref a0), (1, .int x1), (2, .int x2), (3, .int (x3 + 1))] [] (g, I10, P) r h') ∧ ((¬ w9 ≤ w5) → Zt none mX12_closestOf 0 0 16 [(0, .ref a0), (1, .int ((10 * x2) + x3)), (2, .int x2), (3, .int (x3 + 1))] [] (g, I10, P) r h')))) : Zt none mX12_closestOf 0 0 16 [(0, .ref a0), (1, .int x1), (2, .int x2), (3, .int x3)] [] (g, I, P) r h' := by
  refine z_iload_n 3 dX12_closestOf_16 rfl (z_aload_n 0 dX12_closestOf_17 rfl rfl (z_getI dX12_closestOf_18 wf_X12_190 (by decide) (by decide) rfl H.1 ?_))
  refine z_icmp_ge (t := 63) dX12_closestOf_21 (by decide) (fun q => ?_) (fun q => ?_)
  · have H1 := H.2.1 q
    refine z_iinc (y := x2 + 1) (lv' := [(2, .int (x2 + 1)), (0, .ref a0), (1, .int x1), (3, .int x3)]) 2 dX12_closestOf_63 rfl rfl (by decide) rfl (z_goto (t := 4) dX12_closestOf_66 (by decide) ?_)
    exact z_less [1, 2, 0] rfl H1
  · have H2 := H.2.2 q
    refine z_iload_n 1 dX12_closestOf_24 rfl (z_iconst (w := (-1)) dX12_closestOf_25 (by decide) ?_)
    refine z_icmp_eq (t := 50) dX12_closestOf_26 (by decide) (fun q => ?_) (fun q => ?_)
    · have H3 := H2.1 q
      refine z_bipush (w := 10) dX12_closestOf_50 (by decide) (z_iload_n 2 dX12_closestOf_52 rfl (z_imul dX12_closestOf_53 (z_iload_n 3 dX12_closestOf_54 rfl (z_iadd dX12_closestOf_55 (z_istore_n (lv' := [(1, .int ((10 * x2) + x3)), (0, .ref a0), (2, .int x2), (3, .int x3)]) dX12_closestOf_56 (by decide) rfl (z_iinc (y := x3 + 1) (lv' := [(3, .int (x3 + 1)), (1, .int ((10 * x2) + x3)), (0, .ref a0), (2, .int x2)]) 3 dX12_closestOf_57 rfl rfl (by decide) rfl (z_goto (t := 16) dX12_closestOf_60 (by decide) ?_)))))))
      exact z_less [2, 1, 3, 0] rfl H3
    · have H4 := H2.2 q
      refine z_aload_n 0 dX12_closestOf_29 rfl rfl (z_iload_n 2 dX12_closestOf_30 rfl (z_iload_n 3 dX12_closestOf_31 rfl ?_))
      obtain ⟨oc7, w5, I6, c7, H8⟩ := H4
      refine z_virt (As := [.int x2, .int x3]) (st := []) (r1 := (some (.int w5))) (h1 := (g, I6, P)) dX12_closestOf_32 kX12_apartOf wm_X12_322 ⟨by decide, by decide⟩ rfl rfl (Nat.le_of_ble_eq_true rfl) (by decide) (by decide) oc7 c7 ?_
      refine z_aload_n 0 dX12_closestOf_35 rfl rfl (z_iload_n 1 dX12_closestOf_36 rfl (z_bipush (w := 10) dX12_closestOf_37 (by decide) (z_idiv dX12_closestOf_39 (by decide) (z_iload_n 1 dX12_closestOf_40 rfl (z_bipush (w := 10) dX12_closestOf_41 (by decide) (z_irem dX12_closestOf_43 (by decide) ?_))))))
      obtain ⟨oc11, w9, I10, c11, H12⟩ := H8
      refine z_virt (As := [.int (x1 / 10), .int (x1 - x1 / 10 * 10)]) (st := [.int w5]) (r1 := (some (.int w9))) (h1 := (g, I10, P)) dX12_closestOf_44 kX12_apartOf wm_X12_322 ⟨by decide, by decide⟩ rfl rfl (Nat.le_of_ble_eq_true rfl) (by decide) (by decide) oc11 c11 ?_
      refine z_icmp_ge (t := 57) dX12_closestOf_47 (by decide) (fun q => ?_) (fun q => ?_)
      · have H13 := H12.1 q
        refine z_iinc (y := x3 + 1) (lv' := [(3, .int (x3 + 1)), (0, .ref a0), (1, .int x1), (2, .int x2)]) 3 dX12_closestOf_57 rfl rfl (by decide) rfl (z_goto (t := 16) dX12_closestOf_60 (by decide) ?_)
        exact z_less [1, 2, 3, 0] rfl H13
      · have H14 := H12.2 q
        refine z_bipush (w := 10) dX12_closestOf_50 (by decide) (z_iload_n 2 dX12_closestOf_52 rfl (z_imul dX12_closestOf_53 (z_iload_n 3 dX12_closestOf_54 rfl (z_iadd dX12_closestOf_55 (z_istore_n (lv' := [(1, .int ((10 * x2) + x3)), (0, .ref a0), (2, .int x2), (3, .int x3)]) dX12_closestOf_56 (by decide) rfl (z_iinc (y := x3 + 1) (lv' := [(3, .int (x3 + 1)), (1, .int ((10 * x2) + x3)), (0, .ref a0), (2, .int x2)]) 3 dX12_closestOf_57 rfl rfl (by decide) rfl (z_goto (t := 16) dX12_closestOf_60 (by decide) ?_)))))))
        exact z_less [2, 1, 3, 0] rfl H14
theorem dX12_treeOf_0 : decode cX12_treeOf 0 = .ok (.iconst 0, 1) := by decide +kernel
theorem dX12_treeOf_1 : decode cX12_treeOf 1 = .ok (.istore_n 1, 1) := by decide +kernel
theorem dX12_treeOf_2 : decode cX12_treeOf 2 = .ok (.iconst 0, 1) := by decide +kernel
theorem dX12_treeOf_3 : decode cX12_treeOf 3 = .ok (.istore_n 2, 1) := by decide +kernel
theorem dX12_treeOf_4 : decode cX12_treeOf 4 = .ok (.iload_n 2, 1) := by decide +kernel
theorem dX12_treeOf_5 : decode cX12_treeOf 5 = .ok (.aload_n 0, 1) := by decide +kernel
theorem dX12_treeOf_6 : decode cX12_treeOf 6 = .ok (.getfield 190, 3) := by decide +kernel
theorem dX12_treeOf_9 : decode cX12_treeOf 9 = .ok (.if_icmp .ge 59, 3) := by decide +kernel
theorem dX12_treeOf_12 : decode cX12_treeOf 12 = .ok (.iconst 0, 1) := by decide +kernel
theorem dX12_treeOf_13 : decode cX12_treeOf 13 = .ok (.istore_n 3, 1) := by decide +kernel
theorem dX12_treeOf_14 : decode cX12_treeOf 14 = .ok (.iconst 0, 1) := by decide +kernel
theorem dX12_treeOf_15 : decode cX12_treeOf 15 = .ok (.istore 4, 2) := by decide +kernel
theorem dX12_treeOf_17 : decode cX12_treeOf 17 = .ok (.iload 4, 2) := by decide +kernel
theorem dX12_treeOf_19 : decode cX12_treeOf 19 = .ok (.iload_n 2, 1) := by decide +kernel
theorem dX12_treeOf_20 : decode cX12_treeOf 20 = .ok (.if_icmp .ge 32, 3) := by decide +kernel
theorem dX12_treeOf_23 : decode cX12_treeOf 23 = .ok (.aload_n 0, 1) := by decide +kernel
theorem dX12_treeOf_24 : decode cX12_treeOf 24 = .ok (.iload_n 2, 1) := by decide +kernel
theorem dX12_treeOf_25 : decode cX12_treeOf 25 = .ok (.iload 4, 2) := by decide +kernel
theorem dX12_treeOf_27 : decode cX12_treeOf 27 = .ok (.invokevirtual 294, 3) := by decide +kernel
theorem dX12_treeOf_30 : decode cX12_treeOf 30 = .ok (.iload_n 3, 1) := by decide +kernel
theorem dX12_treeOf_31 : decode cX12_treeOf 31 = .ok (.if_icmp .le 13, 3) := by decide +kernel
theorem dX12_treeOf_34 : decode cX12_treeOf 34 = .ok (.aload_n 0, 1) := by decide +kernel
theorem dX12_treeOf_35 : decode cX12_treeOf 35 = .ok (.iload_n 2, 1) := by decide +kernel
theorem dX12_treeOf_36 : decode cX12_treeOf 36 = .ok (.iload 4, 2) := by decide +kernel
theorem dX12_treeOf_38 : decode cX12_treeOf 38 = .ok (.invokevirtual 294, 3) := by decide +kernel
theorem dX12_treeOf_41 : decode cX12_treeOf 41 = .ok (.goto 4, 3) := by decide +kernel
theorem dX12_treeOf_44 : decode cX12_treeOf 44 = .ok (.iload_n 3, 1) := by decide +kernel
theorem dX12_treeOf_45 : decode cX12_treeOf 45 = .ok (.istore_n 3, 1) := by decide +kernel
theorem dX12_treeOf_46 : decode cX12_treeOf 46 = .ok (.iinc 4 1, 3) := by decide +kernel
theorem dX12_treeOf_49 : decode cX12_treeOf 49 = .ok (.goto (-32), 3) := by decide +kernel
theorem dX12_treeOf_52 : decode cX12_treeOf 52 = .ok (.iload_n 1, 1) := by decide +kernel
theorem dX12_treeOf_53 : decode cX12_treeOf 53 = .ok (.aload_n 0, 1) := by decide +kernel
theorem dX12_treeOf_54 : decode cX12_treeOf 54 = .ok (.iload_n 2, 1) := by decide +kernel
theorem dX12_treeOf_55 : decode cX12_treeOf 55 = .ok (.invokevirtual 205, 3) := by decide +kernel
theorem dX12_treeOf_58 : decode cX12_treeOf 58 = .ok (.iload_n 3, 1) := by decide +kernel
theorem dX12_treeOf_59 : decode cX12_treeOf 59 = .ok (.isub, 1) := by decide +kernel
theorem dX12_treeOf_60 : decode cX12_treeOf 60 = .ok (.iadd, 1) := by decide +kernel
theorem dX12_treeOf_61 : decode cX12_treeOf 61 = .ok (.istore_n 1, 1) := by decide +kernel
theorem dX12_treeOf_62 : decode cX12_treeOf 62 = .ok (.iinc 2 1, 3) := by decide +kernel
theorem dX12_treeOf_65 : decode cX12_treeOf 65 = .ok (.goto (-61), 3) := by decide +kernel
theorem dX12_treeOf_68 : decode cX12_treeOf 68 = .ok (.iload_n 1, 1) := by decide +kernel
theorem dX12_treeOf_69 : decode cX12_treeOf 69 = .ok (.ireturn, 1) := by decide +kernel
set_option maxRecDepth 10000 in
theorem wX12_treeOf_0 {g : zG} {I : Nat → Nat → Int32} {P : Nat → Nat → Option Nat} {r : Option Value} {h' : zH} {a0 : Nat} (H : Zt none mX12_treeOf 0 0 4 [(0, .ref a0), (1, .int 0), (2, .int 0)] [] (g, I, P) r h') : Zt none mX12_treeOf 0 0 0 [(0, .ref a0)] [] (g, I, P) r h' := by
  refine z_iconst (w := 0) dX12_treeOf_0 (by decide) (z_istore_n (lv' := [(1, .int 0), (0, .ref a0)]) dX12_treeOf_1 (by decide) rfl (z_iconst (w := 0) dX12_treeOf_2 (by decide) (z_istore_n (lv' := [(2, .int 0), (1, .int 0), (0, .ref a0)]) dX12_treeOf_3 (by decide) rfl ?_)))
  exact z_less [2, 1, 0] rfl H
theorem eX12_treeOf {g : zG} {I : Nat → Nat → Int32} {P : Nat → Nat → Option Nat} {r : Option Value} {h' : zH} {a0 : Nat} (H : Zt none mX12_treeOf 0 0 0 [(0, .ref a0)] [] (g, I, P) r h') : Cl mX12_treeOf [.ref a0] (g, I, P) r h' := Cl.of (by decide) (Nat.le_of_ble_eq_true rfl) H
set_option maxRecDepth 10000 in
theorem wX12_treeOf_4 {g : zG} {I : Nat → Nat → Int32} {P : Nat → Nat → Option Nat} {r : Option Value} {h' : zH} {a0 : Nat} {x1 : Int32} {x2 : Int32} (H : zk g a0 12 ∧ ((I a0 15 ≤ x2) → r = some (.int x1) ∧ h' = (g, I, P)) ∧ ((¬ I a0 15 ≤ x2) → Zt none mX12_treeOf 0 0 17 [(0, .ref a0), (1, .int x1), (2, .int x2), (3, .int 0), (4, .int 0)] [] (g, I, P) r h')) : Zt none mX12_treeOf 0 0 4 [(0, .ref a0), (1, .int x1), (2, .int x2)] [] (g, I, P) r h' := by
  refine z_iload_n 2 dX12_treeOf_4 rfl (z_aload_n 0 dX12_treeOf_5 rfl rfl (z_getI dX12_treeOf_6 wf_X12_190 (by decide) (by decide) rfl H.1 ?_))
  refine z_icmp_ge (t := 68) dX12_treeOf_9 (by decide) (fun q => ?_) (fun q => ?_)
  · have H1 := H.2.1 q
    refine z_iload_n 1 dX12_treeOf_68 rfl ?_
    obtain ⟨rfl, rfl⟩ := H1
    exact z_iret dX12_treeOf_69 rfl (by decide) (by decide)
  · have H2 := H.2.2 q
    refine z_iconst (w := 0) dX12_treeOf_12 (by decide) (z_istore_n (lv' := [(3, .int 0), (0, .ref a0), (1, .int x1), (2, .int x2)]) dX12_treeOf_13 (by decide) rfl (z_iconst (w := 0) dX12_treeOf_14 (by decide) (z_istore (lv' := [(4, .int 0), (3, .int 0), (0, .ref a0), (1, .int x1), (2, .int x2)]) dX12_treeOf_15 (by decide) rfl ?_)))
    exact z_less [2, 3, 4, 1, 0] rfl H2
set_option maxRecDepth 10000 in
theorem wX12_treeOf_17 {g : zG} {I : Nat → Nat → Int32} {P : Nat → Nat → Option Nat} {r : Option Value} {h' : zH} {a0 : Nat} {x1 : Int32} {x2 : Int32} {x3 : Int32} {x4 : Int32} (H : ((x2 ≤ x4) → zk g a0 12 ∧ ∃ (w2 : Int32), Cl mX12_longOf [.ref a0, .int x2] (g, I, P) (some (.int w2)) (g, I, P) ∧ Zt none mX12_treeOf 0 0 4 [(0, .ref a0), (1, .int (x1 + (w2 - x3))), (2, .int (x2 + 1))] [] (g, I, P) r h') ∧ ((¬ x2 ≤ x4) → zk g a0 12 ∧ ∃ (w6 : Int32), Cl mX12_alikeOf [.ref a0, .int x2, .int x4] (g, I, P) (some (.int w6)) (g, I, P) ∧ ((w6 ≤ x3) → Zt none mX12_treeOf 0 0 17 [(0, .ref a0), (1, .int x1), (2, .int x2), (3, .int x3), (4, .int (x4 + 1))] [] (g, I, P) r h') ∧ ((¬ w6 ≤ x3) → zk g a0 12 ∧ ∃ (w11 : Int32), Cl mX12_alikeOf [.ref a0, .int x2, .int x4] (g, I, P) (some (.int w11)) (g, I, P) ∧ Zt none mX12_treeOf 0 0 17 [(0, .ref a0), (1, .int x1), (2, .int x2), (3, .int w11), (4, .int (x4 + 1))] [] (g, I, P) r h'))) : Zt none mX12_treeOf 0 0 17 [(0, .ref a0), (1, .int x1), (2, .int x2), (3, .int x3), (4, .int x4)] [] (g, I, P) r h' := by
  refine z_iload 4 dX12_treeOf_17 rfl (z_iload_n 2 dX12_treeOf_19 rfl ?_)
  refine z_icmp_ge (t := 52) dX12_treeOf_20 (by decide) (fun q => ?_) (fun q => ?_)
  · have H1 := H.1 q
    refine z_iload_n 1 dX12_treeOf_52 rfl (z_aload_n 0 dX12_treeOf_53 rfl rfl (z_iload_n 2 dX12_treeOf_54 rfl ?_))
    obtain ⟨oc3, w2, c3, H4⟩ := H1
    refine z_virt (As := [.int x2]) (st := [.int x1]) (r1 := (some (.int w2))) (h1 := (g, I, P)) dX12_treeOf_55 kX12_longOf wm_X12_205 ⟨by decide, by decide⟩ rfl rfl (Nat.le_of_ble_eq_true rfl) (by decide) (by decide) oc3 c3 ?_
    refine z_iload_n 3 dX12_treeOf_58 rfl (z_isub dX12_treeOf_59 (z_iadd dX12_treeOf_60 (z_istore_n (lv' := [(1, .int (x1 + (w2 - x3))), (0, .ref a0), (2, .int x2), (3, .int x3), (4, .int x4)]) dX12_treeOf_61 (by decide) rfl (z_iinc (y := x2 + 1) (lv' := [(2, .int (x2 + 1)), (1, .int (x1 + (w2 - x3))), (0, .ref a0), (3, .int x3), (4, .int x4)]) 2 dX12_treeOf_62 rfl rfl (by decide) rfl (z_goto (t := 4) dX12_treeOf_65 (by decide) ?_)))))
    exact z_less [2, 1, 0] rfl H4
  · have H5 := H.2 q
    refine z_aload_n 0 dX12_treeOf_23 rfl rfl (z_iload_n 2 dX12_treeOf_24 rfl (z_iload 4 dX12_treeOf_25 rfl ?_))
    obtain ⟨oc7, w6, c7, H8⟩ := H5
    refine z_virt (As := [.int x2, .int x4]) (st := []) (r1 := (some (.int w6))) (h1 := (g, I, P)) dX12_treeOf_27 kX12_alikeOf wm_X12_294 ⟨by decide, by decide⟩ rfl rfl (Nat.le_of_ble_eq_true rfl) (by decide) (by decide) oc7 c7 ?_
    refine z_iload_n 3 dX12_treeOf_30 rfl ?_
    refine z_icmp_le (t := 44) dX12_treeOf_31 (by decide) (fun q => ?_) (fun q => ?_)
    · have H9 := H8.1 q
      refine z_iload_n 3 dX12_treeOf_44 rfl (z_istore_n (lv' := [(3, .int x3), (0, .ref a0), (1, .int x1), (2, .int x2), (4, .int x4)]) dX12_treeOf_45 (by decide) rfl (z_iinc (y := x4 + 1) (lv' := [(4, .int (x4 + 1)), (3, .int x3), (0, .ref a0), (1, .int x1), (2, .int x2)]) 4 dX12_treeOf_46 rfl rfl (by decide) rfl (z_goto (t := 17) dX12_treeOf_49 (by decide) ?_)))
      exact z_less [2, 3, 4, 1, 0] rfl H9
    · have H10 := H8.2 q
      refine z_aload_n 0 dX12_treeOf_34 rfl rfl (z_iload_n 2 dX12_treeOf_35 rfl (z_iload 4 dX12_treeOf_36 rfl ?_))
      obtain ⟨oc12, w11, c12, H13⟩ := H10
      refine z_virt (As := [.int x2, .int x4]) (st := []) (r1 := (some (.int w11))) (h1 := (g, I, P)) dX12_treeOf_38 kX12_alikeOf wm_X12_294 ⟨by decide, by decide⟩ rfl rfl (Nat.le_of_ble_eq_true rfl) (by decide) (by decide) oc12 c12 ?_
      refine z_goto (t := 45) dX12_treeOf_41 (by decide) (z_istore_n (lv' := [(3, .int w11), (0, .ref a0), (1, .int x1), (2, .int x2), (4, .int x4)]) dX12_treeOf_45 (by decide) rfl (z_iinc (y := x4 + 1) (lv' := [(4, .int (x4 + 1)), (3, .int w11), (0, .ref a0), (1, .int x1), (2, .int x2)]) 4 dX12_treeOf_46 rfl rfl (by decide) rfl (z_goto (t := 17) dX12_treeOf_49 (by decide) ?_)))
      exact z_less [2, 3, 4, 1, 0] rfl H13
theorem dX12_isBeginning_0 : decode cX12_isBeginning 0 = .ok (.iload_n 1, 1) := by decide +kernel
theorem dX12_isBeginning_1 : decode cX12_isBeginning 1 = .ok (.iload_n 2, 1) := by decide +kernel
theorem dX12_isBeginning_2 : decode cX12_isBeginning 2 = .ok (.if_icmp .eq 21, 3) := by decide +kernel
theorem dX12_isBeginning_5 : decode cX12_isBeginning 5 = .ok (.aload_n 0, 1) := by decide +kernel
theorem dX12_isBeginning_6 : decode cX12_isBeginning 6 = .ok (.iload_n 1, 1) := by decide +kernel
theorem dX12_isBeginning_7 : decode cX12_isBeginning 7 = .ok (.iload_n 2, 1) := by decide +kernel
theorem dX12_isBeginning_8 : decode cX12_isBeginning 8 = .ok (.invokevirtual 294, 3) := by decide +kernel
theorem dX12_isBeginning_11 : decode cX12_isBeginning 11 = .ok (.aload_n 0, 1) := by decide +kernel
theorem dX12_isBeginning_12 : decode cX12_isBeginning 12 = .ok (.iload_n 1, 1) := by decide +kernel
theorem dX12_isBeginning_13 : decode cX12_isBeginning 13 = .ok (.invokevirtual 205, 3) := by decide +kernel
theorem dX12_isBeginning_16 : decode cX12_isBeginning 16 = .ok (.if_icmp .ne 7, 3) := by decide +kernel
theorem dX12_isBeginning_19 : decode cX12_isBeginning 19 = .ok (.iconst 1, 1) := by decide +kernel
theorem dX12_isBeginning_20 : decode cX12_isBeginning 20 = .ok (.goto 4, 3) := by decide +kernel
theorem dX12_isBeginning_23 : decode cX12_isBeginning 23 = .ok (.iconst 0, 1) := by decide +kernel
theorem dX12_isBeginning_24 : decode cX12_isBeginning 24 = .ok (.ireturn, 1) := by decide +kernel
set_option maxRecDepth 10000 in
theorem wX12_isBeginning_0 {g : zG} {I : Nat → Nat → Int32} {P : Nat → Nat → Option Nat} {r : Option Value} {h' : zH} {a0 : Nat} {x1 : Int32} {x2 : Int32} (H : ((x1 = x2) → r = some (.int 0) ∧ h' = (g, I, P)) ∧ ((¬ x1 = x2) → zk g a0 12 ∧ ∃ (w3 : Int32), Cl mX12_alikeOf [.ref a0, .int x1, .int x2] (g, I, P) (some (.int w3)) (g, I, P) ∧ zk g a0 12 ∧ ∃ (w6 : Int32), Cl mX12_longOf [.ref a0, .int x1] (g, I, P) (some (.int w6)) (g, I, P) ∧ ((¬ w3 = w6) → r = some (.int 0) ∧ h' = (g, I, P)) ∧ ((w3 = w6) → r = some (.int 1) ∧ h' = (g, I, P)))) : Zt none mX12_isBeginning 0 0 0 [(0, .ref a0), (1, .int x1), (2, .int x2)] [] (g, I, P) r h' := by
  refine z_iload_n 1 dX12_isBeginning_0 rfl (z_iload_n 2 dX12_isBeginning_1 rfl ?_)
  refine z_icmp_eq (t := 23) dX12_isBeginning_2 (by decide) (fun q => ?_) (fun q => ?_)
  · have H1 := H.1 q
    refine z_iconst (w := 0) dX12_isBeginning_23 (by decide) ?_
    obtain ⟨rfl, rfl⟩ := H1
    exact z_zret dX12_isBeginning_24 rfl (Or.inl rfl) (by decide) (by decide)
  · have H2 := H.2 q
    refine z_aload_n 0 dX12_isBeginning_5 rfl rfl (z_iload_n 1 dX12_isBeginning_6 rfl (z_iload_n 2 dX12_isBeginning_7 rfl ?_))
    obtain ⟨oc4, w3, c4, H5⟩ := H2
    refine z_virt (As := [.int x1, .int x2]) (st := []) (r1 := (some (.int w3))) (h1 := (g, I, P)) dX12_isBeginning_8 kX12_alikeOf wm_X12_294 ⟨by decide, by decide⟩ rfl rfl (Nat.le_of_ble_eq_true rfl) (by decide) (by decide) oc4 c4 ?_
    refine z_aload_n 0 dX12_isBeginning_11 rfl rfl (z_iload_n 1 dX12_isBeginning_12 rfl ?_)
    obtain ⟨oc7, w6, c7, H8⟩ := H5
    refine z_virt (As := [.int x1]) (st := [.int w3]) (r1 := (some (.int w6))) (h1 := (g, I, P)) dX12_isBeginning_13 kX12_longOf wm_X12_205 ⟨by decide, by decide⟩ rfl rfl (Nat.le_of_ble_eq_true rfl) (by decide) (by decide) oc7 c7 ?_
    refine z_icmp_ne (t := 23) dX12_isBeginning_16 (by decide) (fun q => ?_) (fun q => ?_)
    · have H9 := H8.1 q
      refine z_iconst (w := 0) dX12_isBeginning_23 (by decide) ?_
      obtain ⟨rfl, rfl⟩ := H9
      exact z_zret dX12_isBeginning_24 rfl (Or.inl rfl) (by decide) (by decide)
    · have H10 := H8.2 q
      refine z_iconst (w := 1) dX12_isBeginning_19 (by decide) (z_goto (t := 24) dX12_isBeginning_20 (by decide) ?_)
      obtain ⟨rfl, rfl⟩ := H10
      exact z_zret dX12_isBeginning_24 rfl (Or.inr rfl) (by decide) (by decide)
theorem eX12_isBeginning {g : zG} {I : Nat → Nat → Int32} {P : Nat → Nat → Option Nat} {r : Option Value} {h' : zH} {a0 : Nat} {x1 : Int32} {x2 : Int32} (H : Zt none mX12_isBeginning 0 0 0 [(0, .ref a0), (1, .int x1), (2, .int x2)] [] (g, I, P) r h') : Cl mX12_isBeginning [.ref a0, .int x1, .int x2] (g, I, P) r h' := Cl.of (by decide) (Nat.le_of_ble_eq_true rfl) H
theorem dX12_withinOf_0 : decode cX12_withinOf 0 = .ok (.iconst 0, 1) := by decide +kernel
theorem dX12_withinOf_1 : decode cX12_withinOf 1 = .ok (.istore_n 2, 1) := by decide +kernel
theorem dX12_withinOf_2 : decode cX12_withinOf 2 = .ok (.iconst 0, 1) := by decide +kernel
theorem dX12_withinOf_3 : decode cX12_withinOf 3 = .ok (.istore_n 3, 1) := by decide +kernel
theorem dX12_withinOf_4 : decode cX12_withinOf 4 = .ok (.iload_n 3, 1) := by decide +kernel
theorem dX12_withinOf_5 : decode cX12_withinOf 5 = .ok (.aload_n 0, 1) := by decide +kernel
theorem dX12_withinOf_6 : decode cX12_withinOf 6 = .ok (.getfield 190, 3) := by decide +kernel
theorem dX12_withinOf_9 : decode cX12_withinOf 9 = .ok (.if_icmp .ge 64, 3) := by decide +kernel
theorem dX12_withinOf_12 : decode cX12_withinOf 12 = .ok (.iconst 0, 1) := by decide +kernel
theorem dX12_withinOf_13 : decode cX12_withinOf 13 = .ok (.istore 4, 2) := by decide +kernel
theorem dX12_withinOf_15 : decode cX12_withinOf 15 = .ok (.iload 4, 2) := by decide +kernel
theorem dX12_withinOf_17 : decode cX12_withinOf 17 = .ok (.aload_n 0, 1) := by decide +kernel
theorem dX12_withinOf_18 : decode cX12_withinOf 18 = .ok (.getfield 190, 3) := by decide +kernel
theorem dX12_withinOf_21 : decode cX12_withinOf 21 = .ok (.if_icmp .ge 46, 3) := by decide +kernel
theorem dX12_withinOf_24 : decode cX12_withinOf 24 = .ok (.iload_n 2, 1) := by decide +kernel
theorem dX12_withinOf_25 : decode cX12_withinOf 25 = .ok (.iload_n 1, 1) := by decide +kernel
theorem dX12_withinOf_26 : decode cX12_withinOf 26 = .ok (.iload_n 3, 1) := by decide +kernel
theorem dX12_withinOf_27 : decode cX12_withinOf 27 = .ok (.invokestatic 229, 3) := by decide +kernel
theorem dX12_withinOf_30 : decode cX12_withinOf 30 = .ok (.ifCond .eq 28, 3) := by decide +kernel
theorem dX12_withinOf_33 : decode cX12_withinOf 33 = .ok (.iload_n 1, 1) := by decide +kernel
theorem dX12_withinOf_34 : decode cX12_withinOf 34 = .ok (.iload 4, 2) := by decide +kernel
theorem dX12_withinOf_36 : decode cX12_withinOf 36 = .ok (.invokestatic 229, 3) := by decide +kernel
theorem dX12_withinOf_39 : decode cX12_withinOf 39 = .ok (.ifCond .eq 19, 3) := by decide +kernel
theorem dX12_withinOf_42 : decode cX12_withinOf 42 = .ok (.aload_n 0, 1) := by decide +kernel
theorem dX12_withinOf_43 : decode cX12_withinOf 43 = .ok (.iload_n 3, 1) := by decide +kernel
theorem dX12_withinOf_44 : decode cX12_withinOf 44 = .ok (.iload 4, 2) := by decide +kernel
theorem dX12_withinOf_46 : decode cX12_withinOf 46 = .ok (.invokevirtual 325, 3) := by decide +kernel
theorem dX12_withinOf_49 : decode cX12_withinOf 49 = .ok (.ifCond .eq 9, 3) := by decide +kernel
theorem dX12_withinOf_52 : decode cX12_withinOf 52 = .ok (.iconst 1, 1) := by decide +kernel
theorem dX12_withinOf_53 : decode cX12_withinOf 53 = .ok (.iload_n 3, 1) := by decide +kernel
theorem dX12_withinOf_54 : decode cX12_withinOf 54 = .ok (.ishl, 1) := by decide +kernel
theorem dX12_withinOf_55 : decode cX12_withinOf 55 = .ok (.goto 4, 3) := by decide +kernel
theorem dX12_withinOf_58 : decode cX12_withinOf 58 = .ok (.iconst 0, 1) := by decide +kernel
theorem dX12_withinOf_59 : decode cX12_withinOf 59 = .ok (.ior, 1) := by decide +kernel
theorem dX12_withinOf_60 : decode cX12_withinOf 60 = .ok (.istore_n 2, 1) := by decide +kernel
theorem dX12_withinOf_61 : decode cX12_withinOf 61 = .ok (.iinc 4 1, 3) := by decide +kernel
theorem dX12_withinOf_64 : decode cX12_withinOf 64 = .ok (.goto (-49), 3) := by decide +kernel
theorem dX12_withinOf_67 : decode cX12_withinOf 67 = .ok (.iinc 3 1, 3) := by decide +kernel
theorem dX12_withinOf_70 : decode cX12_withinOf 70 = .ok (.goto (-66), 3) := by decide +kernel
theorem dX12_withinOf_73 : decode cX12_withinOf 73 = .ok (.iload_n 2, 1) := by decide +kernel
theorem dX12_withinOf_74 : decode cX12_withinOf 74 = .ok (.ireturn, 1) := by decide +kernel
set_option maxRecDepth 10000 in
theorem wX12_withinOf_0 {g : zG} {I : Nat → Nat → Int32} {P : Nat → Nat → Option Nat} {r : Option Value} {h' : zH} {a0 : Nat} {x1 : Int32} (H : Zt none mX12_withinOf 0 0 4 [(0, .ref a0), (1, .int x1), (2, .int 0), (3, .int 0)] [] (g, I, P) r h') : Zt none mX12_withinOf 0 0 0 [(0, .ref a0), (1, .int x1)] [] (g, I, P) r h' := by
  refine z_iconst (w := 0) dX12_withinOf_0 (by decide) (z_istore_n (lv' := [(2, .int 0), (0, .ref a0), (1, .int x1)]) dX12_withinOf_1 (by decide) rfl (z_iconst (w := 0) dX12_withinOf_2 (by decide) (z_istore_n (lv' := [(3, .int 0), (2, .int 0), (0, .ref a0), (1, .int x1)]) dX12_withinOf_3 (by decide) rfl ?_)))
  exact z_less [2, 3, 1, 0] rfl H
theorem eX12_withinOf {g : zG} {I : Nat → Nat → Int32} {P : Nat → Nat → Option Nat} {r : Option Value} {h' : zH} {a0 : Nat} {x1 : Int32} (H : Zt none mX12_withinOf 0 0 0 [(0, .ref a0), (1, .int x1)] [] (g, I, P) r h') : Cl mX12_withinOf [.ref a0, .int x1] (g, I, P) r h' := Cl.of (by decide) (Nat.le_of_ble_eq_true rfl) H
set_option maxRecDepth 10000 in
theorem wX12_withinOf_4 {g : zG} {I : Nat → Nat → Int32} {P : Nat → Nat → Option Nat} {r : Option Value} {h' : zH} {a0 : Nat} {x1 : Int32} {x2 : Int32} {x3 : Int32} (H : zk g a0 12 ∧ ((I a0 15 ≤ x3) → r = some (.int x2) ∧ h' = (g, I, P)) ∧ ((¬ I a0 15 ≤ x3) → Zt none mX12_withinOf 0 0 15 [(0, .ref a0), (1, .int x1), (2, .int x2), (3, .int x3), (4, .int 0)] [] (g, I, P) r h')) : Zt none mX12_withinOf 0 0 4 [(0, .ref a0), (1, .int x1), (2, .int x2), (3, .int x3)] [] (g, I, P) r h' := by
  refine z_iload_n 3 dX12_withinOf_4 rfl (z_aload_n 0 dX12_withinOf_5 rfl rfl (z_getI dX12_withinOf_6 wf_X12_190 (by decide) (by decide) rfl H.1 ?_))
  refine z_icmp_ge (t := 73) dX12_withinOf_9 (by decide) (fun q => ?_) (fun q => ?_)
  · have H1 := H.2.1 q
    refine z_iload_n 2 dX12_withinOf_73 rfl ?_
    obtain ⟨rfl, rfl⟩ := H1
    exact z_iret dX12_withinOf_74 rfl (by decide) (by decide)
  · have H2 := H.2.2 q
    refine z_iconst (w := 0) dX12_withinOf_12 (by decide) (z_istore (lv' := [(4, .int 0), (0, .ref a0), (1, .int x1), (2, .int x2), (3, .int x3)]) dX12_withinOf_13 (by decide) rfl ?_)
    exact z_less [1, 2, 3, 4, 0] rfl H2
set_option maxRecDepth 10000 in
theorem wX12_withinOf_15 {g : zG} {I : Nat → Nat → Int32} {P : Nat → Nat → Option Nat} {r : Option Value} {h' : zH} {a0 : Nat} {x1 : Int32} {x2 : Int32} {x3 : Int32} {x4 : Int32} (H : zk g a0 12 ∧ ((I a0 15 ≤ x4) → Zt none mX12_withinOf 0 0 4 [(0, .ref a0), (1, .int x1), (2, .int x2), (3, .int (x3 + 1))] [] (g, I, P) r h') ∧ ((¬ I a0 15 ≤ x4) → ∃ (w3 : Int32), Cl mX12_holds [.int x1, .int x3] (g, I, P) (some (.int w3)) (g, I, P) ∧ ((w3 = 0) → Zt none mX12_withinOf 0 0 15 [(0, .ref a0), (1, .int x1), (2, .int (x2 ||| 0)), (3, .int x3), (4, .int (x4 + 1))] [] (g, I, P) r h') ∧ ((¬ w3 = 0) → ∃ (w8 : Int32), Cl mX12_holds [.int x1, .int x4] (g, I, P) (some (.int w8)) (g, I, P) ∧ ((w8 = 0) → Zt none mX12_withinOf 0 0 15 [(0, .ref a0), (1, .int x1), (2, .int (x2 ||| 0)), (3, .int x3), (4, .int (x4 + 1))] [] (g, I, P) r h') ∧ ((¬ w8 = 0) → zk g a0 12 ∧ ∃ (w13 : Int32), Cl mX12_isBeginning [.ref a0, .int x3, .int x4] (g, I, P) (some (.int w13)) (g, I, P) ∧ ((w13 = 0) → Zt none mX12_withinOf 0 0 15 [(0, .ref a0), (1, .int x1), (2, .int (x2 ||| 0)), (3, .int x3), (4, .int (x4 + 1))] [] (g, I, P) r h') ∧ ((¬ w13 = 0) → ∀ y18 : Int32, y18 = x2 ||| ((1 : Int32) <<< (x3 &&& 31)) → Zt none mX12_withinOf 0 0 15 [(0, .ref a0), (1, .int x1), (2, .int y18), (3, .int x3), (4, .int (x4 + 1))] [] (g, I, P) r h'))))) : Zt none mX12_withinOf 0 0 15 [(0, .ref a0), (1, .int x1), (2, .int x2), (3, .int x3), (4, .int x4)] [] (g, I, P) r h' := by
  refine z_iload 4 dX12_withinOf_15 rfl (z_aload_n 0 dX12_withinOf_17 rfl rfl (z_getI dX12_withinOf_18 wf_X12_190 (by decide) (by decide) rfl H.1 ?_))
  refine z_icmp_ge (t := 67) dX12_withinOf_21 (by decide) (fun q => ?_) (fun q => ?_)
  · have H1 := H.2.1 q
    refine z_iinc (y := x3 + 1) (lv' := [(3, .int (x3 + 1)), (0, .ref a0), (1, .int x1), (2, .int x2), (4, .int x4)]) 3 dX12_withinOf_67 rfl rfl (by decide) rfl (z_goto (t := 4) dX12_withinOf_70 (by decide) ?_)
    exact z_less [1, 2, 3, 0] rfl H1
  · have H2 := H.2.2 q
    refine z_iload_n 2 dX12_withinOf_24 rfl (z_iload_n 1 dX12_withinOf_25 rfl (z_iload_n 3 dX12_withinOf_26 rfl ?_))
    obtain ⟨w3, c4, H5⟩ := H2
    refine z_stat (As := [.int x1, .int x3]) (st := [.int x2]) (r1 := (some (.int w3))) (h1 := (g, I, P)) dX12_withinOf_27 kX12_holds wm_X12_229 ⟨by decide, by decide⟩ rfl rfl (Nat.le_of_ble_eq_true rfl) (by decide) (by decide) c4 ?_
    refine z_if_eq (t := 58) dX12_withinOf_30 (by decide) (fun q => ?_) (fun q => ?_)
    · have H6 := H5.1 q
      refine z_iconst (w := 0) dX12_withinOf_58 (by decide) (z_ior dX12_withinOf_59 (z_istore_n (lv' := [(2, .int (x2 ||| 0)), (0, .ref a0), (1, .int x1), (3, .int x3), (4, .int x4)]) dX12_withinOf_60 (by decide) rfl (z_iinc (y := x4 + 1) (lv' := [(4, .int (x4 + 1)), (2, .int (x2 ||| 0)), (0, .ref a0), (1, .int x1), (3, .int x3)]) 4 dX12_withinOf_61 rfl rfl (by decide) rfl (z_goto (t := 15) dX12_withinOf_64 (by decide) ?_))))
      exact z_less [2, 3, 1, 4, 0] rfl H6
    · have H7 := H5.2 q
      refine z_iload_n 1 dX12_withinOf_33 rfl (z_iload 4 dX12_withinOf_34 rfl ?_)
      obtain ⟨w8, c9, H10⟩ := H7
      refine z_stat (As := [.int x1, .int x4]) (st := [.int x2]) (r1 := (some (.int w8))) (h1 := (g, I, P)) dX12_withinOf_36 kX12_holds wm_X12_229 ⟨by decide, by decide⟩ rfl rfl (Nat.le_of_ble_eq_true rfl) (by decide) (by decide) c9 ?_
      refine z_if_eq (t := 58) dX12_withinOf_39 (by decide) (fun q => ?_) (fun q => ?_)
      · have H11 := H10.1 q
        refine z_iconst (w := 0) dX12_withinOf_58 (by decide) (z_ior dX12_withinOf_59 (z_istore_n (lv' := [(2, .int (x2 ||| 0)), (0, .ref a0), (1, .int x1), (3, .int x3), (4, .int x4)]) dX12_withinOf_60 (by decide) rfl (z_iinc (y := x4 + 1) (lv' := [(4, .int (x4 + 1)), (2, .int (x2 ||| 0)), (0, .ref a0), (1, .int x1), (3, .int x3)]) 4 dX12_withinOf_61 rfl rfl (by decide) rfl (z_goto (t := 15) dX12_withinOf_64 (by decide) ?_))))
        exact z_less [2, 3, 1, 4, 0] rfl H11
      · have H12 := H10.2 q
        refine z_aload_n 0 dX12_withinOf_42 rfl rfl (z_iload_n 3 dX12_withinOf_43 rfl (z_iload 4 dX12_withinOf_44 rfl ?_))
        obtain ⟨oc14, w13, c14, H15⟩ := H12
        refine z_virt (As := [.int x3, .int x4]) (st := [.int x2]) (r1 := (some (.int w13))) (h1 := (g, I, P)) dX12_withinOf_46 kX12_isBeginning wm_X12_325 ⟨by decide, by decide⟩ rfl rfl (Nat.le_of_ble_eq_true rfl) (by decide) (by decide) oc14 c14 ?_
        refine z_if_eq (t := 58) dX12_withinOf_49 (by decide) (fun q => ?_) (fun q => ?_)
        · have H16 := H15.1 q
          refine z_iconst (w := 0) dX12_withinOf_58 (by decide) (z_ior dX12_withinOf_59 (z_istore_n (lv' := [(2, .int (x2 ||| 0)), (0, .ref a0), (1, .int x1), (3, .int x3), (4, .int x4)]) dX12_withinOf_60 (by decide) rfl (z_iinc (y := x4 + 1) (lv' := [(4, .int (x4 + 1)), (2, .int (x2 ||| 0)), (0, .ref a0), (1, .int x1), (3, .int x3)]) 4 dX12_withinOf_61 rfl rfl (by decide) rfl (z_goto (t := 15) dX12_withinOf_64 (by decide) ?_))))
          exact z_less [2, 3, 1, 4, 0] rfl H16
        · have H17 := H15.2 q
          refine z_iconst (w := 1) dX12_withinOf_52 (by decide) (z_iload_n 3 dX12_withinOf_53 rfl (z_ishl dX12_withinOf_54 (z_goto (t := 59) dX12_withinOf_55 (by decide) (z_ior dX12_withinOf_59 ?_))))
          refine z_nm (fun y18 e_y18 => ?_)
          have H19 := H17 y18 e_y18
          refine z_istore_n (lv' := [(2, .int y18), (0, .ref a0), (1, .int x1), (3, .int x3), (4, .int x4)]) dX12_withinOf_60 (by decide) rfl (z_iinc (y := x4 + 1) (lv' := [(4, .int (x4 + 1)), (2, .int y18), (0, .ref a0), (1, .int x1), (3, .int x3)]) 4 dX12_withinOf_61 rfl rfl (by decide) rfl (z_goto (t := 15) dX12_withinOf_64 (by decide) ?_))
          exact z_less [2, 3, 1, 4, 0] rfl H19
theorem dX12_leadsOf_0 : decode cX12_leadsOf 0 = .ok (.aload_n 0, 1) := by decide +kernel
theorem dX12_leadsOf_1 : decode cX12_leadsOf 1 = .ok (.iload_n 1, 1) := by decide +kernel
theorem dX12_leadsOf_2 : decode cX12_leadsOf 2 = .ok (.invokevirtual 211, 3) := by decide +kernel
theorem dX12_leadsOf_5 : decode cX12_leadsOf 5 = .ok (.istore_n 2, 1) := by decide +kernel
theorem dX12_leadsOf_6 : decode cX12_leadsOf 6 = .ok (.iconst 1, 1) := by decide +kernel
theorem dX12_leadsOf_7 : decode cX12_leadsOf 7 = .ok (.istore_n 3, 1) := by decide +kernel
theorem dX12_leadsOf_8 : decode cX12_leadsOf 8 = .ok (.iload_n 3, 1) := by decide +kernel
theorem dX12_leadsOf_9 : decode cX12_leadsOf 9 = .ok (.ifCond .eq 62, 3) := by decide +kernel
theorem dX12_leadsOf_12 : decode cX12_leadsOf 12 = .ok (.iload_n 2, 1) := by decide +kernel
theorem dX12_leadsOf_13 : decode cX12_leadsOf 13 = .ok (.istore 4, 2) := by decide +kernel
theorem dX12_leadsOf_15 : decode cX12_leadsOf 15 = .ok (.iconst 0, 1) := by decide +kernel
theorem dX12_leadsOf_16 : decode cX12_leadsOf 16 = .ok (.istore 5, 2) := by decide +kernel
theorem dX12_leadsOf_18 : decode cX12_leadsOf 18 = .ok (.iload 5, 2) := by decide +kernel
theorem dX12_leadsOf_20 : decode cX12_leadsOf 20 = .ok (.aload_n 0, 1) := by decide +kernel
theorem dX12_leadsOf_21 : decode cX12_leadsOf 21 = .ok (.getfield 190, 3) := by decide +kernel
theorem dX12_leadsOf_24 : decode cX12_leadsOf 24 = .ok (.if_icmp .ge 32, 3) := by decide +kernel
theorem dX12_leadsOf_27 : decode cX12_leadsOf 27 = .ok (.iload_n 2, 1) := by decide +kernel
theorem dX12_leadsOf_28 : decode cX12_leadsOf 28 = .ok (.iload 4, 2) := by decide +kernel
theorem dX12_leadsOf_30 : decode cX12_leadsOf 30 = .ok (.iload 5, 2) := by decide +kernel
theorem dX12_leadsOf_32 : decode cX12_leadsOf 32 = .ok (.invokestatic 229, 3) := by decide +kernel
theorem dX12_leadsOf_35 : decode cX12_leadsOf 35 = .ok (.ifCond .eq 12, 3) := by decide +kernel
theorem dX12_leadsOf_38 : decode cX12_leadsOf 38 = .ok (.aload_n 0, 1) := by decide +kernel
theorem dX12_leadsOf_39 : decode cX12_leadsOf 39 = .ok (.iload 5, 2) := by decide +kernel
theorem dX12_leadsOf_41 : decode cX12_leadsOf 41 = .ok (.invokevirtual 211, 3) := by decide +kernel
theorem dX12_leadsOf_44 : decode cX12_leadsOf 44 = .ok (.goto 4, 3) := by decide +kernel
theorem dX12_leadsOf_47 : decode cX12_leadsOf 47 = .ok (.iconst 0, 1) := by decide +kernel
theorem dX12_leadsOf_48 : decode cX12_leadsOf 48 = .ok (.ior, 1) := by decide +kernel
theorem dX12_leadsOf_49 : decode cX12_leadsOf 49 = .ok (.istore_n 2, 1) := by decide +kernel
theorem dX12_leadsOf_50 : decode cX12_leadsOf 50 = .ok (.iinc 5 1, 3) := by decide +kernel
theorem dX12_leadsOf_53 : decode cX12_leadsOf 53 = .ok (.goto (-35), 3) := by decide +kernel
theorem dX12_leadsOf_56 : decode cX12_leadsOf 56 = .ok (.iload_n 2, 1) := by decide +kernel
theorem dX12_leadsOf_57 : decode cX12_leadsOf 57 = .ok (.iload 4, 2) := by decide +kernel
theorem dX12_leadsOf_59 : decode cX12_leadsOf 59 = .ok (.if_icmp .eq 7, 3) := by decide +kernel
theorem dX12_leadsOf_62 : decode cX12_leadsOf 62 = .ok (.iconst 1, 1) := by decide +kernel
theorem dX12_leadsOf_63 : decode cX12_leadsOf 63 = .ok (.goto 4, 3) := by decide +kernel
theorem dX12_leadsOf_66 : decode cX12_leadsOf 66 = .ok (.iconst 0, 1) := by decide +kernel
theorem dX12_leadsOf_67 : decode cX12_leadsOf 67 = .ok (.istore_n 3, 1) := by decide +kernel
theorem dX12_leadsOf_68 : decode cX12_leadsOf 68 = .ok (.goto (-60), 3) := by decide +kernel
theorem dX12_leadsOf_71 : decode cX12_leadsOf 71 = .ok (.iload_n 2, 1) := by decide +kernel
theorem dX12_leadsOf_72 : decode cX12_leadsOf 72 = .ok (.ireturn, 1) := by decide +kernel
set_option maxRecDepth 10000 in
theorem wX12_leadsOf_0 {g : zG} {I : Nat → Nat → Int32} {P : Nat → Nat → Option Nat} {r : Option Value} {h' : zH} {a0 : Nat} {x1 : Int32} (H : zk g a0 12 ∧ ∃ (w1 : Int32), Cl mX12_behind [.ref a0, .int x1] (g, I, P) (some (.int w1)) (g, I, P) ∧ Zt none mX12_leadsOf 0 0 8 [(0, .ref a0), (2, .int w1), (3, .int 1)] [] (g, I, P) r h') : Zt none mX12_leadsOf 0 0 0 [(0, .ref a0), (1, .int x1)] [] (g, I, P) r h' := by
  refine z_aload_n 0 dX12_leadsOf_0 rfl rfl (z_iload_n 1 dX12_leadsOf_1 rfl ?_)
  obtain ⟨oc2, w1, c2, H3⟩ := H
  refine z_virt (As := [.int x1]) (st := []) (r1 := (some (.int w1))) (h1 := (g, I, P)) dX12_leadsOf_2 kX12_behind wm_X12_211 ⟨by decide, by decide⟩ rfl rfl (Nat.le_of_ble_eq_true rfl) (by decide) (by decide) oc2 c2 ?_
  refine z_istore_n (lv' := [(2, .int w1), (0, .ref a0), (1, .int x1)]) dX12_leadsOf_5 (by decide) rfl (z_iconst (w := 1) dX12_leadsOf_6 (by decide) (z_istore_n (lv' := [(3, .int 1), (2, .int w1), (0, .ref a0), (1, .int x1)]) dX12_leadsOf_7 (by decide) rfl ?_))
  exact z_less [2, 1, 0] rfl H3
theorem eX12_leadsOf {g : zG} {I : Nat → Nat → Int32} {P : Nat → Nat → Option Nat} {r : Option Value} {h' : zH} {a0 : Nat} {x1 : Int32} (H : Zt none mX12_leadsOf 0 0 0 [(0, .ref a0), (1, .int x1)] [] (g, I, P) r h') : Cl mX12_leadsOf [.ref a0, .int x1] (g, I, P) r h' := Cl.of (by decide) (Nat.le_of_ble_eq_true rfl) H
set_option maxRecDepth 10000 in
theorem wX12_leadsOf_8 {g : zG} {I : Nat → Nat → Int32} {P : Nat → Nat → Option Nat} {r : Option Value} {h' : zH} {a0 : Nat} {x2 : Int32} {x3 : Int32} (H : ((x3 = 0) → r = some (.int x2) ∧ h' = (g, I, P)) ∧ ((¬ x3 = 0) → Zt none mX12_leadsOf 0 0 18 [(0, .ref a0), (2, .int x2), (4, .int x2), (5, .int 0)] [] (g, I, P) r h')) : Zt none mX12_leadsOf 0 0 8 [(0, .ref a0), (2, .int x2), (3, .int x3)] [] (g, I, P) r h' := by
  refine z_iload_n 2 dX12_leadsOf_8 rfl ?_
  refine z_if_eq (t := 71) dX12_leadsOf_9 (by decide) (fun q => ?_) (fun q => ?_)
  · have H1 := H.1 q
    refine z_iload_n 1 dX12_leadsOf_71 rfl ?_
    obtain ⟨rfl, rfl⟩ := H1
    exact z_iret dX12_leadsOf_72 rfl (by decide) (by decide)
  · have H2 := H.2 q
    refine z_iload_n 1 dX12_leadsOf_12 rfl (z_istore (lv' := [(4, .int x2), (0, .ref a0), (2, .int x2), (3, .int x3)]) dX12_leadsOf_13 (by decide) rfl (z_iconst (w := 0) dX12_leadsOf_15 (by decide) (z_istore (lv' := [(5, .int 0), (4, .int x2), (0, .ref a0), (2, .int x2), (3, .int x3)]) dX12_leadsOf_16 (by decide) rfl ?_)))
    exact z_less [2, 3, 1, 0] rfl H2
set_option maxRecDepth 10000 in
theorem wX12_leadsOf_18 {g : zG} {I : Nat → Nat → Int32} {P : Nat → Nat → Option Nat} {r : Option Value} {h' : zH} {a0 : Nat} {x2 : Int32} {x4 : Int32} {x5 : Int32} (H : zk g a0 12 ∧ ((I a0 15 ≤ x5) → ((x2 = x4) → Zt none mX12_leadsOf 0 0 8 [(0, .ref a0), (2, .int x2), (3, .int 0)] [] (g, I, P) r h') ∧ ((¬ x2 = x4) → Zt none mX12_leadsOf 0 0 8 [(0, .ref a0), (2, .int x2), (3, .int 1)] [] (g, I, P) r h')) ∧ ((¬ I a0 15 ≤ x5) → ∃ (w5 : Int32), Cl mX12_holds [.int x4, .int x5] (g, I, P) (some (.int w5)) (g, I, P) ∧ ((w5 = 0) → Zt none mX12_leadsOf 0 0 18 [(0, .ref a0), (2, .int (x2 ||| 0)), (4, .int x4), (5, .int (x5 + 1))] [] (g, I, P) r h') ∧ ((¬ w5 = 0) → zk g a0 12 ∧ ∃ (w10 : Int32), Cl mX12_behind [.ref a0, .int x5] (g, I, P) (some (.int w10)) (g, I, P) ∧ Zt none mX12_leadsOf 0 0 18 [(0, .ref a0), (2, .int (x2 ||| w10)), (4, .int x4), (5, .int (x5 + 1))] [] (g, I, P) r h'))) : Zt none mX12_leadsOf 0 0 18 [(0, .ref a0), (2, .int x2), (4, .int x4), (5, .int x5)] [] (g, I, P) r h' := by
  refine z_iload 3 dX12_leadsOf_18 rfl (z_aload_n 0 dX12_leadsOf_20 rfl rfl (z_getI dX12_leadsOf_21 wf_X12_190 (by decide) (by decide) rfl H.1 ?_))
  refine z_icmp_ge (t := 56) dX12_leadsOf_24 (by decide) (fun q => ?_) (fun q => ?_)
  · have H1 := H.2.1 q
    refine z_iload_n 1 dX12_leadsOf_56 rfl (z_iload 2 dX12_leadsOf_57 rfl ?_)
    refine z_icmp_eq (t := 66) dX12_leadsOf_59 (by decide) (fun q => ?_) (fun q => ?_)
    · have H2 := H1.1 q
      refine z_iconst (w := 0) dX12_leadsOf_66 (by decide) (z_istore_n (lv' := [(3, .int 0), (0, .ref a0), (2, .int x2), (4, .int x4), (5, .int x5)]) dX12_leadsOf_67 (by decide) rfl (z_goto (t := 8) dX12_leadsOf_68 (by decide) ?_))
      exact z_less [1, 2, 0] rfl H2
    · have H3 := H1.2 q
      refine z_iconst (w := 1) dX12_leadsOf_62 (by decide) (z_goto (t := 67) dX12_leadsOf_63 (by decide) (z_istore_n (lv' := [(3, .int 1), (0, .ref a0), (2, .int x2), (4, .int x4), (5, .int x5)]) dX12_leadsOf_67 (by decide) rfl (z_goto (t := 8) dX12_leadsOf_68 (by decide) ?_)))
      exact z_less [1, 2, 0] rfl H3
  · have H4 := H.2.2 q
    refine z_iload_n 1 dX12_leadsOf_27 rfl (z_iload 2 dX12_leadsOf_28 rfl (z_iload 3 dX12_leadsOf_30 rfl ?_))
    obtain ⟨w5, c6, H7⟩ := H4
    refine z_stat (As := [.int x4, .int x5]) (st := [.int x2]) (r1 := (some (.int w5))) (h1 := (g, I, P)) dX12_leadsOf_32 kX12_holds wm_X12_229 ⟨by decide, by decide⟩ rfl rfl (Nat.le_of_ble_eq_true rfl) (by decide) (by decide) c6 ?_
    refine z_if_eq (t := 47) dX12_leadsOf_35 (by decide) (fun q => ?_) (fun q => ?_)
    · have H8 := H7.1 q
      refine z_iconst (w := 0) dX12_leadsOf_47 (by decide) (z_ior dX12_leadsOf_48 (z_istore_n (lv' := [(2, .int (x2 ||| 0)), (0, .ref a0), (4, .int x4), (5, .int x5)]) dX12_leadsOf_49 (by decide) rfl (z_iinc (y := x5 + 1) (lv' := [(5, .int (x5 + 1)), (2, .int (x2 ||| 0)), (0, .ref a0), (4, .int x4)]) 3 dX12_leadsOf_50 rfl rfl (by decide) rfl (z_goto (t := 18) dX12_leadsOf_53 (by decide) ?_))))
      exact z_less [2, 1, 3, 0] rfl H8
    · have H9 := H7.2 q
      refine z_aload_n 0 dX12_leadsOf_38 rfl rfl (z_iload 3 dX12_leadsOf_39 rfl ?_)
      obtain ⟨oc11, w10, c11, H12⟩ := H9
      refine z_virt (As := [.int x5]) (st := [.int x2]) (r1 := (some (.int w10))) (h1 := (g, I, P)) dX12_leadsOf_41 kX12_behind wm_X12_211 ⟨by decide, by decide⟩ rfl rfl (Nat.le_of_ble_eq_true rfl) (by decide) (by decide) oc11 c11 ?_
      refine z_goto (t := 48) dX12_leadsOf_44 (by decide) (z_ior dX12_leadsOf_48 (z_istore_n (lv' := [(2, .int (x2 ||| w10)), (0, .ref a0), (4, .int x4), (5, .int x5)]) dX12_leadsOf_49 (by decide) rfl (z_iinc (y := x5 + 1) (lv' := [(5, .int (x5 + 1)), (2, .int (x2 ||| w10)), (0, .ref a0), (4, .int x4)]) 3 dX12_leadsOf_50 rfl rfl (by decide) rfl (z_goto (t := 18) dX12_leadsOf_53 (by decide) ?_))))
      exact z_less [2, 1, 3, 0] rfl H12
theorem dX12_tree_0 : decode cX12_tree 0 = .ok (.aload_n 0, 1) := by decide +kernel
theorem dX12_tree_1 : decode cX12_tree 1 = .ok (.iload_n 1, 1) := by decide +kernel
theorem dX12_tree_2 : decode cX12_tree 2 = .ok (.invokevirtual 196, 3) := by decide +kernel
theorem dX12_tree_5 : decode cX12_tree 5 = .ok (.ifCond .eq 7, 3) := by decide +kernel
theorem dX12_tree_8 : decode cX12_tree 8 = .ok (.iload_n 2, 1) := by decide +kernel
theorem dX12_tree_9 : decode cX12_tree 9 = .ok (.ifCond .ge 6, 3) := by decide +kernel
theorem dX12_tree_12 : decode cX12_tree 12 = .ok (.bipush (-2), 2) := by decide +kernel
theorem dX12_tree_14 : decode cX12_tree 14 = .ok (.ireturn, 1) := by decide +kernel
theorem dX12_tree_15 : decode cX12_tree 15 = .ok (.iload_n 2, 1) := by decide +kernel
theorem dX12_tree_16 : decode cX12_tree 16 = .ok (.bipush 10, 2) := by decide +kernel
theorem dX12_tree_18 : decode cX12_tree 18 = .ok (.if_icmp .lt 28, 3) := by decide +kernel
theorem dX12_tree_21 : decode cX12_tree 21 = .ok (.aload_n 0, 1) := by decide +kernel
theorem dX12_tree_22 : decode cX12_tree 22 = .ok (.iload_n 2, 1) := by decide +kernel
theorem dX12_tree_23 : decode cX12_tree 23 = .ok (.bipush 10, 2) := by decide +kernel
theorem dX12_tree_25 : decode cX12_tree 25 = .ok (.isub, 1) := by decide +kernel
theorem dX12_tree_26 : decode cX12_tree 26 = .ok (.invokevirtual 202, 3) := by decide +kernel
theorem dX12_tree_29 : decode cX12_tree 29 = .ok (.ifCond .eq 14, 3) := by decide +kernel
theorem dX12_tree_32 : decode cX12_tree 32 = .ok (.aload_n 0, 1) := by decide +kernel
theorem dX12_tree_33 : decode cX12_tree 33 = .ok (.iload_n 2, 1) := by decide +kernel
theorem dX12_tree_34 : decode cX12_tree 34 = .ok (.bipush 10, 2) := by decide +kernel
theorem dX12_tree_36 : decode cX12_tree 36 = .ok (.isub, 1) := by decide +kernel
theorem dX12_tree_37 : decode cX12_tree 37 = .ok (.invokevirtual 328, 3) := by decide +kernel
theorem dX12_tree_40 : decode cX12_tree 40 = .ok (.goto 5, 3) := by decide +kernel
theorem dX12_tree_43 : decode cX12_tree 43 = .ok (.bipush (-2), 2) := by decide +kernel
theorem dX12_tree_45 : decode cX12_tree 45 = .ok (.ireturn, 1) := by decide +kernel
theorem dX12_tree_46 : decode cX12_tree 46 = .ok (.iconst 0, 1) := by decide +kernel
theorem dX12_tree_47 : decode cX12_tree 47 = .ok (.istore_n 3, 1) := by decide +kernel
theorem dX12_tree_48 : decode cX12_tree 48 = .ok (.iconst 0, 1) := by decide +kernel
theorem dX12_tree_49 : decode cX12_tree 49 = .ok (.istore 4, 2) := by decide +kernel
theorem dX12_tree_51 : decode cX12_tree 51 = .ok (.iload 4, 2) := by decide +kernel
theorem dX12_tree_53 : decode cX12_tree 53 = .ok (.bipush 6, 2) := by decide +kernel
theorem dX12_tree_55 : decode cX12_tree 55 = .ok (.if_icmp .ge 33, 3) := by decide +kernel
theorem dX12_tree_58 : decode cX12_tree 58 = .ok (.iload_n 3, 1) := by decide +kernel
theorem dX12_tree_59 : decode cX12_tree 59 = .ok (.aload_n 0, 1) := by decide +kernel
theorem dX12_tree_60 : decode cX12_tree 60 = .ok (.aload_n 0, 1) := by decide +kernel
theorem dX12_tree_61 : decode cX12_tree 61 = .ok (.iload 4, 2) := by decide +kernel
theorem dX12_tree_63 : decode cX12_tree 63 = .ok (.invokevirtual 199, 3) := by decide +kernel
theorem dX12_tree_66 : decode cX12_tree 66 = .ok (.invokevirtual 331, 3) := by decide +kernel
theorem dX12_tree_69 : decode cX12_tree 69 = .ok (.ifCond .eq 10, 3) := by decide +kernel
theorem dX12_tree_72 : decode cX12_tree 72 = .ok (.iconst 1, 1) := by decide +kernel
theorem dX12_tree_73 : decode cX12_tree 73 = .ok (.iload 4, 2) := by decide +kernel
theorem dX12_tree_75 : decode cX12_tree 75 = .ok (.ishl, 1) := by decide +kernel
theorem dX12_tree_76 : decode cX12_tree 76 = .ok (.goto 4, 3) := by decide +kernel
theorem dX12_tree_79 : decode cX12_tree 79 = .ok (.iconst 0, 1) := by decide +kernel
theorem dX12_tree_80 : decode cX12_tree 80 = .ok (.ior, 1) := by decide +kernel
theorem dX12_tree_81 : decode cX12_tree 81 = .ok (.istore_n 3, 1) := by decide +kernel
theorem dX12_tree_82 : decode cX12_tree 82 = .ok (.iinc 4 1, 3) := by decide +kernel
theorem dX12_tree_85 : decode cX12_tree 85 = .ok (.goto (-34), 3) := by decide +kernel
theorem dX12_tree_88 : decode cX12_tree 88 = .ok (.aload_n 0, 1) := by decide +kernel
theorem dX12_tree_89 : decode cX12_tree 89 = .ok (.invokevirtual 334, 3) := by decide +kernel
theorem dX12_tree_92 : decode cX12_tree 92 = .ok (.istore 4, 2) := by decide +kernel
theorem dX12_tree_94 : decode cX12_tree 94 = .ok (.iload_n 2, 1) := by decide +kernel
theorem dX12_tree_95 : decode cX12_tree 95 = .ok (.tableswitch 77 0 4 #[33, 36, 61, 66, 75], 33) := by decide +kernel
theorem dX12_tree_128 : decode cX12_tree 128 = .ok (.iload 4, 2) := by decide +kernel
theorem dX12_tree_130 : decode cX12_tree 130 = .ok (.ireturn, 1) := by decide +kernel
theorem dX12_tree_131 : decode cX12_tree 131 = .ok (.iload 4, 2) := by decide +kernel
theorem dX12_tree_133 : decode cX12_tree 133 = .ok (.iconst (-1), 1) := by decide +kernel
theorem dX12_tree_134 : decode cX12_tree 134 = .ok (.if_icmp .ne 7, 3) := by decide +kernel
theorem dX12_tree_137 : decode cX12_tree 137 = .ok (.iconst (-1), 1) := by decide +kernel
theorem dX12_tree_138 : decode cX12_tree 138 = .ok (.goto 17, 3) := by decide +kernel
theorem dX12_tree_141 : decode cX12_tree 141 = .ok (.aload_n 0, 1) := by decide +kernel
theorem dX12_tree_142 : decode cX12_tree 142 = .ok (.iload 4, 2) := by decide +kernel
theorem dX12_tree_144 : decode cX12_tree 144 = .ok (.bipush 10, 2) := by decide +kernel
theorem dX12_tree_146 : decode cX12_tree 146 = .ok (.idiv, 1) := by decide +kernel
theorem dX12_tree_147 : decode cX12_tree 147 = .ok (.iload 4, 2) := by decide +kernel
theorem dX12_tree_149 : decode cX12_tree 149 = .ok (.bipush 10, 2) := by decide +kernel
theorem dX12_tree_151 : decode cX12_tree 151 = .ok (.irem, 1) := by decide +kernel
theorem dX12_tree_152 : decode cX12_tree 152 = .ok (.invokevirtual 322, 3) := by decide +kernel
theorem dX12_tree_155 : decode cX12_tree 155 = .ok (.ireturn, 1) := by decide +kernel
theorem dX12_tree_156 : decode cX12_tree 156 = .ok (.aload_n 0, 1) := by decide +kernel
theorem dX12_tree_157 : decode cX12_tree 157 = .ok (.invokevirtual 337, 3) := by decide +kernel
theorem dX12_tree_160 : decode cX12_tree 160 = .ok (.ireturn, 1) := by decide +kernel
theorem dX12_tree_161 : decode cX12_tree 161 = .ok (.aload_n 0, 1) := by decide +kernel
theorem dX12_tree_162 : decode cX12_tree 162 = .ok (.aload_n 0, 1) := by decide +kernel
theorem dX12_tree_163 : decode cX12_tree 163 = .ok (.invokevirtual 193, 3) := by decide +kernel
theorem dX12_tree_166 : decode cX12_tree 166 = .ok (.invokevirtual 331, 3) := by decide +kernel
theorem dX12_tree_169 : decode cX12_tree 169 = .ok (.ireturn, 1) := by decide +kernel
theorem dX12_tree_170 : decode cX12_tree 170 = .ok (.iload_n 3, 1) := by decide +kernel
theorem dX12_tree_171 : decode cX12_tree 171 = .ok (.ireturn, 1) := by decide +kernel
theorem dX12_tree_172 : decode cX12_tree 172 = .ok (.bipush (-2), 2) := by decide +kernel
theorem dX12_tree_174 : decode cX12_tree 174 = .ok (.ireturn, 1) := by decide +kernel
set_option maxRecDepth 10000 in
theorem wX12_tree_0 {g : zG} {I : Nat → Nat → Int32} {P : Nat → Nat → Option Nat} {r : Option Value} {h' : zH} {a0 : Nat} {x1 : Int32} {x2 : Int32} (H : zk g a0 12 ∧ ∃ (w1 : Int32) (I2 : Nat → Nat → Int32), Cl mX12_isHill [.ref a0, .int x1] (g, I, P) (some (.int w1)) (g, I2, P) ∧ ((w1 = 0) → r = some (.int (-2)) ∧ h' = (g, I2, P)) ∧ ((¬ w1 = 0) → ((0 ≤ x2) → ((x2 < 10) → Zt none mX12_tree 0 0 51 [(0, .ref a0), (2, .int x2), (3, .int 0), (4, .int 0)] [] (g, I2, P) r h') ∧ ((¬ x2 < 10) → zk g a0 12 ∧ ∃ (w10 : Int32), Cl mX12_isWord [.ref a0, .int (x2 - 10)] (g, I2, P) (some (.int w10)) (g, I2, P) ∧ ((w10 = 0) → r = some (.int (-2)) ∧ h' = (g, I2, P)) ∧ ((¬ w10 = 0) → zk g a0 12 ∧ ∃ (w15 : Int32), Cl mX12_leadsOf [.ref a0, .int (x2 - 10)] (g, I2, P) (some (.int w15)) (g, I2, P) ∧ r = some (.int w15) ∧ h' = (g, I2, P)))) ∧ ((¬ 0 ≤ x2) → r = some (.int (-2)) ∧ h' = (g, I2, P)))) : Zt none mX12_tree 0 0 0 [(0, .ref a0), (1, .int x1), (2, .int x2)] [] (g, I, P) r h' := by
  refine z_aload_n 0 dX12_tree_0 rfl rfl (z_iload_n 1 dX12_tree_1 rfl ?_)
  obtain ⟨oc3, w1, I2, c3, H4⟩ := H
  refine z_virt (As := [.int x1]) (st := []) (r1 := (some (.int w1))) (h1 := (g, I2, P)) dX12_tree_2 kX12_isHill wm_X12_196 ⟨by decide, by decide⟩ rfl rfl (Nat.le_of_ble_eq_true rfl) (by decide) (by decide) oc3 c3 ?_
  refine z_if_eq (t := 12) dX12_tree_5 (by decide) (fun q => ?_) (fun q => ?_)
  · have H5 := H4.1 q
    refine z_bipush (w := (-2)) dX12_tree_12 (by decide) ?_
    obtain ⟨rfl, rfl⟩ := H5
    exact z_iret dX12_tree_14 rfl (by decide) (by decide)
  · have H6 := H4.2 q
    refine z_iload_n 2 dX12_tree_8 rfl ?_
    refine z_if_ge (t := 15) dX12_tree_9 (by decide) (fun q => ?_) (fun q => ?_)
    · have H7 := H6.1 q
      refine z_iload_n 2 dX12_tree_15 rfl (z_bipush (w := 10) dX12_tree_16 (by decide) ?_)
      refine z_icmp_lt (t := 46) dX12_tree_18 (by decide) (fun q => ?_) (fun q => ?_)
      · have H8 := H7.1 q
        refine z_iconst (w := 0) dX12_tree_46 (by decide) (z_istore_n (lv' := [(3, .int 0), (0, .ref a0), (1, .int x1), (2, .int x2)]) dX12_tree_47 (by decide) rfl (z_iconst (w := 0) dX12_tree_48 (by decide) (z_istore (lv' := [(4, .int 0), (3, .int 0), (0, .ref a0), (1, .int x1), (2, .int x2)]) dX12_tree_49 (by decide) rfl ?_)))
        exact z_less [2, 4, 1, 0] rfl H8
      · have H9 := H7.2 q
        refine z_aload_n 0 dX12_tree_21 rfl rfl (z_iload_n 2 dX12_tree_22 rfl (z_bipush (w := 10) dX12_tree_23 (by decide) (z_isub dX12_tree_25 ?_)))
        obtain ⟨oc11, w10, c11, H12⟩ := H9
        refine z_virt (As := [.int (x2 - 10)]) (st := []) (r1 := (some (.int w10))) (h1 := (g, I2, P)) dX12_tree_26 kX12_isWord wm_X12_202 ⟨by decide, by decide⟩ rfl rfl (Nat.le_of_ble_eq_true rfl) (by decide) (by decide) oc11 c11 ?_
        refine z_if_eq (t := 43) dX12_tree_29 (by decide) (fun q => ?_) (fun q => ?_)
        · have H13 := H12.1 q
          refine z_bipush (w := (-2)) dX12_tree_43 (by decide) ?_
          obtain ⟨rfl, rfl⟩ := H13
          exact z_iret dX12_tree_45 rfl (by decide) (by decide)
        · have H14 := H12.2 q
          refine z_aload_n 0 dX12_tree_32 rfl rfl (z_iload_n 2 dX12_tree_33 rfl (z_bipush (w := 10) dX12_tree_34 (by decide) (z_isub dX12_tree_36 ?_)))
          obtain ⟨oc16, w15, c16, H17⟩ := H14
          refine z_virt (As := [.int (x2 - 10)]) (st := []) (r1 := (some (.int w15))) (h1 := (g, I2, P)) dX12_tree_37 kX12_leadsOf wm_X12_328 ⟨by decide, by decide⟩ rfl rfl (Nat.le_of_ble_eq_true rfl) (by decide) (by decide) oc16 c16 ?_
          refine z_goto (t := 45) dX12_tree_40 (by decide) ?_
          obtain ⟨rfl, rfl⟩ := H17
          exact z_iret dX12_tree_45 rfl (by decide) (by decide)
    · have H18 := H6.2 q
      refine z_bipush (w := (-2)) dX12_tree_12 (by decide) ?_
      obtain ⟨rfl, rfl⟩ := H18
      exact z_iret dX12_tree_14 rfl (by decide) (by decide)
theorem eX12_tree {g : zG} {I : Nat → Nat → Int32} {P : Nat → Nat → Option Nat} {r : Option Value} {h' : zH} {a0 : Nat} {x1 : Int32} {x2 : Int32} (H : Zt none mX12_tree 0 0 0 [(0, .ref a0), (1, .int x1), (2, .int x2)] [] (g, I, P) r h') : Cl mX12_tree [.ref a0, .int x1, .int x2] (g, I, P) r h' := Cl.of (by decide) (Nat.le_of_ble_eq_true rfl) H
set_option maxRecDepth 10000 in
theorem wX12_tree_51 {g : zG} {I : Nat → Nat → Int32} {P : Nat → Nat → Option Nat} {r : Option Value} {h' : zH} {a0 : Nat} {x2 : Int32} {x3 : Int32} {x4 : Int32} (H : ((6 ≤ x4) → zk g a0 12 ∧ ∃ (w2 : Int32) (I3 : Nat → Nat → Int32), Cl mX12_closestOf [.ref a0] (g, I, P) (some (.int w2)) (g, I3, P) ∧ ((x2 = 0) → r = some (.int w2) ∧ h' = (g, I3, P)) ∧ ((x2 = 1) → ((¬ w2 = (-1)) → zk g a0 12 ∧ ∃ (w11 : Int32) (I12 : Nat → Nat → Int32), Cl mX12_apartOf [.ref a0, .int (w2 / 10), .int (w2 - w2 / 10 * 10)] (g, I3, P) (some (.int w11)) (g, I12, P) ∧ r = some (.int w11) ∧ h' = (g, I12, P)) ∧ ((w2 = (-1)) → r = some (.int (-1)) ∧ h' = (g, I3, P))) ∧ ((x2 = 2) → zk g a0 12 ∧ ∃ (w18 : Int32), Cl mX12_treeOf [.ref a0] (g, I3, P) (some (.int w18)) (g, I3, P) ∧ r = some (.int w18) ∧ h' = (g, I3, P)) ∧ ((x2 = 3) → zk g a0 12 ∧ ∃ (w23 : Int32), Cl mX12_everyWord [.ref a0] (g, I3, P) (some (.int w23)) (g, I3, P) ∧ zk g a0 12 ∧ ∃ (w26 : Int32), Cl mX12_withinOf [.ref a0, .int w23] (g, I3, P) (some (.int w26)) (g, I3, P) ∧ r = some (.int w26) ∧ h' = (g, I3, P)) ∧ ((x2 = 4) → r = some (.int x3) ∧ h' = (g, I3, P)) ∧ (¬ x2 = 0 → ¬ x2 = 1 → ¬ x2 = 2 → ¬ x2 = 3 → ¬ x2 = 4 → r = some (.int (-2)) ∧ h' = (g, I3, P))) ∧ ((¬ 6 ≤ x4) → zk g a0 12 ∧ ∃ (w33 : Int32), Cl mX12_answersTo [.ref a0, .int x4] (g, I, P) (some (.int w33)) (g, I, P) ∧ zk g a0 12 ∧ ∃ (w36 : Int32), Cl mX12_withinOf [.ref a0, .int w33] (g, I, P) (some (.int w36)) (g, I, P) ∧ ((w36 = 0) → Zt none mX12_tree 0 0 51 [(0, .ref a0), (2, .int x2), (3, .int (x3 ||| 0)), (4, .int (x4 + 1))] [] (g, I, P) r h') ∧ ((¬ w36 = 0) → ∀ y41 : Int32, y41 = x3 ||| ((1 : Int32) <<< (x4 &&& 31)) → Zt none mX12_tree 0 0 51 [(0, .ref a0), (2, .int x2), (3, .int y41), (4, .int (x4 + 1))] [] (g, I, P) r h'))) : Zt none mX12_tree 0 0 51 [(0, .ref a0), (2, .int x2), (3, .int x3), (4, .int x4)] [] (g, I, P) r h' := by
  refine z_iload 3 dX12_tree_51 rfl (z_bipush (w := 6) dX12_tree_53 (by decide) ?_)
  refine z_icmp_ge (t := 88) dX12_tree_55 (by decide) (fun q => ?_) (fun q => ?_)
  · have H1 := H.1 q
    refine z_aload_n 0 dX12_tree_88 rfl rfl ?_
    obtain ⟨oc4, w2, I3, c4, H5⟩ := H1
    refine z_virt (As := []) (st := []) (r1 := (some (.int w2))) (h1 := (g, I3, P)) dX12_tree_89 kX12_closestOf wm_X12_334 ⟨by decide, by decide⟩ rfl rfl (Nat.le_of_ble_eq_true rfl) (by decide) (by decide) oc4 c4 ?_
    refine z_istore (lv' := [(4, .int w2), (0, .ref a0), (2, .int x2), (3, .int x3)]) dX12_tree_92 (by decide) rfl (z_iload_n 2 dX12_tree_94 rfl ?_)
    by_cases q6 : x2 = 0
    · have H7 := H5.1 q6
      have eq6 : (x2 : Int32).toInt = 0 := by rw [q6]; decide
      refine z_tableIn (off := 33) (t := 128) dX12_tree_95 (by rw [eq6]; decide) (by rw [eq6]; decide) (by rw [eq6]; rfl) (by decide) ?_
      refine z_iload 0 dX12_tree_128 rfl ?_
      obtain ⟨rfl, rfl⟩ := H7
      exact z_iret dX12_tree_130 rfl (by decide) (by decide)
    by_cases q8 : x2 = 1
    · have H9 := H5.2.1 q8
      have eq8 : (x2 : Int32).toInt = 1 := by rw [q8]; decide
      refine z_tableIn (off := 36) (t := 131) dX12_tree_95 (by rw [eq8]; decide) (by rw [eq8]; decide) (by rw [eq8]; rfl) (by decide) ?_
      refine z_iload 0 dX12_tree_131 rfl (z_iconst (w := (-1)) dX12_tree_133 (by decide) ?_)
      refine z_icmp_ne (t := 141) dX12_tree_134 (by decide) (fun q => ?_) (fun q => ?_)
      · have H10 := H9.1 q
        refine z_aload_n 1 dX12_tree_141 rfl rfl (z_iload 0 dX12_tree_142 rfl (z_bipush (w := 10) dX12_tree_144 (by decide) (z_idiv dX12_tree_146 (by decide) (z_iload 0 dX12_tree_147 rfl (z_bipush (w := 10) dX12_tree_149 (by decide) (z_irem dX12_tree_151 (by decide) ?_))))))
        obtain ⟨oc13, w11, I12, c13, H14⟩ := H10
        refine z_virt (As := [.int (w2 / 10), .int (w2 - w2 / 10 * 10)]) (st := []) (r1 := (some (.int w11))) (h1 := (g, I12, P)) dX12_tree_152 kX12_apartOf wm_X12_322 ⟨by decide, by decide⟩ rfl rfl (Nat.le_of_ble_eq_true rfl) (by decide) (by decide) oc13 c13 ?_
        obtain ⟨rfl, rfl⟩ := H14
        exact z_iret dX12_tree_155 rfl (by decide) (by decide)
      · have H15 := H9.2 q
        refine z_iconst (w := (-1)) dX12_tree_137 (by decide) (z_goto (t := 155) dX12_tree_138 (by decide) ?_)
        obtain ⟨rfl, rfl⟩ := H15
        exact z_iret dX12_tree_155 rfl (by decide) (by decide)
    by_cases q16 : x2 = 2
    · have H17 := H5.2.2.1 q16
      have eq16 : (x2 : Int32).toInt = 2 := by rw [q16]; decide
      refine z_tableIn (off := 61) (t := 156) dX12_tree_95 (by rw [eq16]; decide) (by rw [eq16]; decide) (by rw [eq16]; rfl) (by decide) ?_
      refine z_aload_n 1 dX12_tree_156 rfl rfl ?_
      obtain ⟨oc19, w18, c19, H20⟩ := H17
      refine z_virt (As := []) (st := []) (r1 := (some (.int w18))) (h1 := (g, I3, P)) dX12_tree_157 kX12_treeOf wm_X12_337 ⟨by decide, by decide⟩ rfl rfl (Nat.le_of_ble_eq_true rfl) (by decide) (by decide) oc19 c19 ?_
      obtain ⟨rfl, rfl⟩ := H20
      exact z_iret dX12_tree_160 rfl (by decide) (by decide)
    by_cases q21 : x2 = 3
    · have H22 := H5.2.2.2.1 q21
      have eq21 : (x2 : Int32).toInt = 3 := by rw [q21]; decide
      refine z_tableIn (off := 66) (t := 161) dX12_tree_95 (by rw [eq21]; decide) (by rw [eq21]; decide) (by rw [eq21]; rfl) (by decide) ?_
      refine z_aload_n 1 dX12_tree_161 rfl rfl (z_aload_n 1 dX12_tree_162 rfl rfl ?_)
      obtain ⟨oc24, w23, c24, H25⟩ := H22
      refine z_virt (As := []) (st := [.ref a0]) (r1 := (some (.int w23))) (h1 := (g, I3, P)) dX12_tree_163 kX12_everyWord wm_X12_193 ⟨by decide, by decide⟩ rfl rfl (Nat.le_of_ble_eq_true rfl) (by decide) (by decide) oc24 c24 ?_
      obtain ⟨oc27, w26, c27, H28⟩ := H25
      refine z_virt (As := [.int w23]) (st := []) (r1 := (some (.int w26))) (h1 := (g, I3, P)) dX12_tree_166 kX12_withinOf wm_X12_331 ⟨by decide, by decide⟩ rfl rfl (Nat.le_of_ble_eq_true rfl) (by decide) (by decide) oc27 c27 ?_
      obtain ⟨rfl, rfl⟩ := H28
      exact z_iret dX12_tree_169 rfl (by decide) (by decide)
    by_cases q29 : x2 = 4
    · have H30 := H5.2.2.2.2.1 q29
      have eq29 : (x2 : Int32).toInt = 4 := by rw [q29]; decide
      refine z_tableIn (off := 75) (t := 170) dX12_tree_95 (by rw [eq29]; decide) (by rw [eq29]; decide) (by rw [eq29]; rfl) (by decide) ?_
      refine z_iload_n 3 dX12_tree_170 rfl ?_
      obtain ⟨rfl, rfl⟩ := H30
      exact z_iret dX12_tree_171 rfl (by decide) (by decide)
    have H31 := H5.2.2.2.2.2 q6 q8 q16 q21 q29
    have nq6 := lv_neT q6 (show (0 : Int32).toInt = 0 by decide)
    have nq8 := lv_neT q8 (show (1 : Int32).toInt = 1 by decide)
    have nq16 := lv_neT q16 (show (2 : Int32).toInt = 2 by decide)
    have nq21 := lv_neT q21 (show (3 : Int32).toInt = 3 by decide)
    have nq29 := lv_neT q29 (show (4 : Int32).toInt = 4 by decide)
    refine z_tableOut (t := 172) dX12_tree_95 (by omega) (by decide) ?_
    refine z_bipush (w := (-2)) dX12_tree_172 (by decide) ?_
    obtain ⟨rfl, rfl⟩ := H31
    exact z_iret dX12_tree_174 rfl (by decide) (by decide)
  · have H32 := H.2 q
    refine z_iload_n 2 dX12_tree_58 rfl (z_aload_n 0 dX12_tree_59 rfl rfl (z_aload_n 0 dX12_tree_60 rfl rfl (z_iload 3 dX12_tree_61 rfl ?_)))
    obtain ⟨oc34, w33, c34, H35⟩ := H32
    refine z_virt (As := [.int x4]) (st := [.ref a0, .int x3]) (r1 := (some (.int w33))) (h1 := (g, I, P)) dX12_tree_63 kX12_answersTo wm_X12_199 ⟨by decide, by decide⟩ rfl rfl (Nat.le_of_ble_eq_true rfl) (by decide) (by decide) oc34 c34 ?_
    obtain ⟨oc37, w36, c37, H38⟩ := H35
    refine z_virt (As := [.int w33]) (st := [.int x3]) (r1 := (some (.int w36))) (h1 := (g, I, P)) dX12_tree_66 kX12_withinOf wm_X12_331 ⟨by decide, by decide⟩ rfl rfl (Nat.le_of_ble_eq_true rfl) (by decide) (by decide) oc37 c37 ?_
    refine z_if_eq (t := 79) dX12_tree_69 (by decide) (fun q => ?_) (fun q => ?_)
    · have H39 := H38.1 q
      refine z_iconst (w := 0) dX12_tree_79 (by decide) (z_ior dX12_tree_80 (z_istore_n (lv' := [(3, .int (x3 ||| 0)), (0, .ref a0), (2, .int x2), (4, .int x4)]) dX12_tree_81 (by decide) rfl (z_iinc (y := x4 + 1) (lv' := [(4, .int (x4 + 1)), (3, .int (x3 ||| 0)), (0, .ref a0), (2, .int x2)]) 3 dX12_tree_82 rfl rfl (by decide) rfl (z_goto (t := 51) dX12_tree_85 (by decide) ?_))))
      exact z_less [2, 3, 1, 0] rfl H39
    · have H40 := H38.2 q
      refine z_iconst (w := 1) dX12_tree_72 (by decide) (z_iload 3 dX12_tree_73 rfl (z_ishl dX12_tree_75 (z_goto (t := 80) dX12_tree_76 (by decide) (z_ior dX12_tree_80 ?_))))
      refine z_nm (fun y41 e_y41 => ?_)
      have H42 := H40 y41 e_y41
      refine z_istore_n (lv' := [(3, .int y41), (0, .ref a0), (2, .int x2), (4, .int x4)]) dX12_tree_81 (by decide) rfl (z_iinc (y := x4 + 1) (lv' := [(4, .int (x4 + 1)), (3, .int y41), (0, .ref a0), (2, .int x2)]) 3 dX12_tree_82 rfl rfl (by decide) rfl (z_goto (t := 51) dX12_tree_85 (by decide) ?_))
      exact z_less [2, 3, 1, 0] rfl H42
theorem dX12_bestBehind_0 : decode cX12_bestBehind 0 = .ok (.iconst 0, 1) := by decide +kernel
theorem dX12_bestBehind_1 : decode cX12_bestBehind 1 = .ok (.istore_n 3, 1) := by decide +kernel
theorem dX12_bestBehind_2 : decode cX12_bestBehind 2 = .ok (.iconst 0, 1) := by decide +kernel
theorem dX12_bestBehind_3 : decode cX12_bestBehind 3 = .ok (.istore 4, 2) := by decide +kernel
theorem dX12_bestBehind_5 : decode cX12_bestBehind 5 = .ok (.iload 4, 2) := by decide +kernel
theorem dX12_bestBehind_7 : decode cX12_bestBehind 7 = .ok (.aload_n 0, 1) := by decide +kernel
theorem dX12_bestBehind_8 : decode cX12_bestBehind 8 = .ok (.getfield 190, 3) := by decide +kernel
theorem dX12_bestBehind_11 : decode cX12_bestBehind 11 = .ok (.if_icmp .ge 74, 3) := by decide +kernel
theorem dX12_bestBehind_14 : decode cX12_bestBehind 14 = .ok (.iload_n 1, 1) := by decide +kernel
theorem dX12_bestBehind_15 : decode cX12_bestBehind 15 = .ok (.iload 4, 2) := by decide +kernel
theorem dX12_bestBehind_17 : decode cX12_bestBehind 17 = .ok (.invokestatic 229, 3) := by decide +kernel
theorem dX12_bestBehind_20 : decode cX12_bestBehind 20 = .ok (.ifCond .ne 59, 3) := by decide +kernel
theorem dX12_bestBehind_23 : decode cX12_bestBehind 23 = .ok (.aload_n 0, 1) := by decide +kernel
theorem dX12_bestBehind_24 : decode cX12_bestBehind 24 = .ok (.iload_n 2, 1) := by decide +kernel
theorem dX12_bestBehind_25 : decode cX12_bestBehind 25 = .ok (.invokevirtual 211, 3) := by decide +kernel
theorem dX12_bestBehind_28 : decode cX12_bestBehind 28 = .ok (.iload 4, 2) := by decide +kernel
theorem dX12_bestBehind_30 : decode cX12_bestBehind 30 = .ok (.invokestatic 229, 3) := by decide +kernel
theorem dX12_bestBehind_33 : decode cX12_bestBehind 33 = .ok (.ifCond .eq 46, 3) := by decide +kernel
theorem dX12_bestBehind_36 : decode cX12_bestBehind 36 = .ok (.iconst 1, 1) := by decide +kernel
theorem dX12_bestBehind_37 : decode cX12_bestBehind 37 = .ok (.aload_n 0, 1) := by decide +kernel
theorem dX12_bestBehind_38 : decode cX12_bestBehind 38 = .ok (.getfield 56, 3) := by decide +kernel
theorem dX12_bestBehind_41 : decode cX12_bestBehind 41 = .ok (.bipush 10, 2) := by decide +kernel
theorem dX12_bestBehind_43 : decode cX12_bestBehind 43 = .ok (.iload_n 1, 1) := by decide +kernel
theorem dX12_bestBehind_44 : decode cX12_bestBehind 44 = .ok (.iconst 1, 1) := by decide +kernel
theorem dX12_bestBehind_45 : decode cX12_bestBehind 45 = .ok (.iload 4, 2) := by decide +kernel
theorem dX12_bestBehind_47 : decode cX12_bestBehind 47 = .ok (.ishl, 1) := by decide +kernel
theorem dX12_bestBehind_48 : decode cX12_bestBehind 48 = .ok (.ior, 1) := by decide +kernel
theorem dX12_bestBehind_49 : decode cX12_bestBehind 49 = .ok (.imul, 1) := by decide +kernel
theorem dX12_bestBehind_50 : decode cX12_bestBehind 50 = .ok (.iload 4, 2) := by decide +kernel
theorem dX12_bestBehind_52 : decode cX12_bestBehind 52 = .ok (.iadd, 1) := by decide +kernel
theorem dX12_bestBehind_53 : decode cX12_bestBehind 53 = .ok (.iaload, 1) := by decide +kernel
theorem dX12_bestBehind_54 : decode cX12_bestBehind 54 = .ok (.iadd, 1) := by decide +kernel
theorem dX12_bestBehind_55 : decode cX12_bestBehind 55 = .ok (.iload_n 3, 1) := by decide +kernel
theorem dX12_bestBehind_56 : decode cX12_bestBehind 56 = .ok (.if_icmp .le 23, 3) := by decide +kernel
theorem dX12_bestBehind_59 : decode cX12_bestBehind 59 = .ok (.iconst 1, 1) := by decide +kernel
theorem dX12_bestBehind_60 : decode cX12_bestBehind 60 = .ok (.aload_n 0, 1) := by decide +kernel
theorem dX12_bestBehind_61 : decode cX12_bestBehind 61 = .ok (.getfield 56, 3) := by decide +kernel
theorem dX12_bestBehind_64 : decode cX12_bestBehind 64 = .ok (.bipush 10, 2) := by decide +kernel
theorem dX12_bestBehind_66 : decode cX12_bestBehind 66 = .ok (.iload_n 1, 1) := by decide +kernel
theorem dX12_bestBehind_67 : decode cX12_bestBehind 67 = .ok (.iconst 1, 1) := by decide +kernel
theorem dX12_bestBehind_68 : decode cX12_bestBehind 68 = .ok (.iload 4, 2) := by decide +kernel
theorem dX12_bestBehind_70 : decode cX12_bestBehind 70 = .ok (.ishl, 1) := by decide +kernel
theorem dX12_bestBehind_71 : decode cX12_bestBehind 71 = .ok (.ior, 1) := by decide +kernel
theorem dX12_bestBehind_72 : decode cX12_bestBehind 72 = .ok (.imul, 1) := by decide +kernel
theorem dX12_bestBehind_73 : decode cX12_bestBehind 73 = .ok (.iload 4, 2) := by decide +kernel
theorem dX12_bestBehind_75 : decode cX12_bestBehind 75 = .ok (.iadd, 1) := by decide +kernel
theorem dX12_bestBehind_76 : decode cX12_bestBehind 76 = .ok (.iaload, 1) := by decide +kernel
theorem dX12_bestBehind_77 : decode cX12_bestBehind 77 = .ok (.iadd, 1) := by decide +kernel
theorem dX12_bestBehind_78 : decode cX12_bestBehind 78 = .ok (.istore_n 3, 1) := by decide +kernel
theorem dX12_bestBehind_79 : decode cX12_bestBehind 79 = .ok (.iinc 4 1, 3) := by decide +kernel
theorem dX12_bestBehind_82 : decode cX12_bestBehind 82 = .ok (.goto (-77), 3) := by decide +kernel
theorem dX12_bestBehind_85 : decode cX12_bestBehind 85 = .ok (.iload_n 3, 1) := by decide +kernel
theorem dX12_bestBehind_86 : decode cX12_bestBehind 86 = .ok (.ireturn, 1) := by decide +kernel
set_option maxRecDepth 10000 in
theorem wX12_bestBehind_0 {g : zG} {I : Nat → Nat → Int32} {P : Nat → Nat → Option Nat} {r : Option Value} {h' : zH} {a0 : Nat} {x1 : Int32} {x2 : Int32} (H : Zt none mX12_bestBehind 0 0 5 [(0, .ref a0), (1, .int x1), (2, .int x2), (3, .int 0), (4, .int 0)] [] (g, I, P) r h') : Zt none mX12_bestBehind 0 0 0 [(0, .ref a0), (1, .int x1), (2, .int x2)] [] (g, I, P) r h' := by
  refine z_iconst (w := 0) dX12_bestBehind_0 (by decide) (z_istore_n (lv' := [(3, .int 0), (0, .ref a0), (1, .int x1), (2, .int x2)]) dX12_bestBehind_1 (by decide) rfl (z_iconst (w := 0) dX12_bestBehind_2 (by decide) (z_istore (lv' := [(4, .int 0), (3, .int 0), (0, .ref a0), (1, .int x1), (2, .int x2)]) dX12_bestBehind_3 (by decide) rfl ?_)))
  exact z_less [2, 3, 4, 1, 0] rfl H
theorem eX12_bestBehind {g : zG} {I : Nat → Nat → Int32} {P : Nat → Nat → Option Nat} {r : Option Value} {h' : zH} {a0 : Nat} {x1 : Int32} {x2 : Int32} (H : Zt none mX12_bestBehind 0 0 0 [(0, .ref a0), (1, .int x1), (2, .int x2)] [] (g, I, P) r h') : Cl mX12_bestBehind [.ref a0, .int x1, .int x2] (g, I, P) r h' := Cl.of (by decide) (Nat.le_of_ble_eq_true rfl) H
set_option maxRecDepth 10000 in
theorem wX12_bestBehind_5 {g : zG} {I : Nat → Nat → Int32} {P : Nat → Nat → Option Nat} {r : Option Value} {h' : zH} {a0 : Nat} {x1 : Int32} {x2 : Int32} {x3 : Int32} {x4 : Int32} (H : zk g a0 12 ∧ ((I a0 15 ≤ x4) → r = some (.int x3) ∧ h' = (g, I, P)) ∧ ((¬ I a0 15 ≤ x4) → ∃ (w3 : Int32), Cl mX12_holds [.int x1, .int x4] (g, I, P) (some (.int w3)) (g, I, P) ∧ ((¬ w3 = 0) → Zt none mX12_bestBehind 0 0 5 [(0, .ref a0), (1, .int x1), (2, .int x2), (3, .int x3), (4, .int (x4 + 1))] [] (g, I, P) r h') ∧ ((w3 = 0) → zk g a0 12 ∧ ∃ (w8 : Int32), Cl mX12_behind [.ref a0, .int x2] (g, I, P) (some (.int w8)) (g, I, P) ∧ ∃ (w11 : Int32), Cl mX12_holds [.int w8, .int x4] (g, I, P) (some (.int w11)) (g, I, P) ∧ ((w11 = 0) → Zt none mX12_bestBehind 0 0 5 [(0, .ref a0), (1, .int x1), (2, .int x2), (3, .int x3), (4, .int (x4 + 1))] [] (g, I, P) r h') ∧ ((¬ w11 = 0) → zk g a0 12 ∧ ∃ b16, P a0 34 = some b16 ∧ zk g b16 13 ∧ vp_in ((10 * (x1 ||| ((1 : Int32) <<< (x4 &&& 31)))) + x4) (g.2.2 b16) ∧ ((1 + (I b16 ((10 * (x1 ||| ((1 : Int32) <<< (x4 &&& 31)))) + x4).toNatClampNeg) ≤ x3) → Zt none mX12_bestBehind 0 0 5 [(0, .ref a0), (1, .int x1), (2, .int x2), (3, .int x3), (4, .int (x4 + 1))] [] (g, I, P) r h') ∧ ((¬ 1 + (I b16 ((10 * (x1 ||| ((1 : Int32) <<< (x4 &&& 31)))) + x4).toNatClampNeg) ≤ x3) → zk g a0 12 ∧ ∃ b21, P a0 34 = some b21 ∧ zk g b21 13 ∧ vp_in ((10 * (x1 ||| ((1 : Int32) <<< (x4 &&& 31)))) + x4) (g.2.2 b21) ∧ ∀ y24 : Int32, y24 = 1 + (I b21 ((10 * (x1 ||| ((1 : Int32) <<< (x4 &&& 31)))) + x4).toNatClampNeg) → Zt none mX12_bestBehind 0 0 5 [(0, .ref a0), (1, .int x1), (2, .int x2), (3, .int y24), (4, .int (x4 + 1))] [] (g, I, P) r h'))))) : Zt none mX12_bestBehind 0 0 5 [(0, .ref a0), (1, .int x1), (2, .int x2), (3, .int x3), (4, .int x4)] [] (g, I, P) r h' := by
  refine z_iload 4 dX12_bestBehind_5 rfl (z_aload_n 0 dX12_bestBehind_7 rfl rfl (z_getI dX12_bestBehind_8 wf_X12_190 (by decide) (by decide) rfl H.1 ?_))
  refine z_icmp_ge (t := 85) dX12_bestBehind_11 (by decide) (fun q => ?_) (fun q => ?_)
  · have H1 := H.2.1 q
    refine z_iload_n 3 dX12_bestBehind_85 rfl ?_
    obtain ⟨rfl, rfl⟩ := H1
    exact z_iret dX12_bestBehind_86 rfl (by decide) (by decide)
  · have H2 := H.2.2 q
    refine z_iload_n 1 dX12_bestBehind_14 rfl (z_iload 4 dX12_bestBehind_15 rfl ?_)
    obtain ⟨w3, c4, H5⟩ := H2
    refine z_stat (As := [.int x1, .int x4]) (st := []) (r1 := (some (.int w3))) (h1 := (g, I, P)) dX12_bestBehind_17 kX12_holds wm_X12_229 ⟨by decide, by decide⟩ rfl rfl (Nat.le_of_ble_eq_true rfl) (by decide) (by decide) c4 ?_
    refine z_if_ne (t := 79) dX12_bestBehind_20 (by decide) (fun q => ?_) (fun q => ?_)
    · have H6 := H5.1 q
      refine z_iinc (y := x4 + 1) (lv' := [(4, .int (x4 + 1)), (0, .ref a0), (1, .int x1), (2, .int x2), (3, .int x3)]) 4 dX12_bestBehind_79 rfl rfl (by decide) rfl (z_goto (t := 5) dX12_bestBehind_82 (by decide) ?_)
      exact z_less [1, 2, 3, 4, 0] rfl H6
    · have H7 := H5.2 q
      refine z_aload_n 0 dX12_bestBehind_23 rfl rfl (z_iload_n 2 dX12_bestBehind_24 rfl ?_)
      obtain ⟨oc9, w8, c9, H10⟩ := H7
      refine z_virt (As := [.int x2]) (st := []) (r1 := (some (.int w8))) (h1 := (g, I, P)) dX12_bestBehind_25 kX12_behind wm_X12_211 ⟨by decide, by decide⟩ rfl rfl (Nat.le_of_ble_eq_true rfl) (by decide) (by decide) oc9 c9 ?_
      refine z_iload 4 dX12_bestBehind_28 rfl ?_
      obtain ⟨w11, c12, H13⟩ := H10
      refine z_stat (As := [.int w8, .int x4]) (st := []) (r1 := (some (.int w11))) (h1 := (g, I, P)) dX12_bestBehind_30 kX12_holds wm_X12_229 ⟨by decide, by decide⟩ rfl rfl (Nat.le_of_ble_eq_true rfl) (by decide) (by decide) c12 ?_
      refine z_if_eq (t := 79) dX12_bestBehind_33 (by decide) (fun q => ?_) (fun q => ?_)
      · have H14 := H13.1 q
        refine z_iinc (y := x4 + 1) (lv' := [(4, .int (x4 + 1)), (0, .ref a0), (1, .int x1), (2, .int x2), (3, .int x3)]) 4 dX12_bestBehind_79 rfl rfl (by decide) rfl (z_goto (t := 5) dX12_bestBehind_82 (by decide) ?_)
        exact z_less [1, 2, 3, 4, 0] rfl H14
      · have H15 := H13.2 q
        refine z_iconst (w := 1) dX12_bestBehind_36 (by decide) (z_aload_n 0 dX12_bestBehind_37 rfl rfl ?_)
        obtain ⟨oe18, b16, e18, H17⟩ := H15
        refine z_getP dX12_bestBehind_38 wf_X12_56 (by decide) (by decide) rfl oe18 (fun q => (by cases q.symm.trans e18)) (fun j q => ?_)
        cases q.symm.trans e18
        refine z_bipush (w := 10) dX12_bestBehind_41 (by decide) (z_iload_n 1 dX12_bestBehind_43 rfl (z_iconst (w := 1) dX12_bestBehind_44 (by decide) (z_iload 4 dX12_bestBehind_45 rfl (z_ishl dX12_bestBehind_47 (z_ior dX12_bestBehind_48 (z_imul dX12_bestBehind_49 (z_iload 4 dX12_bestBehind_50 rfl (z_iadd dX12_bestBehind_52 (z_iald dX12_bestBehind_53 H17.1 H17.2.1 (z_iadd dX12_bestBehind_54 (z_iload_n 3 dX12_bestBehind_55 rfl ?_)))))))))))
        refine z_icmp_le (t := 79) dX12_bestBehind_56 (by decide) (fun q => ?_) (fun q => ?_)
        · have H19 := H17.2.2.1 q
          refine z_iinc (y := x4 + 1) (lv' := [(4, .int (x4 + 1)), (0, .ref a0), (1, .int x1), (2, .int x2), (3, .int x3)]) 4 dX12_bestBehind_79 rfl rfl (by decide) rfl (z_goto (t := 5) dX12_bestBehind_82 (by decide) ?_)
          exact z_less [1, 2, 3, 4, 0] rfl H19
        · have H20 := H17.2.2.2 q
          refine z_iconst (w := 1) dX12_bestBehind_59 (by decide) (z_aload_n 0 dX12_bestBehind_60 rfl rfl ?_)
          obtain ⟨oe23, b21, e23, H22⟩ := H20
          refine z_getP dX12_bestBehind_61 wf_X12_56 (by decide) (by decide) rfl oe23 (fun q => (by cases q.symm.trans e23)) (fun j q => ?_)
          cases q.symm.trans e23
          refine z_bipush (w := 10) dX12_bestBehind_64 (by decide) (z_iload_n 1 dX12_bestBehind_66 rfl (z_iconst (w := 1) dX12_bestBehind_67 (by decide) (z_iload 4 dX12_bestBehind_68 rfl (z_ishl dX12_bestBehind_70 (z_ior dX12_bestBehind_71 (z_imul dX12_bestBehind_72 (z_iload 4 dX12_bestBehind_73 rfl (z_iadd dX12_bestBehind_75 (z_iald dX12_bestBehind_76 H22.1 H22.2.1 (z_iadd dX12_bestBehind_77 ?_))))))))))
          refine z_nm (fun y24 e_y24 => ?_)
          have H25 := H22.2.2 y24 e_y24
          refine z_istore_n (lv' := [(3, .int y24), (0, .ref a0), (1, .int x1), (2, .int x2), (4, .int x4)]) dX12_bestBehind_78 (by decide) rfl (z_iinc (y := x4 + 1) (lv' := [(4, .int (x4 + 1)), (3, .int y24), (0, .ref a0), (1, .int x1), (2, .int x2)]) 4 dX12_bestBehind_79 rfl rfl (by decide) rfl (z_goto (t := 5) dX12_bestBehind_82 (by decide) ?_))
          exact z_less [2, 3, 4, 1, 0] rfl H25
theorem dX12_chain_0 : decode cX12_chain 0 = .ok (.aload_n 0, 1) := by decide +kernel
theorem dX12_chain_1 : decode cX12_chain 1 = .ok (.iload_n 1, 1) := by decide +kernel
theorem dX12_chain_2 : decode cX12_chain 2 = .ok (.invokevirtual 196, 3) := by decide +kernel
theorem dX12_chain_5 : decode cX12_chain 5 = .ok (.ifCond .eq 8, 3) := by decide +kernel
theorem dX12_chain_8 : decode cX12_chain 8 = .ok (.iload_n 2, 1) := by decide +kernel
theorem dX12_chain_9 : decode cX12_chain 9 = .ok (.iconst (-1), 1) := by decide +kernel
theorem dX12_chain_10 : decode cX12_chain 10 = .ok (.if_icmp .ge 5, 3) := by decide +kernel
theorem dX12_chain_13 : decode cX12_chain 13 = .ok (.iconst (-1), 1) := by decide +kernel
theorem dX12_chain_14 : decode cX12_chain 14 = .ok (.ireturn, 1) := by decide +kernel
theorem dX12_chain_15 : decode cX12_chain 15 = .ok (.aload_n 0, 1) := by decide +kernel
theorem dX12_chain_16 : decode cX12_chain 16 = .ok (.invokevirtual 193, 3) := by decide +kernel
theorem dX12_chain_19 : decode cX12_chain 19 = .ok (.istore_n 3, 1) := by decide +kernel
theorem dX12_chain_20 : decode cX12_chain 20 = .ok (.iload_n 3, 1) := by decide +kernel
theorem dX12_chain_21 : decode cX12_chain 21 = .ok (.ifCond .le 46, 3) := by decide +kernel
theorem dX12_chain_24 : decode cX12_chain 24 = .ok (.iconst 0, 1) := by decide +kernel
theorem dX12_chain_25 : decode cX12_chain 25 = .ok (.istore 4, 2) := by decide +kernel
theorem dX12_chain_27 : decode cX12_chain 27 = .ok (.iload 4, 2) := by decide +kernel
theorem dX12_chain_29 : decode cX12_chain 29 = .ok (.aload_n 0, 1) := by decide +kernel
theorem dX12_chain_30 : decode cX12_chain 30 = .ok (.getfield 190, 3) := by decide +kernel
theorem dX12_chain_33 : decode cX12_chain 33 = .ok (.if_icmp .ge 28, 3) := by decide +kernel
theorem dX12_chain_36 : decode cX12_chain 36 = .ok (.aload_n 0, 1) := by decide +kernel
theorem dX12_chain_37 : decode cX12_chain 37 = .ok (.getfield 56, 3) := by decide +kernel
theorem dX12_chain_40 : decode cX12_chain 40 = .ok (.bipush 10, 2) := by decide +kernel
theorem dX12_chain_42 : decode cX12_chain 42 = .ok (.iload_n 3, 1) := by decide +kernel
theorem dX12_chain_43 : decode cX12_chain 43 = .ok (.imul, 1) := by decide +kernel
theorem dX12_chain_44 : decode cX12_chain 44 = .ok (.iload 4, 2) := by decide +kernel
theorem dX12_chain_46 : decode cX12_chain 46 = .ok (.iadd, 1) := by decide +kernel
theorem dX12_chain_47 : decode cX12_chain 47 = .ok (.aload_n 0, 1) := by decide +kernel
theorem dX12_chain_48 : decode cX12_chain 48 = .ok (.iload_n 3, 1) := by decide +kernel
theorem dX12_chain_49 : decode cX12_chain 49 = .ok (.iload 4, 2) := by decide +kernel
theorem dX12_chain_51 : decode cX12_chain 51 = .ok (.invokevirtual 340, 3) := by decide +kernel
theorem dX12_chain_54 : decode cX12_chain 54 = .ok (.iastore, 1) := by decide +kernel
theorem dX12_chain_55 : decode cX12_chain 55 = .ok (.iinc 4 1, 3) := by decide +kernel
theorem dX12_chain_58 : decode cX12_chain 58 = .ok (.goto (-31), 3) := by decide +kernel
theorem dX12_chain_61 : decode cX12_chain 61 = .ok (.iinc 3 (-1), 3) := by decide +kernel
theorem dX12_chain_64 : decode cX12_chain 64 = .ok (.goto (-44), 3) := by decide +kernel
theorem dX12_chain_67 : decode cX12_chain 67 = .ok (.aload_n 0, 1) := by decide +kernel
theorem dX12_chain_68 : decode cX12_chain 68 = .ok (.iconst 0, 1) := by decide +kernel
theorem dX12_chain_69 : decode cX12_chain 69 = .ok (.iconst (-1), 1) := by decide +kernel
theorem dX12_chain_70 : decode cX12_chain 70 = .ok (.invokevirtual 340, 3) := by decide +kernel
theorem dX12_chain_73 : decode cX12_chain 73 = .ok (.istore_n 3, 1) := by decide +kernel
theorem dX12_chain_74 : decode cX12_chain 74 = .ok (.iload_n 2, 1) := by decide +kernel
theorem dX12_chain_75 : decode cX12_chain 75 = .ok (.iconst (-1), 1) := by decide +kernel
theorem dX12_chain_76 : decode cX12_chain 76 = .ok (.if_icmp .ne 5, 3) := by decide +kernel
theorem dX12_chain_79 : decode cX12_chain 79 = .ok (.iload_n 3, 1) := by decide +kernel
theorem dX12_chain_80 : decode cX12_chain 80 = .ok (.ireturn, 1) := by decide +kernel
theorem dX12_chain_81 : decode cX12_chain 81 = .ok (.iconst 0, 1) := by decide +kernel
theorem dX12_chain_82 : decode cX12_chain 82 = .ok (.istore 4, 2) := by decide +kernel
theorem dX12_chain_84 : decode cX12_chain 84 = .ok (.iconst (-1), 1) := by decide +kernel
theorem dX12_chain_85 : decode cX12_chain 85 = .ok (.istore 5, 2) := by decide +kernel
theorem dX12_chain_87 : decode cX12_chain 87 = .ok (.iconst 0, 1) := by decide +kernel
theorem dX12_chain_88 : decode cX12_chain 88 = .ok (.istore 6, 2) := by decide +kernel
theorem dX12_chain_90 : decode cX12_chain 90 = .ok (.iload_n 3, 1) := by decide +kernel
theorem dX12_chain_91 : decode cX12_chain 91 = .ok (.ifCond .le 91, 3) := by decide +kernel
theorem dX12_chain_94 : decode cX12_chain 94 = .ok (.iconst 0, 1) := by decide +kernel
theorem dX12_chain_95 : decode cX12_chain 95 = .ok (.istore 7, 2) := by decide +kernel
theorem dX12_chain_97 : decode cX12_chain 97 = .ok (.iload 4, 2) := by decide +kernel
theorem dX12_chain_99 : decode cX12_chain 99 = .ok (.iload 7, 2) := by decide +kernel
theorem dX12_chain_101 : decode cX12_chain 101 = .ok (.invokestatic 229, 3) := by decide +kernel
theorem dX12_chain_104 : decode cX12_chain 104 = .ok (.ifCond .ne 41, 3) := by decide +kernel
theorem dX12_chain_107 : decode cX12_chain 107 = .ok (.aload_n 0, 1) := by decide +kernel
theorem dX12_chain_108 : decode cX12_chain 108 = .ok (.iload 5, 2) := by decide +kernel
theorem dX12_chain_110 : decode cX12_chain 110 = .ok (.invokevirtual 211, 3) := by decide +kernel
theorem dX12_chain_113 : decode cX12_chain 113 = .ok (.iload 7, 2) := by decide +kernel
theorem dX12_chain_115 : decode cX12_chain 115 = .ok (.invokestatic 229, 3) := by decide +kernel
theorem dX12_chain_118 : decode cX12_chain 118 = .ok (.ifCond .eq 27, 3) := by decide +kernel
theorem dX12_chain_121 : decode cX12_chain 121 = .ok (.iconst 1, 1) := by decide +kernel
theorem dX12_chain_122 : decode cX12_chain 122 = .ok (.aload_n 0, 1) := by decide +kernel
theorem dX12_chain_123 : decode cX12_chain 123 = .ok (.getfield 56, 3) := by decide +kernel
theorem dX12_chain_126 : decode cX12_chain 126 = .ok (.bipush 10, 2) := by decide +kernel
theorem dX12_chain_128 : decode cX12_chain 128 = .ok (.iload 4, 2) := by decide +kernel
theorem dX12_chain_130 : decode cX12_chain 130 = .ok (.iconst 1, 1) := by decide +kernel
theorem dX12_chain_131 : decode cX12_chain 131 = .ok (.iload 7, 2) := by decide +kernel
theorem dX12_chain_133 : decode cX12_chain 133 = .ok (.ishl, 1) := by decide +kernel
theorem dX12_chain_134 : decode cX12_chain 134 = .ok (.ior, 1) := by decide +kernel
theorem dX12_chain_135 : decode cX12_chain 135 = .ok (.imul, 1) := by decide +kernel
theorem dX12_chain_136 : decode cX12_chain 136 = .ok (.iload 7, 2) := by decide +kernel
theorem dX12_chain_138 : decode cX12_chain 138 = .ok (.iadd, 1) := by decide +kernel
theorem dX12_chain_139 : decode cX12_chain 139 = .ok (.iaload, 1) := by decide +kernel
theorem dX12_chain_140 : decode cX12_chain 140 = .ok (.iadd, 1) := by decide +kernel
theorem dX12_chain_141 : decode cX12_chain 141 = .ok (.iload_n 3, 1) := by decide +kernel
theorem dX12_chain_142 : decode cX12_chain 142 = .ok (.if_icmp .eq 9, 3) := by decide +kernel
theorem dX12_chain_145 : decode cX12_chain 145 = .ok (.iinc 7 1, 3) := by decide +kernel
theorem dX12_chain_148 : decode cX12_chain 148 = .ok (.goto (-51), 3) := by decide +kernel
theorem dX12_chain_151 : decode cX12_chain 151 = .ok (.iload 6, 2) := by decide +kernel
theorem dX12_chain_153 : decode cX12_chain 153 = .ok (.iload_n 2, 1) := by decide +kernel
theorem dX12_chain_154 : decode cX12_chain 154 = .ok (.if_icmp .ne 6, 3) := by decide +kernel
theorem dX12_chain_157 : decode cX12_chain 157 = .ok (.iload 7, 2) := by decide +kernel
theorem dX12_chain_159 : decode cX12_chain 159 = .ok (.ireturn, 1) := by decide +kernel
theorem dX12_chain_160 : decode cX12_chain 160 = .ok (.iload 4, 2) := by decide +kernel
theorem dX12_chain_162 : decode cX12_chain 162 = .ok (.iconst 1, 1) := by decide +kernel
theorem dX12_chain_163 : decode cX12_chain 163 = .ok (.iload 7, 2) := by decide +kernel
theorem dX12_chain_165 : decode cX12_chain 165 = .ok (.ishl, 1) := by decide +kernel
theorem dX12_chain_166 : decode cX12_chain 166 = .ok (.ior, 1) := by decide +kernel
theorem dX12_chain_167 : decode cX12_chain 167 = .ok (.istore 4, 2) := by decide +kernel
theorem dX12_chain_169 : decode cX12_chain 169 = .ok (.iload 7, 2) := by decide +kernel
theorem dX12_chain_171 : decode cX12_chain 171 = .ok (.istore 5, 2) := by decide +kernel
theorem dX12_chain_173 : decode cX12_chain 173 = .ok (.iinc 3 (-1), 3) := by decide +kernel
theorem dX12_chain_176 : decode cX12_chain 176 = .ok (.iinc 6 1, 3) := by decide +kernel
theorem dX12_chain_179 : decode cX12_chain 179 = .ok (.goto (-89), 3) := by decide +kernel
theorem dX12_chain_182 : decode cX12_chain 182 = .ok (.iconst (-1), 1) := by decide +kernel
theorem dX12_chain_183 : decode cX12_chain 183 = .ok (.ireturn, 1) := by decide +kernel
set_option maxRecDepth 10000 in
theorem wX12_chain_0 {g : zG} {I : Nat → Nat → Int32} {P : Nat → Nat → Option Nat} {r : Option Value} {h' : zH} {a0 : Nat} {x1 : Int32} {x2 : Int32} (H : zk g a0 12 ∧ ∃ (w1 : Int32) (I2 : Nat → Nat → Int32), Cl mX12_isHill [.ref a0, .int x1] (g, I, P) (some (.int w1)) (g, I2, P) ∧ ((w1 = 0) → r = some (.int (-1)) ∧ h' = (g, I2, P)) ∧ ((¬ w1 = 0) → (((-1) ≤ x2) → zk g a0 12 ∧ ∃ (w8 : Int32), Cl mX12_everyWord [.ref a0] (g, I2, P) (some (.int w8)) (g, I2, P) ∧ Zt none mX12_chain 0 0 20 [(0, .ref a0), (2, .int x2), (3, .int w8)] [] (g, I2, P) r h') ∧ ((¬ (-1) ≤ x2) → r = some (.int (-1)) ∧ h' = (g, I2, P)))) : Zt none mX12_chain 0 0 0 [(0, .ref a0), (1, .int x1), (2, .int x2)] [] (g, I, P) r h' := by
  refine z_aload_n 0 dX12_chain_0 rfl rfl (z_iload_n 1 dX12_chain_1 rfl ?_)
  obtain ⟨oc3, w1, I2, c3, H4⟩ := H
  refine z_virt (As := [.int x1]) (st := []) (r1 := (some (.int w1))) (h1 := (g, I2, P)) dX12_chain_2 kX12_isHill wm_X12_196 ⟨by decide, by decide⟩ rfl rfl (Nat.le_of_ble_eq_true rfl) (by decide) (by decide) oc3 c3 ?_
  refine z_if_eq (t := 13) dX12_chain_5 (by decide) (fun q => ?_) (fun q => ?_)
  · have H5 := H4.1 q
    refine z_iconst (w := (-1)) dX12_chain_13 (by decide) ?_
    obtain ⟨rfl, rfl⟩ := H5
    exact z_iret dX12_chain_14 rfl (by decide) (by decide)
  · have H6 := H4.2 q
    refine z_iload_n 2 dX12_chain_8 rfl (z_iconst (w := (-1)) dX12_chain_9 (by decide) ?_)
    refine z_icmp_ge (t := 15) dX12_chain_10 (by decide) (fun q => ?_) (fun q => ?_)
    · have H7 := H6.1 q
      refine z_aload_n 0 dX12_chain_15 rfl rfl ?_
      obtain ⟨oc9, w8, c9, H10⟩ := H7
      refine z_virt (As := []) (st := []) (r1 := (some (.int w8))) (h1 := (g, I2, P)) dX12_chain_16 kX12_everyWord wm_X12_193 ⟨by decide, by decide⟩ rfl rfl (Nat.le_of_ble_eq_true rfl) (by decide) (by decide) oc9 c9 ?_
      refine z_istore_n (lv' := [(3, .int w8), (0, .ref a0), (1, .int x1), (2, .int x2)]) dX12_chain_19 (by decide) rfl ?_
      exact z_less [1, 3, 0] rfl H10
    · have H11 := H6.2 q
      refine z_iconst (w := (-1)) dX12_chain_13 (by decide) ?_
      obtain ⟨rfl, rfl⟩ := H11
      exact z_iret dX12_chain_14 rfl (by decide) (by decide)
theorem eX12_chain {g : zG} {I : Nat → Nat → Int32} {P : Nat → Nat → Option Nat} {r : Option Value} {h' : zH} {a0 : Nat} {x1 : Int32} {x2 : Int32} (H : Zt none mX12_chain 0 0 0 [(0, .ref a0), (1, .int x1), (2, .int x2)] [] (g, I, P) r h') : Cl mX12_chain [.ref a0, .int x1, .int x2] (g, I, P) r h' := Cl.of (by decide) (Nat.le_of_ble_eq_true rfl) H
set_option maxRecDepth 10000 in
theorem wX12_chain_20 {g : zG} {I : Nat → Nat → Int32} {P : Nat → Nat → Option Nat} {r : Option Value} {h' : zH} {a0 : Nat} {x2 : Int32} {x3 : Int32} (H : ((x3 ≤ 0) → zk g a0 12 ∧ ∃ (w2 : Int32), Cl mX12_bestBehind [.ref a0, .int 0, .int (-1)] (g, I, P) (some (.int w2)) (g, I, P) ∧ ((¬ x2 = (-1)) → Zt none mX12_chain 0 0 90 [(0, .ref a0), (2, .int x2), (3, .int w2), (4, .int 0), (5, .int (-1)), (6, .int 0)] [] (g, I, P) r h') ∧ ((x2 = (-1)) → r = some (.int w2) ∧ h' = (g, I, P))) ∧ ((¬ x3 ≤ 0) → Zt none mX12_chain 0 0 27 [(0, .ref a0), (2, .int x2), (3, .int x3), (4, .int 0)] [] (g, I, P) r h')) : Zt none mX12_chain 0 0 20 [(0, .ref a0), (2, .int x2), (3, .int x3)] [] (g, I, P) r h' := by
  refine z_iload_n 2 dX12_chain_20 rfl ?_
  refine z_if_le (t := 67) dX12_chain_21 (by decide) (fun q => ?_) (fun q => ?_)
  · have H1 := H.1 q
    refine z_aload_n 0 dX12_chain_67 rfl rfl (z_iconst (w := 0) dX12_chain_68 (by decide) (z_iconst (w := (-1)) dX12_chain_69 (by decide) ?_))
    obtain ⟨oc3, w2, c3, H4⟩ := H1
    refine z_virt (As := [.int 0, .int (-1)]) (st := []) (r1 := (some (.int w2))) (h1 := (g, I, P)) dX12_chain_70 kX12_bestBehind wm_X12_340 ⟨by decide, by decide⟩ rfl rfl (Nat.le_of_ble_eq_true rfl) (by decide) (by decide) oc3 c3 ?_
    refine z_istore_n (lv' := [(3, .int w2), (0, .ref a0), (2, .int x2)]) dX12_chain_73 (by decide) rfl (z_iload_n 2 dX12_chain_74 rfl (z_iconst (w := (-1)) dX12_chain_75 (by decide) ?_))
    refine z_icmp_ne (t := 81) dX12_chain_76 (by decide) (fun q => ?_) (fun q => ?_)
    · have H5 := H4.1 q
      refine z_iconst (w := 0) dX12_chain_81 (by decide) (z_istore (lv' := [(4, .int 0), (3, .int w2), (0, .ref a0), (2, .int x2)]) dX12_chain_82 (by decide) rfl (z_iconst (w := (-1)) dX12_chain_84 (by decide) (z_istore (lv' := [(5, .int (-1)), (4, .int 0), (3, .int w2), (0, .ref a0), (2, .int x2)]) dX12_chain_85 (by decide) rfl (z_iconst (w := 0) dX12_chain_87 (by decide) (z_istore (lv' := [(6, .int 0), (5, .int (-1)), (4, .int 0), (3, .int w2), (0, .ref a0), (2, .int x2)]) dX12_chain_88 (by decide) rfl ?_)))))
      exact z_less [4, 5, 3, 2, 1, 0] rfl H5
    · have H6 := H4.2 q
      refine z_iload_n 0 dX12_chain_79 rfl ?_
      obtain ⟨rfl, rfl⟩ := H6
      exact z_iret dX12_chain_80 rfl (by decide) (by decide)
  · have H7 := H.2 q
    refine z_iconst (w := 0) dX12_chain_24 (by decide) (z_istore (lv' := [(4, .int 0), (0, .ref a0), (2, .int x2), (3, .int x3)]) dX12_chain_25 (by decide) rfl ?_)
    exact z_less [1, 2, 3, 0] rfl H7
set_option maxRecDepth 10000 in
theorem wX12_chain_27 {g : zG} {I : Nat → Nat → Int32} {P : Nat → Nat → Option Nat} {r : Option Value} {h' : zH} {a0 : Nat} {x2 : Int32} {x3 : Int32} {x4 : Int32} (H : zk g a0 12 ∧ ((I a0 15 ≤ x4) → Zt none mX12_chain 0 0 20 [(0, .ref a0), (2, .int x2), (3, .int (x3 + (-1)))] [] (g, I, P) r h') ∧ ((¬ I a0 15 ≤ x4) → zk g a0 12 ∧ ∃ b3, P a0 34 = some b3 ∧ zk g a0 12 ∧ ∃ (w6 : Int32), Cl mX12_bestBehind [.ref a0, .int x3, .int x4] (g, I, P) (some (.int w6)) (g, I, P) ∧ zk g b3 13 ∧ vp_in ((10 * x3) + x4) (g.2.2 b3) ∧ Zt none mX12_chain 0 0 27 [(0, .ref a0), (2, .int x2), (3, .int x3), (4, .int (x4 + 1))] [] (g, zU I b3 ((10 * x3) + x4).toNatClampNeg w6, P) r h')) : Zt none mX12_chain 0 0 27 [(0, .ref a0), (2, .int x2), (3, .int x3), (4, .int x4)] [] (g, I, P) r h' := by
  refine z_iload 3 dX12_chain_27 rfl (z_aload_n 0 dX12_chain_29 rfl rfl (z_getI dX12_chain_30 wf_X12_190 (by decide) (by decide) rfl H.1 ?_))
  refine z_icmp_ge (t := 61) dX12_chain_33 (by decide) (fun q => ?_) (fun q => ?_)
  · have H1 := H.2.1 q
    refine z_iinc (y := x3 + (-1)) (lv' := [(3, .int (x3 + (-1))), (0, .ref a0), (2, .int x2), (4, .int x4)]) 2 dX12_chain_61 rfl rfl (by decide) rfl (z_goto (t := 20) dX12_chain_64 (by decide) ?_)
    exact z_less [1, 2, 0] rfl H1
  · have H2 := H.2.2 q
    refine z_aload_n 0 dX12_chain_36 rfl rfl ?_
    obtain ⟨oe5, b3, e5, H4⟩ := H2
    refine z_getP dX12_chain_37 wf_X12_56 (by decide) (by decide) rfl oe5 (fun q => (by cases q.symm.trans e5)) (fun j q => ?_)
    cases q.symm.trans e5
    refine z_bipush (w := 10) dX12_chain_40 (by decide) (z_iload_n 2 dX12_chain_42 rfl (z_imul dX12_chain_43 (z_iload 3 dX12_chain_44 rfl (z_iadd dX12_chain_46 (z_aload_n 0 dX12_chain_47 rfl rfl (z_iload_n 2 dX12_chain_48 rfl (z_iload 3 dX12_chain_49 rfl ?_)))))))
    obtain ⟨oc7, w6, c7, H8⟩ := H4
    refine z_virt (As := [.int x3, .int x4]) (st := [.int ((10 * x3) + x4), .ref b3]) (r1 := (some (.int w6))) (h1 := (g, I, P)) dX12_chain_51 kX12_bestBehind wm_X12_340 ⟨by decide, by decide⟩ rfl rfl (Nat.le_of_ble_eq_true rfl) (by decide) (by decide) oc7 c7 ?_
    refine z_iast (g := g) (I := I) (Q := P) dX12_chain_54 H8.1 H8.2.1 (z_iinc (y := x4 + 1) (lv' := [(4, .int (x4 + 1)), (0, .ref a0), (2, .int x2), (3, .int x3)]) 3 dX12_chain_55 rfl rfl (by decide) rfl (z_goto (t := 27) dX12_chain_58 (by decide) ?_))
    exact z_less [1, 2, 3, 0] rfl H8.2.2
set_option maxRecDepth 10000 in
theorem wX12_chain_90 {g : zG} {I : Nat → Nat → Int32} {P : Nat → Nat → Option Nat} {r : Option Value} {h' : zH} {a0 : Nat} {x2 : Int32} {x3 : Int32} {x4 : Int32} {x5 : Int32} {x6 : Int32} (H : ((x3 ≤ 0) → r = some (.int (-1)) ∧ h' = (g, I, P)) ∧ ((¬ x3 ≤ 0) → Zt none mX12_chain 0 0 97 [(0, .ref a0), (2, .int x2), (3, .int x3), (4, .int x4), (5, .int x5), (6, .int x6), (7, .int 0)] [] (g, I, P) r h')) : Zt none mX12_chain 0 0 90 [(0, .ref a0), (2, .int x2), (3, .int x3), (4, .int x4), (5, .int x5), (6, .int x6)] [] (g, I, P) r h' := by
  refine z_iload_n 2 dX12_chain_90 rfl ?_
  refine z_if_le (t := 182) dX12_chain_91 (by decide) (fun q => ?_) (fun q => ?_)
  · have H1 := H.1 q
    refine z_iconst (w := (-1)) dX12_chain_182 (by decide) ?_
    obtain ⟨rfl, rfl⟩ := H1
    exact z_iret dX12_chain_183 rfl (by decide) (by decide)
  · have H2 := H.2 q
    refine z_iconst (w := 0) dX12_chain_94 (by decide) (z_istore (lv' := [(7, .int 0), (0, .ref a0), (2, .int x2), (3, .int x3), (4, .int x4), (5, .int x5), (6, .int x6)]) dX12_chain_95 (by decide) rfl ?_)
    exact z_less [1, 2, 3, 4, 5, 6, 0] rfl H2
set_option maxRecDepth 10000 in
theorem wX12_chain_97 {g : zG} {I : Nat → Nat → Int32} {P : Nat → Nat → Option Nat} {r : Option Value} {h' : zH} {a0 : Nat} {x2 : Int32} {x3 : Int32} {x4 : Int32} {x5 : Int32} {x6 : Int32} {x7 : Int32} (H : ∃ (w1 : Int32), Cl mX12_holds [.int x4, .int x7] (g, I, P) (some (.int w1)) (g, I, P) ∧ ((¬ w1 = 0) → Zt none mX12_chain 0 0 97 [(0, .ref a0), (2, .int x2), (3, .int x3), (4, .int x4), (5, .int x5), (6, .int x6), (7, .int (x7 + 1))] [] (g, I, P) r h') ∧ ((w1 = 0) → zk g a0 12 ∧ ∃ (w6 : Int32), Cl mX12_behind [.ref a0, .int x5] (g, I, P) (some (.int w6)) (g, I, P) ∧ ∃ (w9 : Int32), Cl mX12_holds [.int w6, .int x7] (g, I, P) (some (.int w9)) (g, I, P) ∧ ((w9 = 0) → Zt none mX12_chain 0 0 97 [(0, .ref a0), (2, .int x2), (3, .int x3), (4, .int x4), (5, .int x5), (6, .int x6), (7, .int (x7 + 1))] [] (g, I, P) r h') ∧ ((¬ w9 = 0) → zk g a0 12 ∧ ∃ b14, P a0 34 = some b14 ∧ zk g b14 13 ∧ vp_in ((10 * (x4 ||| ((1 : Int32) <<< (x7 &&& 31)))) + x7) (g.2.2 b14) ∧ ((1 + (I b14 ((10 * (x4 ||| ((1 : Int32) <<< (x7 &&& 31)))) + x7).toNatClampNeg) = x3) → ((¬ x6 = x2) → ∀ y19 : Int32, y19 = x4 ||| ((1 : Int32) <<< (x7 &&& 31)) → Zt none mX12_chain 0 0 90 [(0, .ref a0), (2, .int x2), (3, .int (x3 + (-1))), (4, .int y19), (5, .int x7), (6, .int (x6 + 1))] [] (g, I, P) r h') ∧ ((x6 = x2) → r = some (.int x7) ∧ h' = (g, I, P))) ∧ ((¬ 1 + (I b14 ((10 * (x4 ||| ((1 : Int32) <<< (x7 &&& 31)))) + x7).toNatClampNeg) = x3) → Zt none mX12_chain 0 0 97 [(0, .ref a0), (2, .int x2), (3, .int x3), (4, .int x4), (5, .int x5), (6, .int x6), (7, .int (x7 + 1))] [] (g, I, P) r h')))) : Zt none mX12_chain 0 0 97 [(0, .ref a0), (2, .int x2), (3, .int x3), (4, .int x4), (5, .int x5), (6, .int x6), (7, .int x7)] [] (g, I, P) r h' := by
  refine z_iload 3 dX12_chain_97 rfl (z_iload 6 dX12_chain_99 rfl ?_)
  obtain ⟨w1, c2, H3⟩ := H
  refine z_stat (As := [.int x4, .int x7]) (st := []) (r1 := (some (.int w1))) (h1 := (g, I, P)) dX12_chain_101 kX12_holds wm_X12_229 ⟨by decide, by decide⟩ rfl rfl (Nat.le_of_ble_eq_true rfl) (by decide) (by decide) c2 ?_
  refine z_if_ne (t := 145) dX12_chain_104 (by decide) (fun q => ?_) (fun q => ?_)
  · have H4 := H3.1 q
    refine z_iinc (y := x7 + 1) (lv' := [(7, .int (x7 + 1)), (0, .ref a0), (2, .int x2), (3, .int x3), (4, .int x4), (5, .int x5), (6, .int x6)]) 6 dX12_chain_145 rfl rfl (by decide) rfl (z_goto (t := 97) dX12_chain_148 (by decide) ?_)
    exact z_less [1, 2, 3, 4, 5, 6, 0] rfl H4
  · have H5 := H3.2 q
    refine z_aload_n 0 dX12_chain_107 rfl rfl (z_iload 4 dX12_chain_108 rfl ?_)
    obtain ⟨oc7, w6, c7, H8⟩ := H5
    refine z_virt (As := [.int x5]) (st := []) (r1 := (some (.int w6))) (h1 := (g, I, P)) dX12_chain_110 kX12_behind wm_X12_211 ⟨by decide, by decide⟩ rfl rfl (Nat.le_of_ble_eq_true rfl) (by decide) (by decide) oc7 c7 ?_
    refine z_iload 6 dX12_chain_113 rfl ?_
    obtain ⟨w9, c10, H11⟩ := H8
    refine z_stat (As := [.int w6, .int x7]) (st := []) (r1 := (some (.int w9))) (h1 := (g, I, P)) dX12_chain_115 kX12_holds wm_X12_229 ⟨by decide, by decide⟩ rfl rfl (Nat.le_of_ble_eq_true rfl) (by decide) (by decide) c10 ?_
    refine z_if_eq (t := 145) dX12_chain_118 (by decide) (fun q => ?_) (fun q => ?_)
    · have H12 := H11.1 q
      refine z_iinc (y := x7 + 1) (lv' := [(7, .int (x7 + 1)), (0, .ref a0), (2, .int x2), (3, .int x3), (4, .int x4), (5, .int x5), (6, .int x6)]) 6 dX12_chain_145 rfl rfl (by decide) rfl (z_goto (t := 97) dX12_chain_148 (by decide) ?_)
      exact z_less [1, 2, 3, 4, 5, 6, 0] rfl H12
    · have H13 := H11.2 q
      refine z_iconst (w := 1) dX12_chain_121 (by decide) (z_aload_n 0 dX12_chain_122 rfl rfl ?_)
      obtain ⟨oe16, b14, e16, H15⟩ := H13
      refine z_getP dX12_chain_123 wf_X12_56 (by decide) (by decide) rfl oe16 (fun q => (by cases q.symm.trans e16)) (fun j q => ?_)
      cases q.symm.trans e16
      refine z_bipush (w := 10) dX12_chain_126 (by decide) (z_iload 3 dX12_chain_128 rfl (z_iconst (w := 1) dX12_chain_130 (by decide) (z_iload 6 dX12_chain_131 rfl (z_ishl dX12_chain_133 (z_ior dX12_chain_134 (z_imul dX12_chain_135 (z_iload 6 dX12_chain_136 rfl (z_iadd dX12_chain_138 (z_iald dX12_chain_139 H15.1 H15.2.1 (z_iadd dX12_chain_140 (z_iload_n 2 dX12_chain_141 rfl ?_)))))))))))
      refine z_icmp_eq (t := 151) dX12_chain_142 (by decide) (fun q => ?_) (fun q => ?_)
      · have H17 := H15.2.2.1 q
        refine z_iload 5 dX12_chain_151 rfl (z_iload_n 1 dX12_chain_153 rfl ?_)
        refine z_icmp_ne (t := 160) dX12_chain_154 (by decide) (fun q => ?_) (fun q => ?_)
        · have H18 := H17.1 q
          refine z_iload 3 dX12_chain_160 rfl (z_iconst (w := 1) dX12_chain_162 (by decide) (z_iload 6 dX12_chain_163 rfl (z_ishl dX12_chain_165 (z_ior dX12_chain_166 ?_))))
          refine z_nm (fun y19 e_y19 => ?_)
          have H20 := H18 y19 e_y19
          refine z_istore (lv' := [(4, .int y19), (0, .ref a0), (2, .int x2), (3, .int x3), (5, .int x5), (6, .int x6), (7, .int x7)]) dX12_chain_167 (by decide) rfl (z_iload 6 dX12_chain_169 rfl (z_istore (lv' := [(5, .int x7), (4, .int y19), (0, .ref a0), (2, .int x2), (3, .int x3), (6, .int x6), (7, .int x7)]) dX12_chain_171 (by decide) rfl (z_iinc (y := x3 + (-1)) (lv' := [(3, .int (x3 + (-1))), (5, .int x7), (4, .int y19), (0, .ref a0), (2, .int x2), (6, .int x6), (7, .int x7)]) 4 dX12_chain_173 rfl rfl (by decide) rfl (z_iinc (y := x6 + 1) (lv' := [(6, .int (x6 + 1)), (3, .int (x3 + (-1))), (5, .int x7), (4, .int y19), (0, .ref a0), (2, .int x2), (7, .int x7)]) 5 dX12_chain_176 rfl rfl (by decide) rfl (z_goto (t := 90) dX12_chain_179 (by decide) ?_)))))
          exact z_less [4, 5, 1, 3, 2, 0] rfl H20
        · have H21 := H17.2 q
          refine z_iload 6 dX12_chain_157 rfl ?_
          obtain ⟨rfl, rfl⟩ := H21
          exact z_iret dX12_chain_159 rfl (by decide) (by decide)
      · have H22 := H15.2.2.2 q
        refine z_iinc (y := x7 + 1) (lv' := [(7, .int (x7 + 1)), (0, .ref a0), (2, .int x2), (3, .int x3), (4, .int x4), (5, .int x5), (6, .int x6)]) 6 dX12_chain_145 rfl rfl (by decide) rfl (z_goto (t := 97) dX12_chain_148 (by decide) ?_)
        exact z_less [1, 2, 3, 4, 5, 6, 0] rfl H22
theorem dX12_sentences_0 : decode cX12_sentences 0 = .ok (.aload_n 0, 1) := by decide +kernel
theorem dX12_sentences_1 : decode cX12_sentences 1 = .ok (.iload_n 1, 1) := by decide +kernel
theorem dX12_sentences_2 : decode cX12_sentences 2 = .ok (.invokevirtual 196, 3) := by decide +kernel
theorem dX12_sentences_5 : decode cX12_sentences 5 = .ok (.ifCond .eq 13, 3) := by decide +kernel
theorem dX12_sentences_8 : decode cX12_sentences 8 = .ok (.iload_n 2, 1) := by decide +kernel
theorem dX12_sentences_9 : decode cX12_sentences 9 = .ok (.iconst 0, 1) := by decide +kernel
theorem dX12_sentences_10 : decode cX12_sentences 10 = .ok (.bipush 6, 2) := by decide +kernel
theorem dX12_sentences_12 : decode cX12_sentences 12 = .ok (.invokestatic 120, 3) := by decide +kernel
theorem dX12_sentences_15 : decode cX12_sentences 15 = .ok (.ifCond .ne 5, 3) := by decide +kernel
theorem dX12_sentences_18 : decode cX12_sentences 18 = .ok (.iconst (-1), 1) := by decide +kernel
theorem dX12_sentences_19 : decode cX12_sentences 19 = .ok (.ireturn, 1) := by decide +kernel
theorem dX12_sentences_20 : decode cX12_sentences 20 = .ok (.iconst 0, 1) := by decide +kernel
theorem dX12_sentences_21 : decode cX12_sentences 21 = .ok (.istore_n 3, 1) := by decide +kernel
theorem dX12_sentences_22 : decode cX12_sentences 22 = .ok (.iload_n 3, 1) := by decide +kernel
theorem dX12_sentences_23 : decode cX12_sentences 23 = .ok (.aload_n 0, 1) := by decide +kernel
theorem dX12_sentences_24 : decode cX12_sentences 24 = .ok (.getfield 190, 3) := by decide +kernel
theorem dX12_sentences_27 : decode cX12_sentences 27 = .ok (.if_icmp .gt 16, 3) := by decide +kernel
theorem dX12_sentences_30 : decode cX12_sentences 30 = .ok (.aload_n 0, 1) := by decide +kernel
theorem dX12_sentences_31 : decode cX12_sentences 31 = .ok (.getfield 44, 3) := by decide +kernel
theorem dX12_sentences_34 : decode cX12_sentences 34 = .ok (.iload_n 3, 1) := by decide +kernel
theorem dX12_sentences_35 : decode cX12_sentences 35 = .ok (.iconst 1, 1) := by decide +kernel
theorem dX12_sentences_36 : decode cX12_sentences 36 = .ok (.iastore, 1) := by decide +kernel
theorem dX12_sentences_37 : decode cX12_sentences 37 = .ok (.iinc 3 1, 3) := by decide +kernel
theorem dX12_sentences_40 : decode cX12_sentences 40 = .ok (.goto (-18), 3) := by decide +kernel
theorem dX12_sentences_43 : decode cX12_sentences 43 = .ok (.iconst 0, 1) := by decide +kernel
theorem dX12_sentences_44 : decode cX12_sentences 44 = .ok (.istore_n 3, 1) := by decide +kernel
theorem dX12_sentences_45 : decode cX12_sentences 45 = .ok (.iload_n 3, 1) := by decide +kernel
theorem dX12_sentences_46 : decode cX12_sentences 46 = .ok (.iload_n 2, 1) := by decide +kernel
theorem dX12_sentences_47 : decode cX12_sentences 47 = .ok (.if_icmp .ge 129, 3) := by decide +kernel
theorem dX12_sentences_50 : decode cX12_sentences 50 = .ok (.iconst 0, 1) := by decide +kernel
theorem dX12_sentences_51 : decode cX12_sentences 51 = .ok (.istore 4, 2) := by decide +kernel
theorem dX12_sentences_53 : decode cX12_sentences 53 = .ok (.iload 4, 2) := by decide +kernel
theorem dX12_sentences_55 : decode cX12_sentences 55 = .ok (.aload_n 0, 1) := by decide +kernel
theorem dX12_sentences_56 : decode cX12_sentences 56 = .ok (.getfield 190, 3) := by decide +kernel
theorem dX12_sentences_59 : decode cX12_sentences 59 = .ok (.if_icmp .gt 76, 3) := by decide +kernel
theorem dX12_sentences_62 : decode cX12_sentences 62 = .ok (.iconst 0, 1) := by decide +kernel
theorem dX12_sentences_63 : decode cX12_sentences 63 = .ok (.istore 5, 2) := by decide +kernel
theorem dX12_sentences_65 : decode cX12_sentences 65 = .ok (.iconst 0, 1) := by decide +kernel
theorem dX12_sentences_66 : decode cX12_sentences 66 = .ok (.istore 6, 2) := by decide +kernel
theorem dX12_sentences_68 : decode cX12_sentences 68 = .ok (.iload 6, 2) := by decide +kernel
theorem dX12_sentences_70 : decode cX12_sentences 70 = .ok (.aload_n 0, 1) := by decide +kernel
theorem dX12_sentences_71 : decode cX12_sentences 71 = .ok (.getfield 190, 3) := by decide +kernel
theorem dX12_sentences_74 : decode cX12_sentences 74 = .ok (.if_icmp .ge 43, 3) := by decide +kernel
theorem dX12_sentences_77 : decode cX12_sentences 77 = .ok (.iload 5, 2) := by decide +kernel
theorem dX12_sentences_79 : decode cX12_sentences 79 = .ok (.aload_n 0, 1) := by decide +kernel
theorem dX12_sentences_80 : decode cX12_sentences 80 = .ok (.iload 4, 2) := by decide +kernel
theorem dX12_sentences_82 : decode cX12_sentences 82 = .ok (.iconst 1, 1) := by decide +kernel
theorem dX12_sentences_83 : decode cX12_sentences 83 = .ok (.isub, 1) := by decide +kernel
theorem dX12_sentences_84 : decode cX12_sentences 84 = .ok (.invokevirtual 211, 3) := by decide +kernel
theorem dX12_sentences_87 : decode cX12_sentences 87 = .ok (.iload 6, 2) := by decide +kernel
theorem dX12_sentences_89 : decode cX12_sentences 89 = .ok (.invokestatic 229, 3) := by decide +kernel
theorem dX12_sentences_92 : decode cX12_sentences 92 = .ok (.ifCond .eq 15, 3) := by decide +kernel
theorem dX12_sentences_95 : decode cX12_sentences 95 = .ok (.aload_n 0, 1) := by decide +kernel
theorem dX12_sentences_96 : decode cX12_sentences 96 = .ok (.getfield 44, 3) := by decide +kernel
theorem dX12_sentences_99 : decode cX12_sentences 99 = .ok (.iload 6, 2) := by decide +kernel
theorem dX12_sentences_101 : decode cX12_sentences 101 = .ok (.iconst 1, 1) := by decide +kernel
theorem dX12_sentences_102 : decode cX12_sentences 102 = .ok (.iadd, 1) := by decide +kernel
theorem dX12_sentences_103 : decode cX12_sentences 103 = .ok (.iaload, 1) := by decide +kernel
theorem dX12_sentences_104 : decode cX12_sentences 104 = .ok (.goto 4, 3) := by decide +kernel
theorem dX12_sentences_107 : decode cX12_sentences 107 = .ok (.iconst 0, 1) := by decide +kernel
theorem dX12_sentences_108 : decode cX12_sentences 108 = .ok (.iadd, 1) := by decide +kernel
theorem dX12_sentences_109 : decode cX12_sentences 109 = .ok (.istore 5, 2) := by decide +kernel
theorem dX12_sentences_111 : decode cX12_sentences 111 = .ok (.iinc 6 1, 3) := by decide +kernel
theorem dX12_sentences_114 : decode cX12_sentences 114 = .ok (.goto (-46), 3) := by decide +kernel
theorem dX12_sentences_117 : decode cX12_sentences 117 = .ok (.aload_n 0, 1) := by decide +kernel
theorem dX12_sentences_118 : decode cX12_sentences 118 = .ok (.getfield 44, 3) := by decide +kernel
theorem dX12_sentences_121 : decode cX12_sentences 121 = .ok (.bipush 20, 2) := by decide +kernel
theorem dX12_sentences_123 : decode cX12_sentences 123 = .ok (.iload 4, 2) := by decide +kernel
theorem dX12_sentences_125 : decode cX12_sentences 125 = .ok (.iadd, 1) := by decide +kernel
theorem dX12_sentences_126 : decode cX12_sentences 126 = .ok (.iload 5, 2) := by decide +kernel
theorem dX12_sentences_128 : decode cX12_sentences 128 = .ok (.iastore, 1) := by decide +kernel
theorem dX12_sentences_129 : decode cX12_sentences 129 = .ok (.iinc 4 1, 3) := by decide +kernel
theorem dX12_sentences_132 : decode cX12_sentences 132 = .ok (.goto (-79), 3) := by decide +kernel
theorem dX12_sentences_135 : decode cX12_sentences 135 = .ok (.iconst 0, 1) := by decide +kernel
theorem dX12_sentences_136 : decode cX12_sentences 136 = .ok (.istore 4, 2) := by decide +kernel
theorem dX12_sentences_138 : decode cX12_sentences 138 = .ok (.iload 4, 2) := by decide +kernel
theorem dX12_sentences_140 : decode cX12_sentences 140 = .ok (.aload_n 0, 1) := by decide +kernel
theorem dX12_sentences_141 : decode cX12_sentences 141 = .ok (.getfield 190, 3) := by decide +kernel
theorem dX12_sentences_144 : decode cX12_sentences 144 = .ok (.if_icmp .gt 26, 3) := by decide +kernel
theorem dX12_sentences_147 : decode cX12_sentences 147 = .ok (.aload_n 0, 1) := by decide +kernel
theorem dX12_sentences_148 : decode cX12_sentences 148 = .ok (.getfield 44, 3) := by decide +kernel
theorem dX12_sentences_151 : decode cX12_sentences 151 = .ok (.iload 4, 2) := by decide +kernel
theorem dX12_sentences_153 : decode cX12_sentences 153 = .ok (.aload_n 0, 1) := by decide +kernel
theorem dX12_sentences_154 : decode cX12_sentences 154 = .ok (.getfield 44, 3) := by decide +kernel
theorem dX12_sentences_157 : decode cX12_sentences 157 = .ok (.bipush 20, 2) := by decide +kernel
theorem dX12_sentences_159 : decode cX12_sentences 159 = .ok (.iload 4, 2) := by decide +kernel
theorem dX12_sentences_161 : decode cX12_sentences 161 = .ok (.iadd, 1) := by decide +kernel
theorem dX12_sentences_162 : decode cX12_sentences 162 = .ok (.iaload, 1) := by decide +kernel
theorem dX12_sentences_163 : decode cX12_sentences 163 = .ok (.iastore, 1) := by decide +kernel
theorem dX12_sentences_164 : decode cX12_sentences 164 = .ok (.iinc 4 1, 3) := by decide +kernel
theorem dX12_sentences_167 : decode cX12_sentences 167 = .ok (.goto (-29), 3) := by decide +kernel
theorem dX12_sentences_170 : decode cX12_sentences 170 = .ok (.iinc 3 1, 3) := by decide +kernel
theorem dX12_sentences_173 : decode cX12_sentences 173 = .ok (.goto (-128), 3) := by decide +kernel
theorem dX12_sentences_176 : decode cX12_sentences 176 = .ok (.aload_n 0, 1) := by decide +kernel
theorem dX12_sentences_177 : decode cX12_sentences 177 = .ok (.getfield 44, 3) := by decide +kernel
theorem dX12_sentences_180 : decode cX12_sentences 180 = .ok (.iconst 0, 1) := by decide +kernel
theorem dX12_sentences_181 : decode cX12_sentences 181 = .ok (.iaload, 1) := by decide +kernel
theorem dX12_sentences_182 : decode cX12_sentences 182 = .ok (.ireturn, 1) := by decide +kernel
set_option maxRecDepth 10000 in
theorem wX12_sentences_0 {g : zG} {I : Nat → Nat → Int32} {P : Nat → Nat → Option Nat} {r : Option Value} {h' : zH} {a0 : Nat} {x1 : Int32} {x2 : Int32} (H : zk g a0 12 ∧ ∃ (w1 : Int32) (I2 : Nat → Nat → Int32), Cl mX12_isHill [.ref a0, .int x1] (g, I, P) (some (.int w1)) (g, I2, P) ∧ ((w1 = 0) → r = some (.int (-1)) ∧ h' = (g, I2, P)) ∧ ((¬ w1 = 0) → ∃ (w7 : Int32), Cl mX12_isIn [.int x2, .int 0, .int 6] (g, I2, P) (some (.int w7)) (g, I2, P) ∧ ((¬ w7 = 0) → Zt none mX12_sentences 0 0 22 [(0, .ref a0), (2, .int x2), (3, .int 0)] [] (g, I2, P) r h') ∧ ((w7 = 0) → r = some (.int (-1)) ∧ h' = (g, I2, P)))) : Zt none mX12_sentences 0 0 0 [(0, .ref a0), (1, .int x1), (2, .int x2)] [] (g, I, P) r h' := by
  refine z_aload_n 0 dX12_sentences_0 rfl rfl (z_iload_n 1 dX12_sentences_1 rfl ?_)
  obtain ⟨oc3, w1, I2, c3, H4⟩ := H
  refine z_virt (As := [.int x1]) (st := []) (r1 := (some (.int w1))) (h1 := (g, I2, P)) dX12_sentences_2 kX12_isHill wm_X12_196 ⟨by decide, by decide⟩ rfl rfl (Nat.le_of_ble_eq_true rfl) (by decide) (by decide) oc3 c3 ?_
  refine z_if_eq (t := 18) dX12_sentences_5 (by decide) (fun q => ?_) (fun q => ?_)
  · have H5 := H4.1 q
    refine z_iconst (w := (-1)) dX12_sentences_18 (by decide) ?_
    obtain ⟨rfl, rfl⟩ := H5
    exact z_iret dX12_sentences_19 rfl (by decide) (by decide)
  · have H6 := H4.2 q
    refine z_iload_n 2 dX12_sentences_8 rfl (z_iconst (w := 0) dX12_sentences_9 (by decide) (z_bipush (w := 6) dX12_sentences_10 (by decide) ?_))
    obtain ⟨w7, c8, H9⟩ := H6
    refine z_stat (As := [.int x2, .int 0, .int 6]) (st := []) (r1 := (some (.int w7))) (h1 := (g, I2, P)) dX12_sentences_12 kX12_isIn wm_X12_120 ⟨by decide, by decide⟩ rfl rfl (Nat.le_of_ble_eq_true rfl) (by decide) (by decide) c8 ?_
    refine z_if_ne (t := 20) dX12_sentences_15 (by decide) (fun q => ?_) (fun q => ?_)
    · have H10 := H9.1 q
      refine z_iconst (w := 0) dX12_sentences_20 (by decide) (z_istore_n (lv' := [(3, .int 0), (0, .ref a0), (1, .int x1), (2, .int x2)]) dX12_sentences_21 (by decide) rfl ?_)
      exact z_less [1, 3, 0] rfl H10
    · have H11 := H9.2 q
      refine z_iconst (w := (-1)) dX12_sentences_18 (by decide) ?_
      obtain ⟨rfl, rfl⟩ := H11
      exact z_iret dX12_sentences_19 rfl (by decide) (by decide)
theorem eX12_sentences {g : zG} {I : Nat → Nat → Int32} {P : Nat → Nat → Option Nat} {r : Option Value} {h' : zH} {a0 : Nat} {x1 : Int32} {x2 : Int32} (H : Zt none mX12_sentences 0 0 0 [(0, .ref a0), (1, .int x1), (2, .int x2)] [] (g, I, P) r h') : Cl mX12_sentences [.ref a0, .int x1, .int x2] (g, I, P) r h' := Cl.of (by decide) (Nat.le_of_ble_eq_true rfl) H
set_option maxRecDepth 10000 in
theorem wX12_sentences_22 {g : zG} {I : Nat → Nat → Int32} {P : Nat → Nat → Option Nat} {r : Option Value} {h' : zH} {a0 : Nat} {x2 : Int32} {x3 : Int32} (H : zk g a0 12 ∧ ((I a0 15 < x3) → Zt none mX12_sentences 0 0 45 [(0, .ref a0), (2, .int x2), (3, .int 0)] [] (g, I, P) r h') ∧ ((¬ I a0 15 < x3) → zk g a0 12 ∧ ∃ b3, P a0 28 = some b3 ∧ zk g b3 13 ∧ vp_in x3 (g.2.2 b3) ∧ Zt none mX12_sentences 0 0 22 [(0, .ref a0), (2, .int x2), (3, .int (x3 + 1))] [] (g, zU I b3 x3.toNatClampNeg 1, P) r h')) : Zt none mX12_sentences 0 0 22 [(0, .ref a0), (2, .int x2), (3, .int x3)] [] (g, I, P) r h' := by
  refine z_iload_n 2 dX12_sentences_22 rfl (z_aload_n 0 dX12_sentences_23 rfl rfl (z_getI dX12_sentences_24 wf_X12_190 (by decide) (by decide) rfl H.1 ?_))
  refine z_icmp_gt (t := 43) dX12_sentences_27 (by decide) (fun q => ?_) (fun q => ?_)
  · have H1 := H.2.1 q
    refine z_iconst (w := 0) dX12_sentences_43 (by decide) (z_istore_n (lv' := [(3, .int 0), (0, .ref a0), (2, .int x2)]) dX12_sentences_44 (by decide) rfl ?_)
    exact z_less [1, 2, 0] rfl H1
  · have H2 := H.2.2 q
    refine z_aload_n 0 dX12_sentences_30 rfl rfl ?_
    obtain ⟨oe5, b3, e5, H4⟩ := H2
    refine z_getP dX12_sentences_31 wf_X12_44 (by decide) (by decide) rfl oe5 (fun q => (by cases q.symm.trans e5)) (fun j q => ?_)
    cases q.symm.trans e5
    refine z_iload_n 2 dX12_sentences_34 rfl (z_iconst (w := 1) dX12_sentences_35 (by decide) (z_iast (g := g) (I := I) (Q := P) dX12_sentences_36 H4.1 H4.2.1 (z_iinc (y := x3 + 1) (lv' := [(3, .int (x3 + 1)), (0, .ref a0), (2, .int x2)]) 2 dX12_sentences_37 rfl rfl (by decide) rfl (z_goto (t := 22) dX12_sentences_40 (by decide) ?_))))
    exact z_less [1, 2, 0] rfl H4.2.2
set_option maxRecDepth 10000 in
theorem wX12_sentences_45 {g : zG} {I : Nat → Nat → Int32} {P : Nat → Nat → Option Nat} {r : Option Value} {h' : zH} {a0 : Nat} {x2 : Int32} {x3 : Int32} (H : ((x2 ≤ x3) → zk g a0 12 ∧ ∃ b2, P a0 28 = some b2 ∧ zk g b2 13 ∧ vp_in 0 (g.2.2 b2) ∧ r = some (.int (I b2 (0 : Int32).toNatClampNeg)) ∧ h' = (g, I, P)) ∧ ((¬ x2 ≤ x3) → Zt none mX12_sentences 0 0 53 [(0, .ref a0), (2, .int x2), (3, .int x3), (4, .int 0)] [] (g, I, P) r h')) : Zt none mX12_sentences 0 0 45 [(0, .ref a0), (2, .int x2), (3, .int x3)] [] (g, I, P) r h' := by
  refine z_iload_n 2 dX12_sentences_45 rfl (z_iload_n 1 dX12_sentences_46 rfl ?_)
  refine z_icmp_ge (t := 176) dX12_sentences_47 (by decide) (fun q => ?_) (fun q => ?_)
  · have H1 := H.1 q
    refine z_aload_n 0 dX12_sentences_176 rfl rfl ?_
    obtain ⟨oe4, b2, e4, H3⟩ := H1
    refine z_getP dX12_sentences_177 wf_X12_44 (by decide) (by decide) rfl oe4 (fun q => (by cases q.symm.trans e4)) (fun j q => ?_)
    cases q.symm.trans e4
    refine z_iconst (w := 0) dX12_sentences_180 (by decide) (z_iald dX12_sentences_181 H3.1 H3.2.1 ?_)
    obtain ⟨rfl, rfl⟩ := H3.2.2
    exact z_iret dX12_sentences_182 rfl (by decide) (by decide)
  · have H5 := H.2 q
    refine z_iconst (w := 0) dX12_sentences_50 (by decide) (z_istore (lv' := [(4, .int 0), (0, .ref a0), (2, .int x2), (3, .int x3)]) dX12_sentences_51 (by decide) rfl ?_)
    exact z_less [1, 2, 3, 0] rfl H5
set_option maxRecDepth 10000 in
theorem wX12_sentences_53 {g : zG} {I : Nat → Nat → Int32} {P : Nat → Nat → Option Nat} {r : Option Value} {h' : zH} {a0 : Nat} {x2 : Int32} {x3 : Int32} {x4 : Int32} (H : zk g a0 12 ∧ ((I a0 15 < x4) → Zt none mX12_sentences 0 0 138 [(0, .ref a0), (2, .int x2), (3, .int x3), (4, .int 0)] [] (g, I, P) r h') ∧ ((¬ I a0 15 < x4) → Zt none mX12_sentences 0 0 68 [(0, .ref a0), (2, .int x2), (3, .int x3), (4, .int x4), (5, .int 0), (6, .int 0)] [] (g, I, P) r h')) : Zt none mX12_sentences 0 0 53 [(0, .ref a0), (2, .int x2), (3, .int x3), (4, .int x4)] [] (g, I, P) r h' := by
  refine z_iload 3 dX12_sentences_53 rfl (z_aload_n 0 dX12_sentences_55 rfl rfl (z_getI dX12_sentences_56 wf_X12_190 (by decide) (by decide) rfl H.1 ?_))
  refine z_icmp_gt (t := 135) dX12_sentences_59 (by decide) (fun q => ?_) (fun q => ?_)
  · have H1 := H.2.1 q
    refine z_iconst (w := 0) dX12_sentences_135 (by decide) (z_istore (lv' := [(4, .int 0), (0, .ref a0), (2, .int x2), (3, .int x3)]) dX12_sentences_136 (by decide) rfl ?_)
    exact z_less [1, 2, 3, 0] rfl H1
  · have H2 := H.2.2 q
    refine z_iconst (w := 0) dX12_sentences_62 (by decide) (z_istore (lv' := [(5, .int 0), (0, .ref a0), (2, .int x2), (3, .int x3), (4, .int x4)]) dX12_sentences_63 (by decide) rfl (z_iconst (w := 0) dX12_sentences_65 (by decide) (z_istore (lv' := [(6, .int 0), (5, .int 0), (0, .ref a0), (2, .int x2), (3, .int x3), (4, .int x4)]) dX12_sentences_66 (by decide) rfl ?_)))
    exact z_less [2, 3, 4, 5, 1, 0] rfl H2
set_option maxRecDepth 10000 in
theorem wX12_sentences_68 {g : zG} {I : Nat → Nat → Int32} {P : Nat → Nat → Option Nat} {r : Option Value} {h' : zH} {a0 : Nat} {x2 : Int32} {x3 : Int32} {x4 : Int32} {x5 : Int32} {x6 : Int32} (H : zk g a0 12 ∧ ((I a0 15 ≤ x6) → zk g a0 12 ∧ ∃ b2, P a0 28 = some b2 ∧ zk g b2 13 ∧ vp_in (20 + x4) (g.2.2 b2) ∧ Zt none mX12_sentences 0 0 53 [(0, .ref a0), (2, .int x2), (3, .int x3), (4, .int (x4 + 1))] [] (g, zU I b2 (20 + x4).toNatClampNeg x5, P) r h') ∧ ((¬ I a0 15 ≤ x6) → zk g a0 12 ∧ ∃ (w6 : Int32), Cl mX12_behind [.ref a0, .int (x4 - 1)] (g, I, P) (some (.int w6)) (g, I, P) ∧ ∃ (w9 : Int32), Cl mX12_holds [.int w6, .int x6] (g, I, P) (some (.int w9)) (g, I, P) ∧ ((w9 = 0) → Zt none mX12_sentences 0 0 68 [(0, .ref a0), (2, .int x2), (3, .int x3), (4, .int x4), (5, .int (x5 + 0)), (6, .int (x6 + 1))] [] (g, I, P) r h') ∧ ((¬ w9 = 0) → zk g a0 12 ∧ ∃ b14, P a0 28 = some b14 ∧ zk g b14 13 ∧ vp_in (x6 + 1) (g.2.2 b14) ∧ ∀ y17 : Int32, y17 = x5 + (I b14 (x6 + 1).toNatClampNeg) → Zt none mX12_sentences 0 0 68 [(0, .ref a0), (2, .int x2), (3, .int x3), (4, .int x4), (5, .int y17), (6, .int (x6 + 1))] [] (g, I, P) r h'))) : Zt none mX12_sentences 0 0 68 [(0, .ref a0), (2, .int x2), (3, .int x3), (4, .int x4), (5, .int x5), (6, .int x6)] [] (g, I, P) r h' := by
  refine z_iload 5 dX12_sentences_68 rfl (z_aload_n 0 dX12_sentences_70 rfl rfl (z_getI dX12_sentences_71 wf_X12_190 (by decide) (by decide) rfl H.1 ?_))
  refine z_icmp_ge (t := 117) dX12_sentences_74 (by decide) (fun q => ?_) (fun q => ?_)
  · have H1 := H.2.1 q
    refine z_aload_n 0 dX12_sentences_117 rfl rfl ?_
    obtain ⟨oe4, b2, e4, H3⟩ := H1
    refine z_getP dX12_sentences_118 wf_X12_44 (by decide) (by decide) rfl oe4 (fun q => (by cases q.symm.trans e4)) (fun j q => ?_)
    cases q.symm.trans e4
    refine z_bipush (w := 20) dX12_sentences_121 (by decide) (z_iload 3 dX12_sentences_123 rfl (z_iadd dX12_sentences_125 (z_iload 4 dX12_sentences_126 rfl (z_iast (g := g) (I := I) (Q := P) dX12_sentences_128 H3.1 H3.2.1 (z_iinc (y := x4 + 1) (lv' := [(4, .int (x4 + 1)), (0, .ref a0), (2, .int x2), (3, .int x3), (5, .int x5), (6, .int x6)]) 3 dX12_sentences_129 rfl rfl (by decide) rfl (z_goto (t := 53) dX12_sentences_132 (by decide) ?_))))))
    exact z_less [1, 2, 3, 0] rfl H3.2.2
  · have H5 := H.2.2 q
    refine z_iload 4 dX12_sentences_77 rfl (z_aload_n 0 dX12_sentences_79 rfl rfl (z_iload 3 dX12_sentences_80 rfl (z_iconst (w := 1) dX12_sentences_82 (by decide) (z_isub dX12_sentences_83 ?_))))
    obtain ⟨oc7, w6, c7, H8⟩ := H5
    refine z_virt (As := [.int (x4 - 1)]) (st := [.int x5]) (r1 := (some (.int w6))) (h1 := (g, I, P)) dX12_sentences_84 kX12_behind wm_X12_211 ⟨by decide, by decide⟩ rfl rfl (Nat.le_of_ble_eq_true rfl) (by decide) (by decide) oc7 c7 ?_
    refine z_iload 5 dX12_sentences_87 rfl ?_
    obtain ⟨w9, c10, H11⟩ := H8
    refine z_stat (As := [.int w6, .int x6]) (st := [.int x5]) (r1 := (some (.int w9))) (h1 := (g, I, P)) dX12_sentences_89 kX12_holds wm_X12_229 ⟨by decide, by decide⟩ rfl rfl (Nat.le_of_ble_eq_true rfl) (by decide) (by decide) c10 ?_
    refine z_if_eq (t := 107) dX12_sentences_92 (by decide) (fun q => ?_) (fun q => ?_)
    · have H12 := H11.1 q
      refine z_iconst (w := 0) dX12_sentences_107 (by decide) (z_iadd dX12_sentences_108 (z_istore (lv' := [(5, .int (x5 + 0)), (0, .ref a0), (2, .int x2), (3, .int x3), (4, .int x4), (6, .int x6)]) dX12_sentences_109 (by decide) rfl (z_iinc (y := x6 + 1) (lv' := [(6, .int (x6 + 1)), (5, .int (x5 + 0)), (0, .ref a0), (2, .int x2), (3, .int x3), (4, .int x4)]) 5 dX12_sentences_111 rfl rfl (by decide) rfl (z_goto (t := 68) dX12_sentences_114 (by decide) ?_))))
      exact z_less [2, 3, 4, 5, 1, 0] rfl H12
    · have H13 := H11.2 q
      refine z_aload_n 0 dX12_sentences_95 rfl rfl ?_
      obtain ⟨oe16, b14, e16, H15⟩ := H13
      refine z_getP dX12_sentences_96 wf_X12_44 (by decide) (by decide) rfl oe16 (fun q => (by cases q.symm.trans e16)) (fun j q => ?_)
      cases q.symm.trans e16
      refine z_iload 5 dX12_sentences_99 rfl (z_iconst (w := 1) dX12_sentences_101 (by decide) (z_iadd dX12_sentences_102 (z_iald dX12_sentences_103 H15.1 H15.2.1 (z_goto (t := 108) dX12_sentences_104 (by decide) (z_iadd dX12_sentences_108 ?_)))))
      refine z_nm (fun y17 e_y17 => ?_)
      have H18 := H15.2.2 y17 e_y17
      refine z_istore (lv' := [(5, .int y17), (0, .ref a0), (2, .int x2), (3, .int x3), (4, .int x4), (6, .int x6)]) dX12_sentences_109 (by decide) rfl (z_iinc (y := x6 + 1) (lv' := [(6, .int (x6 + 1)), (5, .int y17), (0, .ref a0), (2, .int x2), (3, .int x3), (4, .int x4)]) 5 dX12_sentences_111 rfl rfl (by decide) rfl (z_goto (t := 68) dX12_sentences_114 (by decide) ?_))
      exact z_less [2, 3, 4, 5, 1, 0] rfl H18
set_option maxRecDepth 10000 in
theorem wX12_sentences_138 {g : zG} {I : Nat → Nat → Int32} {P : Nat → Nat → Option Nat} {r : Option Value} {h' : zH} {a0 : Nat} {x2 : Int32} {x3 : Int32} {x4 : Int32} (H : zk g a0 12 ∧ ((I a0 15 < x4) → Zt none mX12_sentences 0 0 45 [(0, .ref a0), (2, .int x2), (3, .int (x3 + 1))] [] (g, I, P) r h') ∧ ((¬ I a0 15 < x4) → zk g a0 12 ∧ ∃ b3, P a0 28 = some b3 ∧ zk g a0 12 ∧ ∃ b6, P a0 28 = some b6 ∧ zk g b6 13 ∧ vp_in (20 + x4) (g.2.2 b6) ∧ zk g b3 13 ∧ vp_in x4 (g.2.2 b3) ∧ Zt none mX12_sentences 0 0 138 [(0, .ref a0), (2, .int x2), (3, .int x3), (4, .int (x4 + 1))] [] (g, zU I b3 x4.toNatClampNeg (I b6 (20 + x4).toNatClampNeg), P) r h')) : Zt none mX12_sentences 0 0 138 [(0, .ref a0), (2, .int x2), (3, .int x3), (4, .int x4)] [] (g, I, P) r h' := by
  refine z_iload 3 dX12_sentences_138 rfl (z_aload_n 0 dX12_sentences_140 rfl rfl (z_getI dX12_sentences_141 wf_X12_190 (by decide) (by decide) rfl H.1 ?_))
  refine z_icmp_gt (t := 170) dX12_sentences_144 (by decide) (fun q => ?_) (fun q => ?_)
  · have H1 := H.2.1 q
    refine z_iinc (y := x3 + 1) (lv' := [(3, .int (x3 + 1)), (0, .ref a0), (2, .int x2), (4, .int x4)]) 2 dX12_sentences_170 rfl rfl (by decide) rfl (z_goto (t := 45) dX12_sentences_173 (by decide) ?_)
    exact z_less [1, 2, 0] rfl H1
  · have H2 := H.2.2 q
    refine z_aload_n 0 dX12_sentences_147 rfl rfl ?_
    obtain ⟨oe5, b3, e5, H4⟩ := H2
    refine z_getP dX12_sentences_148 wf_X12_44 (by decide) (by decide) rfl oe5 (fun q => (by cases q.symm.trans e5)) (fun j q => ?_)
    cases q.symm.trans e5
    refine z_iload 3 dX12_sentences_151 rfl (z_aload_n 0 dX12_sentences_153 rfl rfl ?_)
    obtain ⟨oe8, b6, e8, H7⟩ := H4
    refine z_getP dX12_sentences_154 wf_X12_44 (by decide) (by decide) rfl oe8 (fun q => (by cases q.symm.trans e8)) (fun j q => ?_)
    cases q.symm.trans e8
    refine z_bipush (w := 20) dX12_sentences_157 (by decide) (z_iload 3 dX12_sentences_159 rfl (z_iadd dX12_sentences_161 (z_iald dX12_sentences_162 H7.1 H7.2.1 (z_iast (g := g) (I := I) (Q := P) dX12_sentences_163 H7.2.2.1 H7.2.2.2.1 (z_iinc (y := x4 + 1) (lv' := [(4, .int (x4 + 1)), (0, .ref a0), (2, .int x2), (3, .int x3)]) 3 dX12_sentences_164 rfl rfl (by decide) rfl (z_goto (t := 138) dX12_sentences_167 (by decide) ?_))))))
    exact z_less [1, 2, 3, 0] rfl H7.2.2.2.2
theorem dX12_goesOn_0 : decode cX12_goesOn 0 = .ok (.iload_n 1, 1) := by decide +kernel
theorem dX12_goesOn_1 : decode cX12_goesOn 1 = .ok (.bipush 60, 2) := by decide +kernel
theorem dX12_goesOn_3 : decode cX12_goesOn 3 = .ok (.idiv, 1) := by decide +kernel
theorem dX12_goesOn_4 : decode cX12_goesOn 4 = .ok (.istore_n 3, 1) := by decide +kernel
theorem dX12_goesOn_5 : decode cX12_goesOn 5 = .ok (.iload_n 1, 1) := by decide +kernel
theorem dX12_goesOn_6 : decode cX12_goesOn 6 = .ok (.bipush 10, 2) := by decide +kernel
theorem dX12_goesOn_8 : decode cX12_goesOn 8 = .ok (.idiv, 1) := by decide +kernel
theorem dX12_goesOn_9 : decode cX12_goesOn 9 = .ok (.bipush 6, 2) := by decide +kernel
theorem dX12_goesOn_11 : decode cX12_goesOn 11 = .ok (.irem, 1) := by decide +kernel
theorem dX12_goesOn_12 : decode cX12_goesOn 12 = .ok (.istore 4, 2) := by decide +kernel
theorem dX12_goesOn_14 : decode cX12_goesOn 14 = .ok (.aload_n 0, 1) := by decide +kernel
theorem dX12_goesOn_15 : decode cX12_goesOn 15 = .ok (.iload_n 3, 1) := by decide +kernel
theorem dX12_goesOn_16 : decode cX12_goesOn 16 = .ok (.invokevirtual 205, 3) := by decide +kernel
theorem dX12_goesOn_19 : decode cX12_goesOn 19 = .ok (.iload 4, 2) := by decide +kernel
theorem dX12_goesOn_21 : decode cX12_goesOn 21 = .ok (.isub, 1) := by decide +kernel
theorem dX12_goesOn_22 : decode cX12_goesOn 22 = .ok (.istore 5, 2) := by decide +kernel
theorem dX12_goesOn_24 : decode cX12_goesOn 24 = .ok (.aload_n 0, 1) := by decide +kernel
theorem dX12_goesOn_25 : decode cX12_goesOn 25 = .ok (.iload_n 1, 1) := by decide +kernel
theorem dX12_goesOn_26 : decode cX12_goesOn 26 = .ok (.bipush 10, 2) := by decide +kernel
theorem dX12_goesOn_28 : decode cX12_goesOn 28 = .ok (.irem, 1) := by decide +kernel
theorem dX12_goesOn_29 : decode cX12_goesOn 29 = .ok (.invokevirtual 211, 3) := by decide +kernel
theorem dX12_goesOn_32 : decode cX12_goesOn 32 = .ok (.iload_n 2, 1) := by decide +kernel
theorem dX12_goesOn_33 : decode cX12_goesOn 33 = .ok (.invokestatic 229, 3) := by decide +kernel
theorem dX12_goesOn_36 : decode cX12_goesOn 36 = .ok (.ifCond .ne 5, 3) := by decide +kernel
theorem dX12_goesOn_39 : decode cX12_goesOn 39 = .ok (.iconst 0, 1) := by decide +kernel
theorem dX12_goesOn_40 : decode cX12_goesOn 40 = .ok (.ireturn, 1) := by decide +kernel
theorem dX12_goesOn_41 : decode cX12_goesOn 41 = .ok (.iconst 0, 1) := by decide +kernel
theorem dX12_goesOn_42 : decode cX12_goesOn 42 = .ok (.istore 6, 2) := by decide +kernel
theorem dX12_goesOn_44 : decode cX12_goesOn 44 = .ok (.iload 6, 2) := by decide +kernel
theorem dX12_goesOn_46 : decode cX12_goesOn 46 = .ok (.iload 5, 2) := by decide +kernel
theorem dX12_goesOn_48 : decode cX12_goesOn 48 = .ok (.if_icmp .ge 41, 3) := by decide +kernel
theorem dX12_goesOn_51 : decode cX12_goesOn 51 = .ok (.iload 6, 2) := by decide +kernel
theorem dX12_goesOn_53 : decode cX12_goesOn 53 = .ok (.aload_n 0, 1) := by decide +kernel
theorem dX12_goesOn_54 : decode cX12_goesOn 54 = .ok (.iload_n 2, 1) := by decide +kernel
theorem dX12_goesOn_55 : decode cX12_goesOn 55 = .ok (.invokevirtual 205, 3) := by decide +kernel
theorem dX12_goesOn_58 : decode cX12_goesOn 58 = .ok (.if_icmp .ge 31, 3) := by decide +kernel
theorem dX12_goesOn_61 : decode cX12_goesOn 61 = .ok (.aload_n 0, 1) := by decide +kernel
theorem dX12_goesOn_62 : decode cX12_goesOn 62 = .ok (.iload_n 3, 1) := by decide +kernel
theorem dX12_goesOn_63 : decode cX12_goesOn 63 = .ok (.iload 4, 2) := by decide +kernel
theorem dX12_goesOn_65 : decode cX12_goesOn 65 = .ok (.iload 6, 2) := by decide +kernel
theorem dX12_goesOn_67 : decode cX12_goesOn 67 = .ok (.iadd, 1) := by decide +kernel
theorem dX12_goesOn_68 : decode cX12_goesOn 68 = .ok (.invokevirtual 214, 3) := by decide +kernel
theorem dX12_goesOn_71 : decode cX12_goesOn 71 = .ok (.aload_n 0, 1) := by decide +kernel
theorem dX12_goesOn_72 : decode cX12_goesOn 72 = .ok (.iload_n 2, 1) := by decide +kernel
theorem dX12_goesOn_73 : decode cX12_goesOn 73 = .ok (.iload 6, 2) := by decide +kernel
theorem dX12_goesOn_75 : decode cX12_goesOn 75 = .ok (.invokevirtual 214, 3) := by decide +kernel
theorem dX12_goesOn_78 : decode cX12_goesOn 78 = .ok (.if_icmp .eq 5, 3) := by decide +kernel
theorem dX12_goesOn_81 : decode cX12_goesOn 81 = .ok (.iconst 0, 1) := by decide +kernel
theorem dX12_goesOn_82 : decode cX12_goesOn 82 = .ok (.ireturn, 1) := by decide +kernel
theorem dX12_goesOn_83 : decode cX12_goesOn 83 = .ok (.iinc 6 1, 3) := by decide +kernel
theorem dX12_goesOn_86 : decode cX12_goesOn 86 = .ok (.goto (-42), 3) := by decide +kernel
theorem dX12_goesOn_89 : decode cX12_goesOn 89 = .ok (.aload_n 0, 1) := by decide +kernel
theorem dX12_goesOn_90 : decode cX12_goesOn 90 = .ok (.iload_n 2, 1) := by decide +kernel
theorem dX12_goesOn_91 : decode cX12_goesOn 91 = .ok (.invokevirtual 205, 3) := by decide +kernel
theorem dX12_goesOn_94 : decode cX12_goesOn 94 = .ok (.iload 5, 2) := by decide +kernel
theorem dX12_goesOn_96 : decode cX12_goesOn 96 = .ok (.if_icmp .ne 35, 3) := by decide +kernel
theorem dX12_goesOn_99 : decode cX12_goesOn 99 = .ok (.aload_n 0, 1) := by decide +kernel
theorem dX12_goesOn_100 : decode cX12_goesOn 100 = .ok (.aload_n 0, 1) := by decide +kernel
theorem dX12_goesOn_101 : decode cX12_goesOn 101 = .ok (.getfield 59, 3) := by decide +kernel
theorem dX12_goesOn_104 : decode cX12_goesOn 104 = .ok (.iload_n 1, 1) := by decide +kernel
theorem dX12_goesOn_105 : decode cX12_goesOn 105 = .ok (.iaload, 1) := by decide +kernel
theorem dX12_goesOn_106 : decode cX12_goesOn 106 = .ok (.aload_n 0, 1) := by decide +kernel
theorem dX12_goesOn_107 : decode cX12_goesOn 107 = .ok (.getfield 343, 3) := by decide +kernel
theorem dX12_goesOn_110 : decode cX12_goesOn 110 = .ok (.if_icmp .ge 12, 3) := by decide +kernel
theorem dX12_goesOn_113 : decode cX12_goesOn 113 = .ok (.aload_n 0, 1) := by decide +kernel
theorem dX12_goesOn_114 : decode cX12_goesOn 114 = .ok (.getfield 59, 3) := by decide +kernel
theorem dX12_goesOn_117 : decode cX12_goesOn 117 = .ok (.iload_n 1, 1) := by decide +kernel
theorem dX12_goesOn_118 : decode cX12_goesOn 118 = .ok (.iaload, 1) := by decide +kernel
theorem dX12_goesOn_119 : decode cX12_goesOn 119 = .ok (.goto 7, 3) := by decide +kernel
theorem dX12_goesOn_122 : decode cX12_goesOn 122 = .ok (.aload_n 0, 1) := by decide +kernel
theorem dX12_goesOn_123 : decode cX12_goesOn 123 = .ok (.getfield 343, 3) := by decide +kernel
theorem dX12_goesOn_126 : decode cX12_goesOn 126 = .ok (.putfield 343, 3) := by decide +kernel
theorem dX12_goesOn_129 : decode cX12_goesOn 129 = .ok (.iconst 0, 1) := by decide +kernel
theorem dX12_goesOn_130 : decode cX12_goesOn 130 = .ok (.ireturn, 1) := by decide +kernel
theorem dX12_goesOn_131 : decode cX12_goesOn 131 = .ok (.aload_n 0, 1) := by decide +kernel
theorem dX12_goesOn_132 : decode cX12_goesOn 132 = .ok (.iload_n 2, 1) := by decide +kernel
theorem dX12_goesOn_133 : decode cX12_goesOn 133 = .ok (.invokevirtual 205, 3) := by decide +kernel
theorem dX12_goesOn_136 : decode cX12_goesOn 136 = .ok (.iload 5, 2) := by decide +kernel
theorem dX12_goesOn_138 : decode cX12_goesOn 138 = .ok (.if_icmp .ge 24, 3) := by decide +kernel
theorem dX12_goesOn_141 : decode cX12_goesOn 141 = .ok (.bipush 60, 2) := by decide +kernel
theorem dX12_goesOn_143 : decode cX12_goesOn 143 = .ok (.iload_n 3, 1) := by decide +kernel
theorem dX12_goesOn_144 : decode cX12_goesOn 144 = .ok (.imul, 1) := by decide +kernel
theorem dX12_goesOn_145 : decode cX12_goesOn 145 = .ok (.bipush 10, 2) := by decide +kernel
theorem dX12_goesOn_147 : decode cX12_goesOn 147 = .ok (.iload 4, 2) := by decide +kernel
theorem dX12_goesOn_149 : decode cX12_goesOn 149 = .ok (.aload_n 0, 1) := by decide +kernel
theorem dX12_goesOn_150 : decode cX12_goesOn 150 = .ok (.iload_n 2, 1) := by decide +kernel
theorem dX12_goesOn_151 : decode cX12_goesOn 151 = .ok (.invokevirtual 205, 3) := by decide +kernel
theorem dX12_goesOn_154 : decode cX12_goesOn 154 = .ok (.iadd, 1) := by decide +kernel
theorem dX12_goesOn_155 : decode cX12_goesOn 155 = .ok (.imul, 1) := by decide +kernel
theorem dX12_goesOn_156 : decode cX12_goesOn 156 = .ok (.iadd, 1) := by decide +kernel
theorem dX12_goesOn_157 : decode cX12_goesOn 157 = .ok (.iload_n 2, 1) := by decide +kernel
theorem dX12_goesOn_158 : decode cX12_goesOn 158 = .ok (.iadd, 1) := by decide +kernel
theorem dX12_goesOn_159 : decode cX12_goesOn 159 = .ok (.goto 15, 3) := by decide +kernel
theorem dX12_goesOn_162 : decode cX12_goesOn 162 = .ok (.bipush 60, 2) := by decide +kernel
theorem dX12_goesOn_164 : decode cX12_goesOn 164 = .ok (.iload_n 2, 1) := by decide +kernel
theorem dX12_goesOn_165 : decode cX12_goesOn 165 = .ok (.imul, 1) := by decide +kernel
theorem dX12_goesOn_166 : decode cX12_goesOn 166 = .ok (.bipush 10, 2) := by decide +kernel
theorem dX12_goesOn_168 : decode cX12_goesOn 168 = .ok (.iload 5, 2) := by decide +kernel
theorem dX12_goesOn_170 : decode cX12_goesOn 170 = .ok (.imul, 1) := by decide +kernel
theorem dX12_goesOn_171 : decode cX12_goesOn 171 = .ok (.iadd, 1) := by decide +kernel
theorem dX12_goesOn_172 : decode cX12_goesOn 172 = .ok (.iload_n 3, 1) := by decide +kernel
theorem dX12_goesOn_173 : decode cX12_goesOn 173 = .ok (.iadd, 1) := by decide +kernel
theorem dX12_goesOn_174 : decode cX12_goesOn 174 = .ok (.istore 6, 2) := by decide +kernel
theorem dX12_goesOn_176 : decode cX12_goesOn 176 = .ok (.aload_n 0, 1) := by decide +kernel
theorem dX12_goesOn_177 : decode cX12_goesOn 177 = .ok (.iload_n 2, 1) := by decide +kernel
theorem dX12_goesOn_178 : decode cX12_goesOn 178 = .ok (.invokevirtual 205, 3) := by decide +kernel
theorem dX12_goesOn_181 : decode cX12_goesOn 181 = .ok (.iload 5, 2) := by decide +kernel
theorem dX12_goesOn_183 : decode cX12_goesOn 183 = .ok (.if_icmp .ge 12, 3) := by decide +kernel
theorem dX12_goesOn_186 : decode cX12_goesOn 186 = .ok (.aload_n 0, 1) := by decide +kernel
theorem dX12_goesOn_187 : decode cX12_goesOn 187 = .ok (.getfield 59, 3) := by decide +kernel
theorem dX12_goesOn_190 : decode cX12_goesOn 190 = .ok (.iload_n 1, 1) := by decide +kernel
theorem dX12_goesOn_191 : decode cX12_goesOn 191 = .ok (.iaload, 1) := by decide +kernel
theorem dX12_goesOn_192 : decode cX12_goesOn 192 = .ok (.goto 18, 3) := by decide +kernel
theorem dX12_goesOn_195 : decode cX12_goesOn 195 = .ok (.aload_n 0, 1) := by decide +kernel
theorem dX12_goesOn_196 : decode cX12_goesOn 196 = .ok (.getfield 59, 3) := by decide +kernel
theorem dX12_goesOn_199 : decode cX12_goesOn 199 = .ok (.iload_n 1, 1) := by decide +kernel
theorem dX12_goesOn_200 : decode cX12_goesOn 200 = .ok (.iaload, 1) := by decide +kernel
theorem dX12_goesOn_201 : decode cX12_goesOn 201 = .ok (.aload_n 0, 1) := by decide +kernel
theorem dX12_goesOn_202 : decode cX12_goesOn 202 = .ok (.iload_n 2, 1) := by decide +kernel
theorem dX12_goesOn_203 : decode cX12_goesOn 203 = .ok (.invokevirtual 205, 3) := by decide +kernel
theorem dX12_goesOn_206 : decode cX12_goesOn 206 = .ok (.iadd, 1) := by decide +kernel
theorem dX12_goesOn_207 : decode cX12_goesOn 207 = .ok (.iload 5, 2) := by decide +kernel
theorem dX12_goesOn_209 : decode cX12_goesOn 209 = .ok (.isub, 1) := by decide +kernel
theorem dX12_goesOn_210 : decode cX12_goesOn 210 = .ok (.istore 7, 2) := by decide +kernel
theorem dX12_goesOn_212 : decode cX12_goesOn 212 = .ok (.iload 7, 2) := by decide +kernel
theorem dX12_goesOn_214 : decode cX12_goesOn 214 = .ok (.aload_n 0, 1) := by decide +kernel
theorem dX12_goesOn_215 : decode cX12_goesOn 215 = .ok (.getfield 59, 3) := by decide +kernel
theorem dX12_goesOn_218 : decode cX12_goesOn 218 = .ok (.iload 6, 2) := by decide +kernel
theorem dX12_goesOn_220 : decode cX12_goesOn 220 = .ok (.iaload, 1) := by decide +kernel
theorem dX12_goesOn_221 : decode cX12_goesOn 221 = .ok (.if_icmp .ge 10, 3) := by decide +kernel
theorem dX12_goesOn_224 : decode cX12_goesOn 224 = .ok (.iload 7, 2) := by decide +kernel
theorem dX12_goesOn_226 : decode cX12_goesOn 226 = .ok (.bipush 24, 2) := by decide +kernel
theorem dX12_goesOn_228 : decode cX12_goesOn 228 = .ok (.if_icmp .le 5, 3) := by decide +kernel
theorem dX12_goesOn_231 : decode cX12_goesOn 231 = .ok (.iconst 0, 1) := by decide +kernel
theorem dX12_goesOn_232 : decode cX12_goesOn 232 = .ok (.ireturn, 1) := by decide +kernel
theorem dX12_goesOn_233 : decode cX12_goesOn 233 = .ok (.aload_n 0, 1) := by decide +kernel
theorem dX12_goesOn_234 : decode cX12_goesOn 234 = .ok (.getfield 59, 3) := by decide +kernel
theorem dX12_goesOn_237 : decode cX12_goesOn 237 = .ok (.iload 6, 2) := by decide +kernel
theorem dX12_goesOn_239 : decode cX12_goesOn 239 = .ok (.iload 7, 2) := by decide +kernel
theorem dX12_goesOn_241 : decode cX12_goesOn 241 = .ok (.iastore, 1) := by decide +kernel
theorem dX12_goesOn_242 : decode cX12_goesOn 242 = .ok (.iconst 1, 1) := by decide +kernel
theorem dX12_goesOn_243 : decode cX12_goesOn 243 = .ok (.ireturn, 1) := by decide +kernel
set_option maxRecDepth 10000 in
theorem wX12_goesOn_0 {g : zG} {I : Nat → Nat → Int32} {P : Nat → Nat → Option Nat} {r : Option Value} {h' : zH} {a0 : Nat} {x1 : Int32} {x2 : Int32} (H : ∀ y1 : Int32, y1 = (x1 / 10) - (x1 / 10) / 6 * 6 → zk g a0 12 ∧ ∃ (w3 : Int32), Cl mX12_longOf [.ref a0, .int (x1 / 60)] (g, I, P) (some (.int w3)) (g, I, P) ∧ zk g a0 12 ∧ ∃ (w6 : Int32), Cl mX12_behind [.ref a0, .int (x1 - x1 / 10 * 10)] (g, I, P) (some (.int w6)) (g, I, P) ∧ ∃ (w9 : Int32), Cl mX12_holds [.int w6, .int x2] (g, I, P) (some (.int w9)) (g, I, P) ∧ ((¬ w9 = 0) → Zt none mX12_goesOn 0 0 44 [(0, .ref a0), (1, .int x1), (2, .int x2), (3, .int (x1 / 60)), (4, .int y1), (5, .int (w3 - y1)), (6, .int 0)] [] (g, I, P) r h') ∧ ((w9 = 0) → r = some (.int 0) ∧ h' = (g, I, P))) : Zt none mX12_goesOn 0 0 0 [(0, .ref a0), (1, .int x1), (2, .int x2)] [] (g, I, P) r h' := by
  refine z_iload_n 1 dX12_goesOn_0 rfl (z_bipush (w := 60) dX12_goesOn_1 (by decide) (z_idiv dX12_goesOn_3 (by decide) (z_istore_n (lv' := [(3, .int (x1 / 60)), (0, .ref a0), (1, .int x1), (2, .int x2)]) dX12_goesOn_4 (by decide) rfl (z_iload_n 2 dX12_goesOn_5 rfl (z_bipush (w := 10) dX12_goesOn_6 (by decide) (z_idiv dX12_goesOn_8 (by decide) (z_bipush (w := 6) dX12_goesOn_9 (by decide) (z_irem dX12_goesOn_11 (by decide) ?_))))))))
  refine z_nm (fun y1 e_y1 => ?_)
  have H2 := H y1 e_y1
  refine z_istore (lv' := [(4, .int y1), (3, .int (x1 / 60)), (0, .ref a0), (1, .int x1), (2, .int x2)]) dX12_goesOn_12 (by decide) rfl (z_aload_n 2 dX12_goesOn_14 rfl rfl (z_iload_n 1 dX12_goesOn_15 rfl ?_))
  obtain ⟨oc4, w3, c4, H5⟩ := H2
  refine z_virt (As := [.int (x1 / 60)]) (st := []) (r1 := (some (.int w3))) (h1 := (g, I, P)) dX12_goesOn_16 kX12_longOf wm_X12_205 ⟨by decide, by decide⟩ rfl rfl (Nat.le_of_ble_eq_true rfl) (by decide) (by decide) oc4 c4 ?_
  refine z_iload 0 dX12_goesOn_19 rfl (z_isub dX12_goesOn_21 (z_istore (lv' := [(5, .int (w3 - y1)), (4, .int y1), (3, .int (x1 / 60)), (0, .ref a0), (1, .int x1), (2, .int x2)]) dX12_goesOn_22 (by decide) rfl (z_aload_n 3 dX12_goesOn_24 rfl rfl (z_iload_n 4 dX12_goesOn_25 rfl (z_bipush (w := 10) dX12_goesOn_26 (by decide) (z_irem dX12_goesOn_28 (by decide) ?_))))))
  obtain ⟨oc7, w6, c7, H8⟩ := H5
  refine z_virt (As := [.int (x1 - x1 / 10 * 10)]) (st := []) (r1 := (some (.int w6))) (h1 := (g, I, P)) dX12_goesOn_29 kX12_behind wm_X12_211 ⟨by decide, by decide⟩ rfl rfl (Nat.le_of_ble_eq_true rfl) (by decide) (by decide) oc7 c7 ?_
  refine z_iload_n 5 dX12_goesOn_32 rfl ?_
  obtain ⟨w9, c10, H11⟩ := H8
  refine z_stat (As := [.int w6, .int x2]) (st := []) (r1 := (some (.int w9))) (h1 := (g, I, P)) dX12_goesOn_33 kX12_holds wm_X12_229 ⟨by decide, by decide⟩ rfl rfl (Nat.le_of_ble_eq_true rfl) (by decide) (by decide) c10 ?_
  refine z_if_ne (t := 41) dX12_goesOn_36 (by decide) (fun q => ?_) (fun q => ?_)
  · have H12 := H11.1 q
    refine z_iconst (w := 0) dX12_goesOn_41 (by decide) (z_istore (lv' := [(6, .int 0), (5, .int (w3 - y1)), (4, .int y1), (3, .int (x1 / 60)), (0, .ref a0), (1, .int x1), (2, .int x2)]) dX12_goesOn_42 (by decide) rfl ?_)
    exact z_less [4, 5, 6, 3, 2, 1, 0] rfl H12
  · have H13 := H11.2 q
    refine z_iconst (w := 0) dX12_goesOn_39 (by decide) ?_
    obtain ⟨rfl, rfl⟩ := H13
    exact z_zret dX12_goesOn_40 rfl (Or.inl rfl) (by decide) (by decide)
theorem eX12_goesOn {g : zG} {I : Nat → Nat → Int32} {P : Nat → Nat → Option Nat} {r : Option Value} {h' : zH} {a0 : Nat} {x1 : Int32} {x2 : Int32} (H : Zt none mX12_goesOn 0 0 0 [(0, .ref a0), (1, .int x1), (2, .int x2)] [] (g, I, P) r h') : Cl mX12_goesOn [.ref a0, .int x1, .int x2] (g, I, P) r h' := Cl.of (by decide) (Nat.le_of_ble_eq_true rfl) H
set_option maxRecDepth 10000 in
theorem wX12_goesOn_44 {g : zG} {I : Nat → Nat → Int32} {P : Nat → Nat → Option Nat} {r : Option Value} {h' : zH} {a0 : Nat} {x1 : Int32} {x2 : Int32} {x3 : Int32} {x4 : Int32} {x5 : Int32} {x6 : Int32} (H : ((x5 ≤ x6) → Zt none mX12_goesOn 0 0 89 [(0, .ref a0), (1, .int x1), (2, .int x2), (3, .int x3), (4, .int x4), (5, .int x5)] [] (g, I, P) r h') ∧ ((¬ x5 ≤ x6) → zk g a0 12 ∧ ∃ (w3 : Int32), Cl mX12_longOf [.ref a0, .int x2] (g, I, P) (some (.int w3)) (g, I, P) ∧ ((w3 ≤ x6) → Zt none mX12_goesOn 0 0 89 [(0, .ref a0), (1, .int x1), (2, .int x2), (3, .int x3), (4, .int x4), (5, .int x5)] [] (g, I, P) r h') ∧ ((¬ w3 ≤ x6) → zk g a0 12 ∧ ∃ (w8 : Int32), Cl mX12_letterOf [.ref a0, .int x3, .int (x4 + x6)] (g, I, P) (some (.int w8)) (g, I, P) ∧ zk g a0 12 ∧ ∃ (w11 : Int32), Cl mX12_letterOf [.ref a0, .int x2, .int x6] (g, I, P) (some (.int w11)) (g, I, P) ∧ ((w8 = w11) → Zt none mX12_goesOn 0 0 44 [(0, .ref a0), (1, .int x1), (2, .int x2), (3, .int x3), (4, .int x4), (5, .int x5), (6, .int (x6 + 1))] [] (g, I, P) r h') ∧ ((¬ w8 = w11) → r = some (.int 0) ∧ h' = (g, I, P))))) : Zt none mX12_goesOn 0 0 44 [(0, .ref a0), (1, .int x1), (2, .int x2), (3, .int x3), (4, .int x4), (5, .int x5), (6, .int x6)] [] (g, I, P) r h' := by
  refine z_iload 6 dX12_goesOn_44 rfl (z_iload 5 dX12_goesOn_46 rfl ?_)
  refine z_icmp_ge (t := 89) dX12_goesOn_48 (by decide) (fun q => ?_) (fun q => ?_)
  · have H1 := H.1 q
    exact z_less [0, 1, 2, 3, 4, 5] rfl H1
  · have H2 := H.2 q
    refine z_iload 6 dX12_goesOn_51 rfl (z_aload_n 0 dX12_goesOn_53 rfl rfl (z_iload_n 2 dX12_goesOn_54 rfl ?_))
    obtain ⟨oc4, w3, c4, H5⟩ := H2
    refine z_virt (As := [.int x2]) (st := [.int x6]) (r1 := (some (.int w3))) (h1 := (g, I, P)) dX12_goesOn_55 kX12_longOf wm_X12_205 ⟨by decide, by decide⟩ rfl rfl (Nat.le_of_ble_eq_true rfl) (by decide) (by decide) oc4 c4 ?_
    refine z_icmp_ge (t := 89) dX12_goesOn_58 (by decide) (fun q => ?_) (fun q => ?_)
    · have H6 := H5.1 q
      exact z_less [0, 1, 2, 3, 4, 5] rfl H6
    · have H7 := H5.2 q
      refine z_aload_n 0 dX12_goesOn_61 rfl rfl (z_iload_n 3 dX12_goesOn_62 rfl (z_iload 4 dX12_goesOn_63 rfl (z_iload 6 dX12_goesOn_65 rfl (z_iadd dX12_goesOn_67 ?_))))
      obtain ⟨oc9, w8, c9, H10⟩ := H7
      refine z_virt (As := [.int x3, .int (x4 + x6)]) (st := []) (r1 := (some (.int w8))) (h1 := (g, I, P)) dX12_goesOn_68 kX12_letterOf wm_X12_214 ⟨by decide, by decide⟩ rfl rfl (Nat.le_of_ble_eq_true rfl) (by decide) (by decide) oc9 c9 ?_
      refine z_aload_n 0 dX12_goesOn_71 rfl rfl (z_iload_n 2 dX12_goesOn_72 rfl (z_iload 6 dX12_goesOn_73 rfl ?_))
      obtain ⟨oc12, w11, c12, H13⟩ := H10
      refine z_virt (As := [.int x2, .int x6]) (st := [.int w8]) (r1 := (some (.int w11))) (h1 := (g, I, P)) dX12_goesOn_75 kX12_letterOf wm_X12_214 ⟨by decide, by decide⟩ rfl rfl (Nat.le_of_ble_eq_true rfl) (by decide) (by decide) oc12 c12 ?_
      refine z_icmp_eq (t := 83) dX12_goesOn_78 (by decide) (fun q => ?_) (fun q => ?_)
      · have H14 := H13.1 q
        refine z_iinc (y := x6 + 1) (lv' := [(6, .int (x6 + 1)), (0, .ref a0), (1, .int x1), (2, .int x2), (3, .int x3), (4, .int x4), (5, .int x5)]) 6 dX12_goesOn_83 rfl rfl (by decide) rfl (z_goto (t := 44) dX12_goesOn_86 (by decide) ?_)
        exact z_less [1, 2, 3, 4, 5, 6, 0] rfl H14
      · have H15 := H13.2 q
        refine z_iconst (w := 0) dX12_goesOn_81 (by decide) ?_
        obtain ⟨rfl, rfl⟩ := H15
        exact z_zret dX12_goesOn_82 rfl (Or.inl rfl) (by decide) (by decide)
set_option maxRecDepth 10000 in
theorem wX12_goesOn_89 {g : zG} {I : Nat → Nat → Int32} {P : Nat → Nat → Option Nat} {r : Option Value} {h' : zH} {a0 : Nat} {x1 : Int32} {x2 : Int32} {x3 : Int32} {x4 : Int32} {x5 : Int32} (H : zk g a0 12 ∧ ∃ (w1 : Int32), Cl mX12_longOf [.ref a0, .int x2] (g, I, P) (some (.int w1)) (g, I, P) ∧ ((¬ w1 = x5) → zk g a0 12 ∧ ∃ (w5 : Int32), Cl mX12_longOf [.ref a0, .int x2] (g, I, P) (some (.int w5)) (g, I, P) ∧ ((x5 ≤ w5) → Zt none mX12_goesOn 0 0 174 [(0, .ref a0), (1, .int x1), (2, .int x2), (5, .int x5)] [.int (((60 * x2) + (10 * x5)) + x3)] (g, I, P) r h') ∧ ((¬ x5 ≤ w5) → zk g a0 12 ∧ ∃ (w10 : Int32), Cl mX12_longOf [.ref a0, .int x2] (g, I, P) (some (.int w10)) (g, I, P) ∧ Zt none mX12_goesOn 0 0 174 [(0, .ref a0), (1, .int x1), (2, .int x2), (5, .int x5)] [.int (((60 * x3) + (10 * (x4 + w10))) + x2)] (g, I, P) r h')) ∧ ((w1 = x5) → zk g a0 12 ∧ ∃ b14, P a0 35 = some b14 ∧ zk g b14 13 ∧ vp_in x1 (g.2.2 b14) ∧ zk g a0 12 ∧ ((I a0 36 ≤ I b14 x1.toNatClampNeg) → zk g a0 12 ∧ zk g a0 12 ∧ r = some (.int 0) ∧ h' = (g, zU I a0 36 (I a0 36), P)) ∧ ((¬ I a0 36 ≤ I b14 x1.toNatClampNeg) → zk g a0 12 ∧ ∃ b19, P a0 35 = some b19 ∧ zk g b19 13 ∧ vp_in x1 (g.2.2 b19) ∧ zk g a0 12 ∧ r = some (.int 0) ∧ h' = (g, zU I a0 36 (I b19 x1.toNatClampNeg), P)))) : Zt none mX12_goesOn 0 0 89 [(0, .ref a0), (1, .int x1), (2, .int x2), (3, .int x3), (4, .int x4), (5, .int x5)] [] (g, I, P) r h' := by
  refine z_aload_n 0 dX12_goesOn_89 rfl rfl (z_iload_n 2 dX12_goesOn_90 rfl ?_)
  obtain ⟨oc2, w1, c2, H3⟩ := H
  refine z_virt (As := [.int x2]) (st := []) (r1 := (some (.int w1))) (h1 := (g, I, P)) dX12_goesOn_91 kX12_longOf wm_X12_205 ⟨by decide, by decide⟩ rfl rfl (Nat.le_of_ble_eq_true rfl) (by decide) (by decide) oc2 c2 ?_
  refine z_iload 5 dX12_goesOn_94 rfl ?_
  refine z_icmp_ne (t := 131) dX12_goesOn_96 (by decide) (fun q => ?_) (fun q => ?_)
  · have H4 := H3.1 q
    refine z_aload_n 0 dX12_goesOn_131 rfl rfl (z_iload_n 2 dX12_goesOn_132 rfl ?_)
    obtain ⟨oc6, w5, c6, H7⟩ := H4
    refine z_virt (As := [.int x2]) (st := []) (r1 := (some (.int w5))) (h1 := (g, I, P)) dX12_goesOn_133 kX12_longOf wm_X12_205 ⟨by decide, by decide⟩ rfl rfl (Nat.le_of_ble_eq_true rfl) (by decide) (by decide) oc6 c6 ?_
    refine z_iload 5 dX12_goesOn_136 rfl ?_
    refine z_icmp_ge (t := 162) dX12_goesOn_138 (by decide) (fun q => ?_) (fun q => ?_)
    · have H8 := H7.1 q
      refine z_bipush (w := 60) dX12_goesOn_162 (by decide) (z_iload_n 2 dX12_goesOn_164 rfl (z_imul dX12_goesOn_165 (z_bipush (w := 10) dX12_goesOn_166 (by decide) (z_iload 5 dX12_goesOn_168 rfl (z_imul dX12_goesOn_170 (z_iadd dX12_goesOn_171 (z_iload_n 3 dX12_goesOn_172 rfl (z_iadd dX12_goesOn_173 ?_))))))))
      exact z_less [0, 1, 2, 5] rfl H8
    · have H9 := H7.2 q
      refine z_bipush (w := 60) dX12_goesOn_141 (by decide) (z_iload_n 3 dX12_goesOn_143 rfl (z_imul dX12_goesOn_144 (z_bipush (w := 10) dX12_goesOn_145 (by decide) (z_iload 4 dX12_goesOn_147 rfl (z_aload_n 0 dX12_goesOn_149 rfl rfl (z_iload_n 2 dX12_goesOn_150 rfl ?_))))))
      obtain ⟨oc11, w10, c11, H12⟩ := H9
      refine z_virt (As := [.int x2]) (st := [.int x4, .int 10, .int (60 * x3)]) (r1 := (some (.int w10))) (h1 := (g, I, P)) dX12_goesOn_151 kX12_longOf wm_X12_205 ⟨by decide, by decide⟩ rfl rfl (Nat.le_of_ble_eq_true rfl) (by decide) (by decide) oc11 c11 ?_
      refine z_iadd dX12_goesOn_154 (z_imul dX12_goesOn_155 (z_iadd dX12_goesOn_156 (z_iload_n 2 dX12_goesOn_157 rfl (z_iadd dX12_goesOn_158 (z_goto (t := 174) dX12_goesOn_159 (by decide) ?_)))))
      exact z_less [0, 1, 2, 5] rfl H12
  · have H13 := H3.2 q
    refine z_aload_n 0 dX12_goesOn_99 rfl rfl (z_aload_n 0 dX12_goesOn_100 rfl rfl ?_)
    obtain ⟨oe16, b14, e16, H15⟩ := H13
    refine z_getP dX12_goesOn_101 wf_X12_59 (by decide) (by decide) rfl oe16 (fun q => (by cases q.symm.trans e16)) (fun j q => ?_)
    cases q.symm.trans e16
    refine z_iload_n 1 dX12_goesOn_104 rfl (z_iald dX12_goesOn_105 H15.1 H15.2.1 (z_aload_n 0 dX12_goesOn_106 rfl rfl (z_getI dX12_goesOn_107 wf_X12_343 (by decide) (by decide) rfl H15.2.2.1 ?_)))
    refine z_icmp_ge (t := 122) dX12_goesOn_110 (by decide) (fun q => ?_) (fun q => ?_)
    · have H17 := H15.2.2.2.1 q
      refine z_aload_n 0 dX12_goesOn_122 rfl rfl (z_getI dX12_goesOn_123 wf_X12_343 (by decide) (by decide) rfl H17.1 (z_putI (g := g) (I := I) (Q := P) dX12_goesOn_126 wf_X12_343 (by decide) (by decide) rfl (Or.inl rfl) (zfit_int rfl) H17.2.1 (z_iconst (w := 0) dX12_goesOn_129 (by decide) ?_)))
      obtain ⟨rfl, rfl⟩ := H17.2.2
      exact z_zret dX12_goesOn_130 rfl (Or.inl rfl) (by decide) (by decide)
    · have H18 := H15.2.2.2.2 q
      refine z_aload_n 0 dX12_goesOn_113 rfl rfl ?_
      obtain ⟨oe21, b19, e21, H20⟩ := H18
      refine z_getP dX12_goesOn_114 wf_X12_59 (by decide) (by decide) rfl oe21 (fun q => (by cases q.symm.trans e21)) (fun j q => ?_)
      cases q.symm.trans e21
      refine z_iload_n 1 dX12_goesOn_117 rfl (z_iald dX12_goesOn_118 H20.1 H20.2.1 (z_goto (t := 126) dX12_goesOn_119 (by decide) (z_putI (g := g) (I := I) (Q := P) dX12_goesOn_126 wf_X12_343 (by decide) (by decide) rfl (Or.inl rfl) (zfit_int rfl) H20.2.2.1 (z_iconst (w := 0) dX12_goesOn_129 (by decide) ?_))))
      obtain ⟨rfl, rfl⟩ := H20.2.2.2
      exact z_zret dX12_goesOn_130 rfl (Or.inl rfl) (by decide) (by decide)
set_option maxRecDepth 10000 in
theorem wX12_goesOn_174 {g : zG} {I : Nat → Nat → Int32} {P : Nat → Nat → Option Nat} {r : Option Value} {h' : zH} {a0 : Nat} {x1 : Int32} {x2 : Int32} {x5 : Int32} {xs0 : Int32} (H : zk g a0 12 ∧ ∃ (w1 : Int32), Cl mX12_longOf [.ref a0, .int x2] (g, I, P) (some (.int w1)) (g, I, P) ∧ ((x5 ≤ w1) → zk g a0 12 ∧ ∃ b5, P a0 35 = some b5 ∧ zk g b5 13 ∧ vp_in x1 (g.2.2 b5) ∧ zk g a0 12 ∧ ∃ (w8 : Int32), Cl mX12_longOf [.ref a0, .int x2] (g, I, P) (some (.int w8)) (g, I, P) ∧ Zt none mX12_goesOn 0 0 210 [(0, .ref a0), (6, .int xs0)] [.int (((I b5 x1.toNatClampNeg) + w8) - x5)] (g, I, P) r h') ∧ ((¬ x5 ≤ w1) → zk g a0 12 ∧ ∃ b12, P a0 35 = some b12 ∧ zk g b12 13 ∧ vp_in x1 (g.2.2 b12) ∧ Zt none mX12_goesOn 0 0 210 [(0, .ref a0), (6, .int xs0)] [.int (I b12 x1.toNatClampNeg)] (g, I, P) r h')) : Zt none mX12_goesOn 0 0 174 [(0, .ref a0), (1, .int x1), (2, .int x2), (5, .int x5)] [.int xs0] (g, I, P) r h' := by
  refine z_istore (lv' := [(6, .int xs0), (0, .ref a0), (1, .int x1), (2, .int x2), (5, .int x5)]) dX12_goesOn_174 (by decide) rfl (z_aload_n 1 dX12_goesOn_176 rfl rfl (z_iload_n 3 dX12_goesOn_177 rfl ?_))
  obtain ⟨oc2, w1, c2, H3⟩ := H
  refine z_virt (As := [.int x2]) (st := []) (r1 := (some (.int w1))) (h1 := (g, I, P)) dX12_goesOn_178 kX12_longOf wm_X12_205 ⟨by decide, by decide⟩ rfl rfl (Nat.le_of_ble_eq_true rfl) (by decide) (by decide) oc2 c2 ?_
  refine z_iload 4 dX12_goesOn_181 rfl ?_
  refine z_icmp_ge (t := 195) dX12_goesOn_183 (by decide) (fun q => ?_) (fun q => ?_)
  · have H4 := H3.1 q
    refine z_aload_n 1 dX12_goesOn_195 rfl rfl ?_
    obtain ⟨oe7, b5, e7, H6⟩ := H4
    refine z_getP dX12_goesOn_196 wf_X12_59 (by decide) (by decide) rfl oe7 (fun q => (by cases q.symm.trans e7)) (fun j q => ?_)
    cases q.symm.trans e7
    refine z_iload_n 2 dX12_goesOn_199 rfl (z_iald dX12_goesOn_200 H6.1 H6.2.1 (z_aload_n 1 dX12_goesOn_201 rfl rfl (z_iload_n 3 dX12_goesOn_202 rfl ?_)))
    obtain ⟨oc9, w8, c9, H10⟩ := H6.2.2
    refine z_virt (As := [.int x2]) (st := [.int (I b5 x1.toNatClampNeg)]) (r1 := (some (.int w8))) (h1 := (g, I, P)) dX12_goesOn_203 kX12_longOf wm_X12_205 ⟨by decide, by decide⟩ rfl rfl (Nat.le_of_ble_eq_true rfl) (by decide) (by decide) oc9 c9 ?_
    refine z_iadd dX12_goesOn_206 (z_iload 4 dX12_goesOn_207 rfl (z_isub dX12_goesOn_209 ?_))
    exact z_less [1, 0] rfl H10
  · have H11 := H3.2 q
    refine z_aload_n 1 dX12_goesOn_186 rfl rfl ?_
    obtain ⟨oe14, b12, e14, H13⟩ := H11
    refine z_getP dX12_goesOn_187 wf_X12_59 (by decide) (by decide) rfl oe14 (fun q => (by cases q.symm.trans e14)) (fun j q => ?_)
    cases q.symm.trans e14
    refine z_iload_n 2 dX12_goesOn_190 rfl (z_iald dX12_goesOn_191 H13.1 H13.2.1 (z_goto (t := 210) dX12_goesOn_192 (by decide) ?_))
    exact z_less [1, 0] rfl H13.2.2
set_option maxRecDepth 10000 in
theorem wX12_goesOn_210 {g : zG} {I : Nat → Nat → Int32} {P : Nat → Nat → Option Nat} {r : Option Value} {h' : zH} {a0 : Nat} {x6 : Int32} {xs0 : Int32} (H : zk g a0 12 ∧ ∃ b1, P a0 35 = some b1 ∧ zk g b1 13 ∧ vp_in x6 (g.2.2 b1) ∧ ((I b1 x6.toNatClampNeg ≤ xs0) → r = some (.int 0) ∧ h' = (g, I, P)) ∧ ((¬ I b1 x6.toNatClampNeg ≤ xs0) → ((xs0 ≤ 24) → zk g a0 12 ∧ ∃ b7, P a0 35 = some b7 ∧ zk g b7 13 ∧ vp_in x6 (g.2.2 b7) ∧ r = some (.int 1) ∧ h' = (g, zU I b7 x6.toNatClampNeg xs0, P)) ∧ ((¬ xs0 ≤ 24) → r = some (.int 0) ∧ h' = (g, I, P)))) : Zt none mX12_goesOn 0 0 210 [(0, .ref a0), (6, .int x6)] [.int xs0] (g, I, P) r h' := by
  refine z_istore (lv' := [(7, .int xs0), (0, .ref a0), (6, .int x6)]) dX12_goesOn_210 (by decide) rfl (z_iload 0 dX12_goesOn_212 rfl (z_aload_n 1 dX12_goesOn_214 rfl rfl ?_))
  obtain ⟨oe3, b1, e3, H2⟩ := H
  refine z_getP dX12_goesOn_215 wf_X12_59 (by decide) (by decide) rfl oe3 (fun q => (by cases q.symm.trans e3)) (fun j q => ?_)
  cases q.symm.trans e3
  refine z_iload 2 dX12_goesOn_218 rfl (z_iald dX12_goesOn_220 H2.1 H2.2.1 ?_)
  refine z_icmp_ge (t := 231) dX12_goesOn_221 (by decide) (fun q => ?_) (fun q => ?_)
  · have H4 := H2.2.2.1 q
    refine z_iconst (w := 0) dX12_goesOn_231 (by decide) ?_
    obtain ⟨rfl, rfl⟩ := H4
    exact z_zret dX12_goesOn_232 rfl (Or.inl rfl) (by decide) (by decide)
  · have H5 := H2.2.2.2 q
    refine z_iload 0 dX12_goesOn_224 rfl (z_bipush (w := 24) dX12_goesOn_226 (by decide) ?_)
    refine z_icmp_le (t := 233) dX12_goesOn_228 (by decide) (fun q => ?_) (fun q => ?_)
    · have H6 := H5.1 q
      refine z_aload_n 1 dX12_goesOn_233 rfl rfl ?_
      obtain ⟨oe9, b7, e9, H8⟩ := H6
      refine z_getP dX12_goesOn_234 wf_X12_59 (by decide) (by decide) rfl oe9 (fun q => (by cases q.symm.trans e9)) (fun j q => ?_)
      cases q.symm.trans e9
      refine z_iload 2 dX12_goesOn_237 rfl (z_iload 0 dX12_goesOn_239 rfl (z_iast (g := g) (I := I) (Q := P) dX12_goesOn_241 H8.1 H8.2.1 (z_iconst (w := 1) dX12_goesOn_242 (by decide) ?_)))
      obtain ⟨rfl, rfl⟩ := H8.2.2
      exact z_zret dX12_goesOn_243 rfl (Or.inr rfl) (by decide) (by decide)
    · have H10 := H5.2 q
      refine z_iconst (w := 0) dX12_goesOn_231 (by decide) ?_
      obtain ⟨rfl, rfl⟩ := H10
      exact z_zret dX12_goesOn_232 rfl (Or.inl rfl) (by decide) (by decide)
theorem dX12_twice_0 : decode cX12_twice 0 = .ok (.aload_n 0, 1) := by decide +kernel
theorem dX12_twice_1 : decode cX12_twice 1 = .ok (.iload_n 1, 1) := by decide +kernel
theorem dX12_twice_2 : decode cX12_twice 2 = .ok (.invokevirtual 196, 3) := by decide +kernel
theorem dX12_twice_5 : decode cX12_twice 5 = .ok (.ifCond .ne 5, 3) := by decide +kernel
theorem dX12_twice_8 : decode cX12_twice 8 = .ok (.iconst (-1), 1) := by decide +kernel
theorem dX12_twice_9 : decode cX12_twice 9 = .ok (.ireturn, 1) := by decide +kernel
theorem dX12_twice_10 : decode cX12_twice 10 = .ok (.aload_n 0, 1) := by decide +kernel
theorem dX12_twice_11 : decode cX12_twice 11 = .ok (.sipush 9999, 3) := by decide +kernel
theorem dX12_twice_14 : decode cX12_twice 14 = .ok (.putfield 343, 3) := by decide +kernel
theorem dX12_twice_17 : decode cX12_twice 17 = .ok (.iconst 0, 1) := by decide +kernel
theorem dX12_twice_18 : decode cX12_twice 18 = .ok (.istore_n 2, 1) := by decide +kernel
theorem dX12_twice_19 : decode cX12_twice 19 = .ok (.iload_n 2, 1) := by decide +kernel
theorem dX12_twice_20 : decode cX12_twice 20 = .ok (.sipush 600, 3) := by decide +kernel
theorem dX12_twice_23 : decode cX12_twice 23 = .ok (.if_icmp .ge 18, 3) := by decide +kernel
theorem dX12_twice_26 : decode cX12_twice 26 = .ok (.aload_n 0, 1) := by decide +kernel
theorem dX12_twice_27 : decode cX12_twice 27 = .ok (.getfield 59, 3) := by decide +kernel
theorem dX12_twice_30 : decode cX12_twice 30 = .ok (.iload_n 2, 1) := by decide +kernel
theorem dX12_twice_31 : decode cX12_twice 31 = .ok (.sipush 9999, 3) := by decide +kernel
theorem dX12_twice_34 : decode cX12_twice 34 = .ok (.iastore, 1) := by decide +kernel
theorem dX12_twice_35 : decode cX12_twice 35 = .ok (.iinc 2 1, 3) := by decide +kernel
theorem dX12_twice_38 : decode cX12_twice 38 = .ok (.goto (-19), 3) := by decide +kernel
theorem dX12_twice_41 : decode cX12_twice 41 = .ok (.iconst 0, 1) := by decide +kernel
theorem dX12_twice_42 : decode cX12_twice 42 = .ok (.istore_n 2, 1) := by decide +kernel
theorem dX12_twice_43 : decode cX12_twice 43 = .ok (.iload_n 2, 1) := by decide +kernel
theorem dX12_twice_44 : decode cX12_twice 44 = .ok (.aload_n 0, 1) := by decide +kernel
theorem dX12_twice_45 : decode cX12_twice 45 = .ok (.getfield 190, 3) := by decide +kernel
theorem dX12_twice_48 : decode cX12_twice 48 = .ok (.if_icmp .ge 59, 3) := by decide +kernel
theorem dX12_twice_51 : decode cX12_twice 51 = .ok (.iconst 0, 1) := by decide +kernel
theorem dX12_twice_52 : decode cX12_twice 52 = .ok (.istore_n 3, 1) := by decide +kernel
theorem dX12_twice_53 : decode cX12_twice 53 = .ok (.iload_n 3, 1) := by decide +kernel
theorem dX12_twice_54 : decode cX12_twice 54 = .ok (.aload_n 0, 1) := by decide +kernel
theorem dX12_twice_55 : decode cX12_twice 55 = .ok (.getfield 190, 3) := by decide +kernel
theorem dX12_twice_58 : decode cX12_twice 58 = .ok (.if_icmp .ge 43, 3) := by decide +kernel
theorem dX12_twice_61 : decode cX12_twice 61 = .ok (.aload_n 0, 1) := by decide +kernel
theorem dX12_twice_62 : decode cX12_twice 62 = .ok (.iload_n 3, 1) := by decide +kernel
theorem dX12_twice_63 : decode cX12_twice 63 = .ok (.iload_n 2, 1) := by decide +kernel
theorem dX12_twice_64 : decode cX12_twice 64 = .ok (.invokevirtual 325, 3) := by decide +kernel
theorem dX12_twice_67 : decode cX12_twice 67 = .ok (.ifCond .eq 28, 3) := by decide +kernel
theorem dX12_twice_70 : decode cX12_twice 70 = .ok (.aload_n 0, 1) := by decide +kernel
theorem dX12_twice_71 : decode cX12_twice 71 = .ok (.getfield 59, 3) := by decide +kernel
theorem dX12_twice_74 : decode cX12_twice 74 = .ok (.bipush 60, 2) := by decide +kernel
theorem dX12_twice_76 : decode cX12_twice 76 = .ok (.iload_n 2, 1) := by decide +kernel
theorem dX12_twice_77 : decode cX12_twice 77 = .ok (.imul, 1) := by decide +kernel
theorem dX12_twice_78 : decode cX12_twice 78 = .ok (.bipush 10, 2) := by decide +kernel
theorem dX12_twice_80 : decode cX12_twice 80 = .ok (.aload_n 0, 1) := by decide +kernel
theorem dX12_twice_81 : decode cX12_twice 81 = .ok (.iload_n 3, 1) := by decide +kernel
theorem dX12_twice_82 : decode cX12_twice 82 = .ok (.invokevirtual 205, 3) := by decide +kernel
theorem dX12_twice_85 : decode cX12_twice 85 = .ok (.imul, 1) := by decide +kernel
theorem dX12_twice_86 : decode cX12_twice 86 = .ok (.iadd, 1) := by decide +kernel
theorem dX12_twice_87 : decode cX12_twice 87 = .ok (.iload_n 3, 1) := by decide +kernel
theorem dX12_twice_88 : decode cX12_twice 88 = .ok (.iadd, 1) := by decide +kernel
theorem dX12_twice_89 : decode cX12_twice 89 = .ok (.aload_n 0, 1) := by decide +kernel
theorem dX12_twice_90 : decode cX12_twice 90 = .ok (.iload_n 2, 1) := by decide +kernel
theorem dX12_twice_91 : decode cX12_twice 91 = .ok (.invokevirtual 205, 3) := by decide +kernel
theorem dX12_twice_94 : decode cX12_twice 94 = .ok (.iastore, 1) := by decide +kernel
theorem dX12_twice_95 : decode cX12_twice 95 = .ok (.iinc 3 1, 3) := by decide +kernel
theorem dX12_twice_98 : decode cX12_twice 98 = .ok (.goto (-45), 3) := by decide +kernel
theorem dX12_twice_101 : decode cX12_twice 101 = .ok (.iinc 2 1, 3) := by decide +kernel
theorem dX12_twice_104 : decode cX12_twice 104 = .ok (.goto (-61), 3) := by decide +kernel
theorem dX12_twice_107 : decode cX12_twice 107 = .ok (.iconst 1, 1) := by decide +kernel
theorem dX12_twice_108 : decode cX12_twice 108 = .ok (.istore_n 2, 1) := by decide +kernel
theorem dX12_twice_109 : decode cX12_twice 109 = .ok (.iload_n 2, 1) := by decide +kernel
theorem dX12_twice_110 : decode cX12_twice 110 = .ok (.ifCond .eq 76, 3) := by decide +kernel
theorem dX12_twice_113 : decode cX12_twice 113 = .ok (.iconst 0, 1) := by decide +kernel
theorem dX12_twice_114 : decode cX12_twice 114 = .ok (.istore_n 2, 1) := by decide +kernel
theorem dX12_twice_115 : decode cX12_twice 115 = .ok (.iconst 0, 1) := by decide +kernel
theorem dX12_twice_116 : decode cX12_twice 116 = .ok (.istore_n 3, 1) := by decide +kernel
theorem dX12_twice_117 : decode cX12_twice 117 = .ok (.iload_n 3, 1) := by decide +kernel
theorem dX12_twice_118 : decode cX12_twice 118 = .ok (.sipush 600, 3) := by decide +kernel
theorem dX12_twice_121 : decode cX12_twice 121 = .ok (.if_icmp .ge 62, 3) := by decide +kernel
theorem dX12_twice_124 : decode cX12_twice 124 = .ok (.aload_n 0, 1) := by decide +kernel
theorem dX12_twice_125 : decode cX12_twice 125 = .ok (.getfield 59, 3) := by decide +kernel
theorem dX12_twice_128 : decode cX12_twice 128 = .ok (.iload_n 3, 1) := by decide +kernel
theorem dX12_twice_129 : decode cX12_twice 129 = .ok (.iaload, 1) := by decide +kernel
theorem dX12_twice_130 : decode cX12_twice 130 = .ok (.sipush 9999, 3) := by decide +kernel
theorem dX12_twice_133 : decode cX12_twice 133 = .ok (.if_icmp .ne 6, 3) := by decide +kernel
theorem dX12_twice_136 : decode cX12_twice 136 = .ok (.goto 41, 3) := by decide +kernel
theorem dX12_twice_139 : decode cX12_twice 139 = .ok (.iconst 0, 1) := by decide +kernel
theorem dX12_twice_140 : decode cX12_twice 140 = .ok (.istore 4, 2) := by decide +kernel
theorem dX12_twice_142 : decode cX12_twice 142 = .ok (.iload 4, 2) := by decide +kernel
theorem dX12_twice_144 : decode cX12_twice 144 = .ok (.aload_n 0, 1) := by decide +kernel
theorem dX12_twice_145 : decode cX12_twice 145 = .ok (.getfield 190, 3) := by decide +kernel
theorem dX12_twice_148 : decode cX12_twice 148 = .ok (.if_icmp .ge 29, 3) := by decide +kernel
theorem dX12_twice_151 : decode cX12_twice 151 = .ok (.aload_n 0, 1) := by decide +kernel
theorem dX12_twice_152 : decode cX12_twice 152 = .ok (.iload_n 3, 1) := by decide +kernel
theorem dX12_twice_153 : decode cX12_twice 153 = .ok (.iload 4, 2) := by decide +kernel
theorem dX12_twice_155 : decode cX12_twice 155 = .ok (.invokevirtual 346, 3) := by decide +kernel
theorem dX12_twice_158 : decode cX12_twice 158 = .ok (.ifCond .ne 7, 3) := by decide +kernel
theorem dX12_twice_161 : decode cX12_twice 161 = .ok (.iload_n 2, 1) := by decide +kernel
theorem dX12_twice_162 : decode cX12_twice 162 = .ok (.ifCond .eq 7, 3) := by decide +kernel
theorem dX12_twice_165 : decode cX12_twice 165 = .ok (.iconst 1, 1) := by decide +kernel
theorem dX12_twice_166 : decode cX12_twice 166 = .ok (.goto 4, 3) := by decide +kernel
theorem dX12_twice_169 : decode cX12_twice 169 = .ok (.iconst 0, 1) := by decide +kernel
theorem dX12_twice_170 : decode cX12_twice 170 = .ok (.istore_n 2, 1) := by decide +kernel
theorem dX12_twice_171 : decode cX12_twice 171 = .ok (.iinc 4 1, 3) := by decide +kernel
theorem dX12_twice_174 : decode cX12_twice 174 = .ok (.goto (-32), 3) := by decide +kernel
theorem dX12_twice_177 : decode cX12_twice 177 = .ok (.iinc 3 1, 3) := by decide +kernel
theorem dX12_twice_180 : decode cX12_twice 180 = .ok (.goto (-63), 3) := by decide +kernel
theorem dX12_twice_183 : decode cX12_twice 183 = .ok (.goto (-74), 3) := by decide +kernel
theorem dX12_twice_186 : decode cX12_twice 186 = .ok (.aload_n 0, 1) := by decide +kernel
theorem dX12_twice_187 : decode cX12_twice 187 = .ok (.getfield 343, 3) := by decide +kernel
theorem dX12_twice_190 : decode cX12_twice 190 = .ok (.bipush 24, 2) := by decide +kernel
theorem dX12_twice_192 : decode cX12_twice 192 = .ok (.if_icmp .le 7, 3) := by decide +kernel
theorem dX12_twice_195 : decode cX12_twice 195 = .ok (.iconst (-1), 1) := by decide +kernel
theorem dX12_twice_196 : decode cX12_twice 196 = .ok (.goto 7, 3) := by decide +kernel
theorem dX12_twice_199 : decode cX12_twice 199 = .ok (.aload_n 0, 1) := by decide +kernel
theorem dX12_twice_200 : decode cX12_twice 200 = .ok (.getfield 343, 3) := by decide +kernel
theorem dX12_twice_203 : decode cX12_twice 203 = .ok (.ireturn, 1) := by decide +kernel
set_option maxRecDepth 10000 in
theorem wX12_twice_0 {g : zG} {I : Nat → Nat → Int32} {P : Nat → Nat → Option Nat} {r : Option Value} {h' : zH} {a0 : Nat} {x1 : Int32} (H : zk g a0 12 ∧ ∃ (w1 : Int32) (I2 : Nat → Nat → Int32), Cl mX12_isHill [.ref a0, .int x1] (g, I, P) (some (.int w1)) (g, I2, P) ∧ ((¬ w1 = 0) → zk g a0 12 ∧ Zt none mX12_twice 0 0 19 [(0, .ref a0), (2, .int 0)] [] (g, zU I2 a0 36 9999, P) r h') ∧ ((w1 = 0) → r = some (.int (-1)) ∧ h' = (g, I2, P))) : Zt none mX12_twice 0 0 0 [(0, .ref a0), (1, .int x1)] [] (g, I, P) r h' := by
  refine z_aload_n 0 dX12_twice_0 rfl rfl (z_iload_n 1 dX12_twice_1 rfl ?_)
  obtain ⟨oc3, w1, I2, c3, H4⟩ := H
  refine z_virt (As := [.int x1]) (st := []) (r1 := (some (.int w1))) (h1 := (g, I2, P)) dX12_twice_2 kX12_isHill wm_X12_196 ⟨by decide, by decide⟩ rfl rfl (Nat.le_of_ble_eq_true rfl) (by decide) (by decide) oc3 c3 ?_
  refine z_if_ne (t := 10) dX12_twice_5 (by decide) (fun q => ?_) (fun q => ?_)
  · have H5 := H4.1 q
    refine z_aload_n 0 dX12_twice_10 rfl rfl (z_sipush (w := 9999) dX12_twice_11 (by decide) (z_putI (g := g) (I := I2) (Q := P) dX12_twice_14 wf_X12_343 (by decide) (by decide) rfl (Or.inl rfl) (zfit_int rfl) H5.1 (z_iconst (w := 0) dX12_twice_17 (by decide) (z_istore_n (lv' := [(2, .int 0), (0, .ref a0), (1, .int x1)]) dX12_twice_18 (by decide) rfl ?_))))
    exact z_less [1, 0] rfl H5.2
  · have H6 := H4.2 q
    refine z_iconst (w := (-1)) dX12_twice_8 (by decide) ?_
    obtain ⟨rfl, rfl⟩ := H6
    exact z_iret dX12_twice_9 rfl (by decide) (by decide)
theorem eX12_twice {g : zG} {I : Nat → Nat → Int32} {P : Nat → Nat → Option Nat} {r : Option Value} {h' : zH} {a0 : Nat} {x1 : Int32} (H : Zt none mX12_twice 0 0 0 [(0, .ref a0), (1, .int x1)] [] (g, I, P) r h') : Cl mX12_twice [.ref a0, .int x1] (g, I, P) r h' := Cl.of (by decide) (Nat.le_of_ble_eq_true rfl) H
set_option maxRecDepth 10000 in
theorem wX12_twice_19 {g : zG} {I : Nat → Nat → Int32} {P : Nat → Nat → Option Nat} {r : Option Value} {h' : zH} {a0 : Nat} {x2 : Int32} (H : ((600 ≤ x2) → Zt none mX12_twice 0 0 43 [(0, .ref a0), (2, .int 0)] [] (g, I, P) r h') ∧ ((¬ 600 ≤ x2) → zk g a0 12 ∧ ∃ b3, P a0 35 = some b3 ∧ zk g b3 13 ∧ vp_in x2 (g.2.2 b3) ∧ Zt none mX12_twice 0 0 19 [(0, .ref a0), (2, .int (x2 + 1))] [] (g, zU I b3 x2.toNatClampNeg 9999, P) r h')) : Zt none mX12_twice 0 0 19 [(0, .ref a0), (2, .int x2)] [] (g, I, P) r h' := by
  refine z_iload_n 1 dX12_twice_19 rfl (z_sipush (w := 600) dX12_twice_20 (by decide) ?_)
  refine z_icmp_ge (t := 41) dX12_twice_23 (by decide) (fun q => ?_) (fun q => ?_)
  · have H1 := H.1 q
    refine z_iconst (w := 0) dX12_twice_41 (by decide) (z_istore_n (lv' := [(2, .int 0), (0, .ref a0)]) dX12_twice_42 (by decide) rfl ?_)
    exact z_less [1, 0] rfl H1
  · have H2 := H.2 q
    refine z_aload_n 0 dX12_twice_26 rfl rfl ?_
    obtain ⟨oe5, b3, e5, H4⟩ := H2
    refine z_getP dX12_twice_27 wf_X12_59 (by decide) (by decide) rfl oe5 (fun q => (by cases q.symm.trans e5)) (fun j q => ?_)
    cases q.symm.trans e5
    refine z_iload_n 1 dX12_twice_30 rfl (z_sipush (w := 9999) dX12_twice_31 (by decide) (z_iast (g := g) (I := I) (Q := P) dX12_twice_34 H4.1 H4.2.1 (z_iinc (y := x2 + 1) (lv' := [(2, .int (x2 + 1)), (0, .ref a0)]) 1 dX12_twice_35 rfl rfl (by decide) rfl (z_goto (t := 19) dX12_twice_38 (by decide) ?_))))
    exact z_less [1, 0] rfl H4.2.2
set_option maxRecDepth 10000 in
theorem wX12_twice_43 {g : zG} {I : Nat → Nat → Int32} {P : Nat → Nat → Option Nat} {r : Option Value} {h' : zH} {a0 : Nat} {x2 : Int32} (H : zk g a0 12 ∧ ((I a0 15 ≤ x2) → Zt none mX12_twice 0 0 109 [(0, .ref a0), (2, .int 1)] [] (g, I, P) r h') ∧ ((¬ I a0 15 ≤ x2) → Zt none mX12_twice 0 0 53 [(0, .ref a0), (2, .int x2), (3, .int 0)] [] (g, I, P) r h')) : Zt none mX12_twice 0 0 43 [(0, .ref a0), (2, .int x2)] [] (g, I, P) r h' := by
  refine z_iload_n 1 dX12_twice_43 rfl (z_aload_n 0 dX12_twice_44 rfl rfl (z_getI dX12_twice_45 wf_X12_190 (by decide) (by decide) rfl H.1 ?_))
  refine z_icmp_ge (t := 107) dX12_twice_48 (by decide) (fun q => ?_) (fun q => ?_)
  · have H1 := H.2.1 q
    refine z_iconst (w := 1) dX12_twice_107 (by decide) (z_istore_n (lv' := [(2, .int 1), (0, .ref a0)]) dX12_twice_108 (by decide) rfl ?_)
    exact z_less [1, 0] rfl H1
  · have H2 := H.2.2 q
    refine z_iconst (w := 0) dX12_twice_51 (by decide) (z_istore_n (lv' := [(3, .int 0), (0, .ref a0), (2, .int x2)]) dX12_twice_52 (by decide) rfl ?_)
    exact z_less [1, 2, 0] rfl H2
set_option maxRecDepth 10000 in
theorem wX12_twice_53 {g : zG} {I : Nat → Nat → Int32} {P : Nat → Nat → Option Nat} {r : Option Value} {h' : zH} {a0 : Nat} {x2 : Int32} {x3 : Int32} (H : zk g a0 12 ∧ ((I a0 15 ≤ x3) → Zt none mX12_twice 0 0 43 [(0, .ref a0), (2, .int (x2 + 1))] [] (g, I, P) r h') ∧ ((¬ I a0 15 ≤ x3) → zk g a0 12 ∧ ∃ (w3 : Int32), Cl mX12_isBeginning [.ref a0, .int x3, .int x2] (g, I, P) (some (.int w3)) (g, I, P) ∧ ((w3 = 0) → Zt none mX12_twice 0 0 53 [(0, .ref a0), (2, .int x2), (3, .int (x3 + 1))] [] (g, I, P) r h') ∧ ((¬ w3 = 0) → zk g a0 12 ∧ ∃ b8, P a0 35 = some b8 ∧ zk g a0 12 ∧ ∃ (w11 : Int32), Cl mX12_longOf [.ref a0, .int x3] (g, I, P) (some (.int w11)) (g, I, P) ∧ zk g a0 12 ∧ ∃ (w14 : Int32), Cl mX12_longOf [.ref a0, .int x2] (g, I, P) (some (.int w14)) (g, I, P) ∧ zk g b8 13 ∧ vp_in (((60 * x2) + (10 * w11)) + x3) (g.2.2 b8) ∧ Zt none mX12_twice 0 0 53 [(0, .ref a0), (2, .int x2), (3, .int (x3 + 1))] [] (g, zU I b8 (((60 * x2) + (10 * w11)) + x3).toNatClampNeg w14, P) r h'))) : Zt none mX12_twice 0 0 53 [(0, .ref a0), (2, .int x2), (3, .int x3)] [] (g, I, P) r h' := by
  refine z_iload_n 2 dX12_twice_53 rfl (z_aload_n 0 dX12_twice_54 rfl rfl (z_getI dX12_twice_55 wf_X12_190 (by decide) (by decide) rfl H.1 ?_))
  refine z_icmp_ge (t := 101) dX12_twice_58 (by decide) (fun q => ?_) (fun q => ?_)
  · have H1 := H.2.1 q
    refine z_iinc (y := x2 + 1) (lv' := [(2, .int (x2 + 1)), (0, .ref a0), (3, .int x3)]) 1 dX12_twice_101 rfl rfl (by decide) rfl (z_goto (t := 43) dX12_twice_104 (by decide) ?_)
    exact z_less [1, 0] rfl H1
  · have H2 := H.2.2 q
    refine z_aload_n 0 dX12_twice_61 rfl rfl (z_iload_n 2 dX12_twice_62 rfl (z_iload_n 1 dX12_twice_63 rfl ?_))
    obtain ⟨oc4, w3, c4, H5⟩ := H2
    refine z_virt (As := [.int x3, .int x2]) (st := []) (r1 := (some (.int w3))) (h1 := (g, I, P)) dX12_twice_64 kX12_isBeginning wm_X12_325 ⟨by decide, by decide⟩ rfl rfl (Nat.le_of_ble_eq_true rfl) (by decide) (by decide) oc4 c4 ?_
    refine z_if_eq (t := 95) dX12_twice_67 (by decide) (fun q => ?_) (fun q => ?_)
    · have H6 := H5.1 q
      refine z_iinc (y := x3 + 1) (lv' := [(3, .int (x3 + 1)), (0, .ref a0), (2, .int x2)]) 2 dX12_twice_95 rfl rfl (by decide) rfl (z_goto (t := 53) dX12_twice_98 (by decide) ?_)
      exact z_less [1, 2, 0] rfl H6
    · have H7 := H5.2 q
      refine z_aload_n 0 dX12_twice_70 rfl rfl ?_
      obtain ⟨oe10, b8, e10, H9⟩ := H7
      refine z_getP dX12_twice_71 wf_X12_59 (by decide) (by decide) rfl oe10 (fun q => (by cases q.symm.trans e10)) (fun j q => ?_)
      cases q.symm.trans e10
      refine z_bipush (w := 60) dX12_twice_74 (by decide) (z_iload_n 1 dX12_twice_76 rfl (z_imul dX12_twice_77 (z_bipush (w := 10) dX12_twice_78 (by decide) (z_aload_n 0 dX12_twice_80 rfl rfl (z_iload_n 2 dX12_twice_81 rfl ?_)))))
      obtain ⟨oc12, w11, c12, H13⟩ := H9
      refine z_virt (As := [.int x3]) (st := [.int 10, .int (60 * x2), .ref b8]) (r1 := (some (.int w11))) (h1 := (g, I, P)) dX12_twice_82 kX12_longOf wm_X12_205 ⟨by decide, by decide⟩ rfl rfl (Nat.le_of_ble_eq_true rfl) (by decide) (by decide) oc12 c12 ?_
      refine z_imul dX12_twice_85 (z_iadd dX12_twice_86 (z_iload_n 2 dX12_twice_87 rfl (z_iadd dX12_twice_88 (z_aload_n 0 dX12_twice_89 rfl rfl (z_iload_n 1 dX12_twice_90 rfl ?_)))))
      obtain ⟨oc15, w14, c15, H16⟩ := H13
      refine z_virt (As := [.int x2]) (st := [.int (((60 * x2) + (10 * w11)) + x3), .ref b8]) (r1 := (some (.int w14))) (h1 := (g, I, P)) dX12_twice_91 kX12_longOf wm_X12_205 ⟨by decide, by decide⟩ rfl rfl (Nat.le_of_ble_eq_true rfl) (by decide) (by decide) oc15 c15 ?_
      refine z_iast (g := g) (I := I) (Q := P) dX12_twice_94 H16.1 H16.2.1 (z_iinc (y := x3 + 1) (lv' := [(3, .int (x3 + 1)), (0, .ref a0), (2, .int x2)]) 2 dX12_twice_95 rfl rfl (by decide) rfl (z_goto (t := 53) dX12_twice_98 (by decide) ?_))
      exact z_less [1, 2, 0] rfl H16.2.2
set_option maxRecDepth 10000 in
theorem wX12_twice_109 {g : zG} {I : Nat → Nat → Int32} {P : Nat → Nat → Option Nat} {r : Option Value} {h' : zH} {a0 : Nat} {x2 : Int32} (H : ((x2 = 0) → zk g a0 12 ∧ ((I a0 36 ≤ 24) → zk g a0 12 ∧ r = some (.int (I a0 36)) ∧ h' = (g, I, P)) ∧ ((¬ I a0 36 ≤ 24) → r = some (.int (-1)) ∧ h' = (g, I, P))) ∧ ((¬ x2 = 0) → Zt none mX12_twice 0 0 117 [(0, .ref a0), (2, .int 0), (3, .int 0)] [] (g, I, P) r h')) : Zt none mX12_twice 0 0 109 [(0, .ref a0), (2, .int x2)] [] (g, I, P) r h' := by
  refine z_iload_n 1 dX12_twice_109 rfl ?_
  refine z_if_eq (t := 186) dX12_twice_110 (by decide) (fun q => ?_) (fun q => ?_)
  · have H1 := H.1 q
    refine z_aload_n 0 dX12_twice_186 rfl rfl (z_getI dX12_twice_187 wf_X12_343 (by decide) (by decide) rfl H1.1 (z_bipush (w := 24) dX12_twice_190 (by decide) ?_))
    refine z_icmp_le (t := 199) dX12_twice_192 (by decide) (fun q => ?_) (fun q => ?_)
    · have H2 := H1.2.1 q
      refine z_aload_n 0 dX12_twice_199 rfl rfl (z_getI dX12_twice_200 wf_X12_343 (by decide) (by decide) rfl H2.1 ?_)
      obtain ⟨rfl, rfl⟩ := H2.2
      exact z_iret dX12_twice_203 rfl (by decide) (by decide)
    · have H3 := H1.2.2 q
      refine z_iconst (w := (-1)) dX12_twice_195 (by decide) (z_goto (t := 203) dX12_twice_196 (by decide) ?_)
      obtain ⟨rfl, rfl⟩ := H3
      exact z_iret dX12_twice_203 rfl (by decide) (by decide)
  · have H4 := H.2 q
    refine z_iconst (w := 0) dX12_twice_113 (by decide) (z_istore_n (lv' := [(2, .int 0), (0, .ref a0)]) dX12_twice_114 (by decide) rfl (z_iconst (w := 0) dX12_twice_115 (by decide) (z_istore_n (lv' := [(3, .int 0), (2, .int 0), (0, .ref a0)]) dX12_twice_116 (by decide) rfl ?_)))
    exact z_less [2, 1, 0] rfl H4
set_option maxRecDepth 10000 in
theorem wX12_twice_117 {g : zG} {I : Nat → Nat → Int32} {P : Nat → Nat → Option Nat} {r : Option Value} {h' : zH} {a0 : Nat} {x2 : Int32} {x3 : Int32} (H : ((600 ≤ x3) → Zt none mX12_twice 0 0 109 [(0, .ref a0), (2, .int x2)] [] (g, I, P) r h') ∧ ((¬ 600 ≤ x3) → zk g a0 12 ∧ ∃ b3, P a0 35 = some b3 ∧ zk g b3 13 ∧ vp_in x3 (g.2.2 b3) ∧ ((¬ (I b3 x3.toNatClampNeg) = 9999) → Zt none mX12_twice 0 0 142 [(0, .ref a0), (2, .int x2), (3, .int x3), (4, .int 0)] [] (g, I, P) r h') ∧ ((I b3 x3.toNatClampNeg = 9999) → Zt none mX12_twice 0 0 117 [(0, .ref a0), (2, .int x2), (3, .int (x3 + 1))] [] (g, I, P) r h'))) : Zt none mX12_twice 0 0 117 [(0, .ref a0), (2, .int x2), (3, .int x3)] [] (g, I, P) r h' := by
  refine z_iload_n 2 dX12_twice_117 rfl (z_sipush (w := 600) dX12_twice_118 (by decide) ?_)
  refine z_icmp_ge (t := 183) dX12_twice_121 (by decide) (fun q => ?_) (fun q => ?_)
  · have H1 := H.1 q
    refine z_goto (t := 109) dX12_twice_183 (by decide) ?_
    exact z_less [0, 1] rfl H1
  · have H2 := H.2 q
    refine z_aload_n 0 dX12_twice_124 rfl rfl ?_
    obtain ⟨oe5, b3, e5, H4⟩ := H2
    refine z_getP dX12_twice_125 wf_X12_59 (by decide) (by decide) rfl oe5 (fun q => (by cases q.symm.trans e5)) (fun j q => ?_)
    cases q.symm.trans e5
    refine z_iload_n 2 dX12_twice_128 rfl (z_iald dX12_twice_129 H4.1 H4.2.1 (z_sipush (w := 9999) dX12_twice_130 (by decide) ?_))
    refine z_icmp_ne (t := 139) dX12_twice_133 (by decide) (fun q => ?_) (fun q => ?_)
    · have H6 := H4.2.2.1 q
      refine z_iconst (w := 0) dX12_twice_139 (by decide) (z_istore (lv' := [(4, .int 0), (0, .ref a0), (2, .int x2), (3, .int x3)]) dX12_twice_140 (by decide) rfl ?_)
      exact z_less [1, 2, 3, 0] rfl H6
    · have H7 := H4.2.2.2 q
      refine z_goto (t := 177) dX12_twice_136 (by decide) (z_iinc (y := x3 + 1) (lv' := [(3, .int (x3 + 1)), (0, .ref a0), (2, .int x2)]) 2 dX12_twice_177 rfl rfl (by decide) rfl (z_goto (t := 117) dX12_twice_180 (by decide) ?_))
      exact z_less [1, 2, 0] rfl H7
set_option maxRecDepth 10000 in
theorem wX12_twice_142 {g : zG} {I : Nat → Nat → Int32} {P : Nat → Nat → Option Nat} {r : Option Value} {h' : zH} {a0 : Nat} {x2 : Int32} {x3 : Int32} {x4 : Int32} (H : zk g a0 12 ∧ ((I a0 15 ≤ x4) → Zt none mX12_twice 0 0 117 [(0, .ref a0), (2, .int x2), (3, .int (x3 + 1))] [] (g, I, P) r h') ∧ ((¬ I a0 15 ≤ x4) → zk g a0 12 ∧ ∃ (w3 : Int32) (I4 : Nat → Nat → Int32), Cl mX12_goesOn [.ref a0, .int x3, .int x4] (g, I, P) (some (.int w3)) (g, I4, P) ∧ ((¬ w3 = 0) → Zt none mX12_twice 0 0 142 [(0, .ref a0), (2, .int 1), (3, .int x3), (4, .int (x4 + 1))] [] (g, I4, P) r h') ∧ ((w3 = 0) → ((x2 = 0) → Zt none mX12_twice 0 0 142 [(0, .ref a0), (2, .int 0), (3, .int x3), (4, .int (x4 + 1))] [] (g, I4, P) r h') ∧ ((¬ x2 = 0) → Zt none mX12_twice 0 0 142 [(0, .ref a0), (2, .int 1), (3, .int x3), (4, .int (x4 + 1))] [] (g, I4, P) r h')))) : Zt none mX12_twice 0 0 142 [(0, .ref a0), (2, .int x2), (3, .int x3), (4, .int x4)] [] (g, I, P) r h' := by
  refine z_iload 3 dX12_twice_142 rfl (z_aload_n 0 dX12_twice_144 rfl rfl (z_getI dX12_twice_145 wf_X12_190 (by decide) (by decide) rfl H.1 ?_))
  refine z_icmp_ge (t := 177) dX12_twice_148 (by decide) (fun q => ?_) (fun q => ?_)
  · have H1 := H.2.1 q
    refine z_iinc (y := x3 + 1) (lv' := [(3, .int (x3 + 1)), (0, .ref a0), (2, .int x2), (4, .int x4)]) 2 dX12_twice_177 rfl rfl (by decide) rfl (z_goto (t := 117) dX12_twice_180 (by decide) ?_)
    exact z_less [1, 2, 0] rfl H1
  · have H2 := H.2.2 q
    refine z_aload_n 0 dX12_twice_151 rfl rfl (z_iload_n 2 dX12_twice_152 rfl (z_iload 3 dX12_twice_153 rfl ?_))
    obtain ⟨oc5, w3, I4, c5, H6⟩ := H2
    refine z_virt (As := [.int x3, .int x4]) (st := []) (r1 := (some (.int w3))) (h1 := (g, I4, P)) dX12_twice_155 kX12_goesOn wm_X12_346 ⟨by decide, by decide⟩ rfl rfl (Nat.le_of_ble_eq_true rfl) (by decide) (by decide) oc5 c5 ?_
    refine z_if_ne (t := 165) dX12_twice_158 (by decide) (fun q => ?_) (fun q => ?_)
    · have H7 := H6.1 q
      refine z_iconst (w := 1) dX12_twice_165 (by decide) (z_goto (t := 170) dX12_twice_166 (by decide) (z_istore_n (lv' := [(2, .int 1), (0, .ref a0), (3, .int x3), (4, .int x4)]) dX12_twice_170 (by decide) rfl (z_iinc (y := x4 + 1) (lv' := [(4, .int (x4 + 1)), (2, .int 1), (0, .ref a0), (3, .int x3)]) 3 dX12_twice_171 rfl rfl (by decide) rfl (z_goto (t := 142) dX12_twice_174 (by decide) ?_))))
      exact z_less [2, 1, 3, 0] rfl H7
    · have H8 := H6.2 q
      refine z_iload_n 1 dX12_twice_161 rfl ?_
      refine z_if_eq (t := 169) dX12_twice_162 (by decide) (fun q => ?_) (fun q => ?_)
      · have H9 := H8.1 q
        refine z_iconst (w := 0) dX12_twice_169 (by decide) (z_istore_n (lv' := [(2, .int 0), (0, .ref a0), (3, .int x3), (4, .int x4)]) dX12_twice_170 (by decide) rfl (z_iinc (y := x4 + 1) (lv' := [(4, .int (x4 + 1)), (2, .int 0), (0, .ref a0), (3, .int x3)]) 3 dX12_twice_171 rfl rfl (by decide) rfl (z_goto (t := 142) dX12_twice_174 (by decide) ?_)))
        exact z_less [2, 1, 3, 0] rfl H9
      · have H10 := H8.2 q
        refine z_iconst (w := 1) dX12_twice_165 (by decide) (z_goto (t := 170) dX12_twice_166 (by decide) (z_istore_n (lv' := [(2, .int 1), (0, .ref a0), (3, .int x3), (4, .int x4)]) dX12_twice_170 (by decide) rfl (z_iinc (y := x4 + 1) (lv' := [(4, .int (x4 + 1)), (2, .int 1), (0, .ref a0), (3, .int x3)]) 3 dX12_twice_171 rfl rfl (by decide) rfl (z_goto (t := 142) dX12_twice_174 (by decide) ?_))))
        exact z_less [2, 1, 3, 0] rfl H10
theorem dX12_isWhole_0 : decode cX12_isWhole 0 = .ok (.iconst 0, 1) := by decide +kernel
theorem dX12_isWhole_1 : decode cX12_isWhole 1 = .ok (.istore_n 3, 1) := by decide +kernel
theorem dX12_isWhole_2 : decode cX12_isWhole 2 = .ok (.iconst 0, 1) := by decide +kernel
theorem dX12_isWhole_3 : decode cX12_isWhole 3 = .ok (.istore 4, 2) := by decide +kernel
theorem dX12_isWhole_5 : decode cX12_isWhole 5 = .ok (.iload 4, 2) := by decide +kernel
theorem dX12_isWhole_7 : decode cX12_isWhole 7 = .ok (.aload_n 0, 1) := by decide +kernel
theorem dX12_isWhole_8 : decode cX12_isWhole 8 = .ok (.getfield 190, 3) := by decide +kernel
theorem dX12_isWhole_11 : decode cX12_isWhole 11 = .ok (.if_icmp .ge 46, 3) := by decide +kernel
theorem dX12_isWhole_14 : decode cX12_isWhole 14 = .ok (.iload_n 3, 1) := by decide +kernel
theorem dX12_isWhole_15 : decode cX12_isWhole 15 = .ok (.ifCond .ne 30, 3) := by decide +kernel
theorem dX12_isWhole_18 : decode cX12_isWhole 18 = .ok (.aload_n 0, 1) := by decide +kernel
theorem dX12_isWhole_19 : decode cX12_isWhole 19 = .ok (.iload 4, 2) := by decide +kernel
theorem dX12_isWhole_21 : decode cX12_isWhole 21 = .ok (.invokevirtual 205, 3) := by decide +kernel
theorem dX12_isWhole_24 : decode cX12_isWhole 24 = .ok (.iload_n 2, 1) := by decide +kernel
theorem dX12_isWhole_25 : decode cX12_isWhole 25 = .ok (.if_icmp .ne 24, 3) := by decide +kernel
theorem dX12_isWhole_28 : decode cX12_isWhole 28 = .ok (.iload 4, 2) := by decide +kernel
theorem dX12_isWhole_30 : decode cX12_isWhole 30 = .ok (.iload_n 1, 1) := by decide +kernel
theorem dX12_isWhole_31 : decode cX12_isWhole 31 = .ok (.if_icmp .eq 14, 3) := by decide +kernel
theorem dX12_isWhole_34 : decode cX12_isWhole 34 = .ok (.aload_n 0, 1) := by decide +kernel
theorem dX12_isWhole_35 : decode cX12_isWhole 35 = .ok (.iload 4, 2) := by decide +kernel
theorem dX12_isWhole_37 : decode cX12_isWhole 37 = .ok (.iload_n 1, 1) := by decide +kernel
theorem dX12_isWhole_38 : decode cX12_isWhole 38 = .ok (.invokevirtual 294, 3) := by decide +kernel
theorem dX12_isWhole_41 : decode cX12_isWhole 41 = .ok (.iload_n 2, 1) := by decide +kernel
theorem dX12_isWhole_42 : decode cX12_isWhole 42 = .ok (.if_icmp .ne 7, 3) := by decide +kernel
theorem dX12_isWhole_45 : decode cX12_isWhole 45 = .ok (.iconst 1, 1) := by decide +kernel
theorem dX12_isWhole_46 : decode cX12_isWhole 46 = .ok (.goto 4, 3) := by decide +kernel
theorem dX12_isWhole_49 : decode cX12_isWhole 49 = .ok (.iconst 0, 1) := by decide +kernel
theorem dX12_isWhole_50 : decode cX12_isWhole 50 = .ok (.istore_n 3, 1) := by decide +kernel
theorem dX12_isWhole_51 : decode cX12_isWhole 51 = .ok (.iinc 4 1, 3) := by decide +kernel
theorem dX12_isWhole_54 : decode cX12_isWhole 54 = .ok (.goto (-49), 3) := by decide +kernel
theorem dX12_isWhole_57 : decode cX12_isWhole 57 = .ok (.iload_n 3, 1) := by decide +kernel
theorem dX12_isWhole_58 : decode cX12_isWhole 58 = .ok (.ireturn, 1) := by decide +kernel
set_option maxRecDepth 10000 in
theorem wX12_isWhole_0 {g : zG} {I : Nat → Nat → Int32} {P : Nat → Nat → Option Nat} {r : Option Value} {h' : zH} {a0 : Nat} {x1 : Int32} {x2 : Int32} (H : Zt none mX12_isWhole 0 0 5 [(0, .ref a0), (1, .int x1), (2, .int x2), (3, .int 0), (4, .int 0)] [] (g, I, P) r h') : Zt none mX12_isWhole 0 0 0 [(0, .ref a0), (1, .int x1), (2, .int x2)] [] (g, I, P) r h' := by
  refine z_iconst (w := 0) dX12_isWhole_0 (by decide) (z_istore_n (lv' := [(3, .int 0), (0, .ref a0), (1, .int x1), (2, .int x2)]) dX12_isWhole_1 (by decide) rfl (z_iconst (w := 0) dX12_isWhole_2 (by decide) (z_istore (lv' := [(4, .int 0), (3, .int 0), (0, .ref a0), (1, .int x1), (2, .int x2)]) dX12_isWhole_3 (by decide) rfl ?_)))
  exact z_less [2, 3, 4, 1, 0] rfl H
theorem eX12_isWhole {g : zG} {I : Nat → Nat → Int32} {P : Nat → Nat → Option Nat} {r : Option Value} {h' : zH} {a0 : Nat} {x1 : Int32} {x2 : Int32} (H : Zt none mX12_isWhole 0 0 0 [(0, .ref a0), (1, .int x1), (2, .int x2)] [] (g, I, P) r h') : Cl mX12_isWhole [.ref a0, .int x1, .int x2] (g, I, P) r h' := Cl.of (by decide) (Nat.le_of_ble_eq_true rfl) H
set_option maxRecDepth 10000 in
theorem wX12_isWhole_5 {g : zG} {I : Nat → Nat → Int32} {P : Nat → Nat → Option Nat} {r : Option Value} {h' : zH} {a0 : Nat} {x1 : Int32} {x2 : Int32} {x3 : Int32} {x4 : Int32} (H : zk g a0 12 ∧ ((I a0 15 ≤ x4) → (x3 = 0 ∨ x3 = 1) ∧ r = some (.int x3) ∧ h' = (g, I, P)) ∧ ((¬ I a0 15 ≤ x4) → ((¬ x3 = 0) → Zt none mX12_isWhole 0 0 5 [(0, .ref a0), (1, .int x1), (2, .int x2), (3, .int 1), (4, .int (x4 + 1))] [] (g, I, P) r h') ∧ ((x3 = 0) → zk g a0 12 ∧ ∃ (w5 : Int32), Cl mX12_longOf [.ref a0, .int x4] (g, I, P) (some (.int w5)) (g, I, P) ∧ ((¬ w5 = x2) → Zt none mX12_isWhole 0 0 5 [(0, .ref a0), (1, .int x1), (2, .int x2), (3, .int 0), (4, .int (x4 + 1))] [] (g, I, P) r h') ∧ ((w5 = x2) → ((x4 = x1) → Zt none mX12_isWhole 0 0 5 [(0, .ref a0), (1, .int x1), (2, .int x2), (3, .int 1), (4, .int (x4 + 1))] [] (g, I, P) r h') ∧ ((¬ x4 = x1) → zk g a0 12 ∧ ∃ (w12 : Int32), Cl mX12_alikeOf [.ref a0, .int x4, .int x1] (g, I, P) (some (.int w12)) (g, I, P) ∧ ((¬ w12 = x2) → Zt none mX12_isWhole 0 0 5 [(0, .ref a0), (1, .int x1), (2, .int x2), (3, .int 0), (4, .int (x4 + 1))] [] (g, I, P) r h') ∧ ((w12 = x2) → Zt none mX12_isWhole 0 0 5 [(0, .ref a0), (1, .int x1), (2, .int x2), (3, .int 1), (4, .int (x4 + 1))] [] (g, I, P) r h')))))) : Zt none mX12_isWhole 0 0 5 [(0, .ref a0), (1, .int x1), (2, .int x2), (3, .int x3), (4, .int x4)] [] (g, I, P) r h' := by
  refine z_iload 4 dX12_isWhole_5 rfl (z_aload_n 0 dX12_isWhole_7 rfl rfl (z_getI dX12_isWhole_8 wf_X12_190 (by decide) (by decide) rfl H.1 ?_))
  refine z_icmp_ge (t := 57) dX12_isWhole_11 (by decide) (fun q => ?_) (fun q => ?_)
  · have H1 := H.2.1 q
    refine z_iload_n 3 dX12_isWhole_57 rfl ?_
    obtain ⟨ob, rfl, rfl⟩ := H1
    exact z_zret dX12_isWhole_58 rfl ob (by decide) (by decide)
  · have H2 := H.2.2 q
    refine z_iload_n 3 dX12_isWhole_14 rfl ?_
    refine z_if_ne (t := 45) dX12_isWhole_15 (by decide) (fun q => ?_) (fun q => ?_)
    · have H3 := H2.1 q
      refine z_iconst (w := 1) dX12_isWhole_45 (by decide) (z_goto (t := 50) dX12_isWhole_46 (by decide) (z_istore_n (lv' := [(3, .int 1), (0, .ref a0), (1, .int x1), (2, .int x2), (4, .int x4)]) dX12_isWhole_50 (by decide) rfl (z_iinc (y := x4 + 1) (lv' := [(4, .int (x4 + 1)), (3, .int 1), (0, .ref a0), (1, .int x1), (2, .int x2)]) 4 dX12_isWhole_51 rfl rfl (by decide) rfl (z_goto (t := 5) dX12_isWhole_54 (by decide) ?_))))
      exact z_less [2, 3, 4, 1, 0] rfl H3
    · have H4 := H2.2 q
      refine z_aload_n 0 dX12_isWhole_18 rfl rfl (z_iload 4 dX12_isWhole_19 rfl ?_)
      obtain ⟨oc6, w5, c6, H7⟩ := H4
      refine z_virt (As := [.int x4]) (st := []) (r1 := (some (.int w5))) (h1 := (g, I, P)) dX12_isWhole_21 kX12_longOf wm_X12_205 ⟨by decide, by decide⟩ rfl rfl (Nat.le_of_ble_eq_true rfl) (by decide) (by decide) oc6 c6 ?_
      refine z_iload_n 2 dX12_isWhole_24 rfl ?_
      refine z_icmp_ne (t := 49) dX12_isWhole_25 (by decide) (fun q => ?_) (fun q => ?_)
      · have H8 := H7.1 q
        refine z_iconst (w := 0) dX12_isWhole_49 (by decide) (z_istore_n (lv' := [(3, .int 0), (0, .ref a0), (1, .int x1), (2, .int x2), (4, .int x4)]) dX12_isWhole_50 (by decide) rfl (z_iinc (y := x4 + 1) (lv' := [(4, .int (x4 + 1)), (3, .int 0), (0, .ref a0), (1, .int x1), (2, .int x2)]) 4 dX12_isWhole_51 rfl rfl (by decide) rfl (z_goto (t := 5) dX12_isWhole_54 (by decide) ?_)))
        exact z_less [2, 3, 4, 1, 0] rfl H8
      · have H9 := H7.2 q
        refine z_iload 4 dX12_isWhole_28 rfl (z_iload_n 1 dX12_isWhole_30 rfl ?_)
        refine z_icmp_eq (t := 45) dX12_isWhole_31 (by decide) (fun q => ?_) (fun q => ?_)
        · have H10 := H9.1 q
          refine z_iconst (w := 1) dX12_isWhole_45 (by decide) (z_goto (t := 50) dX12_isWhole_46 (by decide) (z_istore_n (lv' := [(3, .int 1), (0, .ref a0), (1, .int x1), (2, .int x2), (4, .int x4)]) dX12_isWhole_50 (by decide) rfl (z_iinc (y := x4 + 1) (lv' := [(4, .int (x4 + 1)), (3, .int 1), (0, .ref a0), (1, .int x1), (2, .int x2)]) 4 dX12_isWhole_51 rfl rfl (by decide) rfl (z_goto (t := 5) dX12_isWhole_54 (by decide) ?_))))
          exact z_less [2, 3, 4, 1, 0] rfl H10
        · have H11 := H9.2 q
          refine z_aload_n 0 dX12_isWhole_34 rfl rfl (z_iload 4 dX12_isWhole_35 rfl (z_iload_n 1 dX12_isWhole_37 rfl ?_))
          obtain ⟨oc13, w12, c13, H14⟩ := H11
          refine z_virt (As := [.int x4, .int x1]) (st := []) (r1 := (some (.int w12))) (h1 := (g, I, P)) dX12_isWhole_38 kX12_alikeOf wm_X12_294 ⟨by decide, by decide⟩ rfl rfl (Nat.le_of_ble_eq_true rfl) (by decide) (by decide) oc13 c13 ?_
          refine z_iload_n 2 dX12_isWhole_41 rfl ?_
          refine z_icmp_ne (t := 49) dX12_isWhole_42 (by decide) (fun q => ?_) (fun q => ?_)
          · have H15 := H14.1 q
            refine z_iconst (w := 0) dX12_isWhole_49 (by decide) (z_istore_n (lv' := [(3, .int 0), (0, .ref a0), (1, .int x1), (2, .int x2), (4, .int x4)]) dX12_isWhole_50 (by decide) rfl (z_iinc (y := x4 + 1) (lv' := [(4, .int (x4 + 1)), (3, .int 0), (0, .ref a0), (1, .int x1), (2, .int x2)]) 4 dX12_isWhole_51 rfl rfl (by decide) rfl (z_goto (t := 5) dX12_isWhole_54 (by decide) ?_)))
            exact z_less [2, 3, 4, 1, 0] rfl H15
          · have H16 := H14.2 q
            refine z_iconst (w := 1) dX12_isWhole_45 (by decide) (z_goto (t := 50) dX12_isWhole_46 (by decide) (z_istore_n (lv' := [(3, .int 1), (0, .ref a0), (1, .int x1), (2, .int x2), (4, .int x4)]) dX12_isWhole_50 (by decide) rfl (z_iinc (y := x4 + 1) (lv' := [(4, .int (x4 + 1)), (3, .int 1), (0, .ref a0), (1, .int x1), (2, .int x2)]) 4 dX12_isWhole_51 rfl rfl (by decide) rfl (z_goto (t := 5) dX12_isWhole_54 (by decide) ?_))))
            exact z_less [2, 3, 4, 1, 0] rfl H16
theorem dX12_isWon_0 : decode cX12_isWon 0 = .ok (.iconst 0, 1) := by decide +kernel
theorem dX12_isWon_1 : decode cX12_isWon 1 = .ok (.istore_n 3, 1) := by decide +kernel
theorem dX12_isWon_2 : decode cX12_isWon 2 = .ok (.iconst 0, 1) := by decide +kernel
theorem dX12_isWon_3 : decode cX12_isWon 3 = .ok (.istore 4, 2) := by decide +kernel
theorem dX12_isWon_5 : decode cX12_isWon 5 = .ok (.iload 4, 2) := by decide +kernel
theorem dX12_isWon_7 : decode cX12_isWon 7 = .ok (.aload_n 0, 1) := by decide +kernel
theorem dX12_isWon_8 : decode cX12_isWon 8 = .ok (.getfield 190, 3) := by decide +kernel
theorem dX12_isWon_11 : decode cX12_isWon 11 = .ok (.if_icmp .ge 75, 3) := by decide +kernel
theorem dX12_isWon_14 : decode cX12_isWon 14 = .ok (.aload_n 0, 1) := by decide +kernel
theorem dX12_isWon_15 : decode cX12_isWon 15 = .ok (.iload 4, 2) := by decide +kernel
theorem dX12_isWon_17 : decode cX12_isWon 17 = .ok (.invokevirtual 205, 3) := by decide +kernel
theorem dX12_isWon_20 : decode cX12_isWon 20 = .ok (.iload_n 2, 1) := by decide +kernel
theorem dX12_isWon_21 : decode cX12_isWon 21 = .ok (.if_icmp .le 59, 3) := by decide +kernel
theorem dX12_isWon_24 : decode cX12_isWon 24 = .ok (.iload 4, 2) := by decide +kernel
theorem dX12_isWon_26 : decode cX12_isWon 26 = .ok (.iload_n 1, 1) := by decide +kernel
theorem dX12_isWon_27 : decode cX12_isWon 27 = .ok (.if_icmp .eq 14, 3) := by decide +kernel
theorem dX12_isWon_30 : decode cX12_isWon 30 = .ok (.aload_n 0, 1) := by decide +kernel
theorem dX12_isWon_31 : decode cX12_isWon 31 = .ok (.iload 4, 2) := by decide +kernel
theorem dX12_isWon_33 : decode cX12_isWon 33 = .ok (.iload_n 1, 1) := by decide +kernel
theorem dX12_isWon_34 : decode cX12_isWon 34 = .ok (.invokevirtual 294, 3) := by decide +kernel
theorem dX12_isWon_37 : decode cX12_isWon 37 = .ok (.iload_n 2, 1) := by decide +kernel
theorem dX12_isWon_38 : decode cX12_isWon 38 = .ok (.if_icmp .lt 42, 3) := by decide +kernel
theorem dX12_isWon_41 : decode cX12_isWon 41 = .ok (.iload_n 3, 1) := by decide +kernel
theorem dX12_isWon_42 : decode cX12_isWon 42 = .ok (.ifCond .ne 32, 3) := by decide +kernel
theorem dX12_isWon_45 : decode cX12_isWon 45 = .ok (.aload_n 0, 1) := by decide +kernel
theorem dX12_isWon_46 : decode cX12_isWon 46 = .ok (.iload 4, 2) := by decide +kernel
theorem dX12_isWon_48 : decode cX12_isWon 48 = .ok (.iload_n 2, 1) := by decide +kernel
theorem dX12_isWon_49 : decode cX12_isWon 49 = .ok (.iconst 1, 1) := by decide +kernel
theorem dX12_isWon_50 : decode cX12_isWon 50 = .ok (.iadd, 1) := by decide +kernel
theorem dX12_isWon_51 : decode cX12_isWon 51 = .ok (.invokevirtual 349, 3) := by decide +kernel
theorem dX12_isWon_54 : decode cX12_isWon 54 = .ok (.ifCond .ne 24, 3) := by decide +kernel
theorem dX12_isWon_57 : decode cX12_isWon 57 = .ok (.aload_n 0, 1) := by decide +kernel
theorem dX12_isWon_58 : decode cX12_isWon 58 = .ok (.getfield 62, 3) := by decide +kernel
theorem dX12_isWon_61 : decode cX12_isWon 61 = .ok (.bipush 7, 2) := by decide +kernel
theorem dX12_isWon_63 : decode cX12_isWon 63 = .ok (.iload 4, 2) := by decide +kernel
theorem dX12_isWon_65 : decode cX12_isWon 65 = .ok (.imul, 1) := by decide +kernel
theorem dX12_isWon_66 : decode cX12_isWon 66 = .ok (.iload_n 2, 1) := by decide +kernel
theorem dX12_isWon_67 : decode cX12_isWon 67 = .ok (.iadd, 1) := by decide +kernel
theorem dX12_isWon_68 : decode cX12_isWon 68 = .ok (.iconst 1, 1) := by decide +kernel
theorem dX12_isWon_69 : decode cX12_isWon 69 = .ok (.iadd, 1) := by decide +kernel
theorem dX12_isWon_70 : decode cX12_isWon 70 = .ok (.baload, 1) := by decide +kernel
theorem dX12_isWon_71 : decode cX12_isWon 71 = .ok (.ifCond .ne 7, 3) := by decide +kernel
theorem dX12_isWon_74 : decode cX12_isWon 74 = .ok (.iconst 1, 1) := by decide +kernel
theorem dX12_isWon_75 : decode cX12_isWon 75 = .ok (.goto 4, 3) := by decide +kernel
theorem dX12_isWon_78 : decode cX12_isWon 78 = .ok (.iconst 0, 1) := by decide +kernel
theorem dX12_isWon_79 : decode cX12_isWon 79 = .ok (.istore_n 3, 1) := by decide +kernel
theorem dX12_isWon_80 : decode cX12_isWon 80 = .ok (.iinc 4 1, 3) := by decide +kernel
theorem dX12_isWon_83 : decode cX12_isWon 83 = .ok (.goto (-78), 3) := by decide +kernel
theorem dX12_isWon_86 : decode cX12_isWon 86 = .ok (.iload_n 3, 1) := by decide +kernel
theorem dX12_isWon_87 : decode cX12_isWon 87 = .ok (.ireturn, 1) := by decide +kernel
set_option maxRecDepth 10000 in
theorem wX12_isWon_0 {g : zG} {I : Nat → Nat → Int32} {P : Nat → Nat → Option Nat} {r : Option Value} {h' : zH} {a0 : Nat} {x1 : Int32} {x2 : Int32} (H : Zt none mX12_isWon 0 0 5 [(0, .ref a0), (1, .int x1), (2, .int x2), (3, .int 0), (4, .int 0)] [] (g, I, P) r h') : Zt none mX12_isWon 0 0 0 [(0, .ref a0), (1, .int x1), (2, .int x2)] [] (g, I, P) r h' := by
  refine z_iconst (w := 0) dX12_isWon_0 (by decide) (z_istore_n (lv' := [(3, .int 0), (0, .ref a0), (1, .int x1), (2, .int x2)]) dX12_isWon_1 (by decide) rfl (z_iconst (w := 0) dX12_isWon_2 (by decide) (z_istore (lv' := [(4, .int 0), (3, .int 0), (0, .ref a0), (1, .int x1), (2, .int x2)]) dX12_isWon_3 (by decide) rfl ?_)))
  exact z_less [2, 3, 4, 1, 0] rfl H
theorem eX12_isWon {g : zG} {I : Nat → Nat → Int32} {P : Nat → Nat → Option Nat} {r : Option Value} {h' : zH} {a0 : Nat} {x1 : Int32} {x2 : Int32} (H : Zt none mX12_isWon 0 0 0 [(0, .ref a0), (1, .int x1), (2, .int x2)] [] (g, I, P) r h') : Cl mX12_isWon [.ref a0, .int x1, .int x2] (g, I, P) r h' := Cl.of (by decide) (Nat.le_of_ble_eq_true rfl) H
set_option maxRecDepth 10000 in
theorem wX12_isWon_5 {g : zG} {I : Nat → Nat → Int32} {P : Nat → Nat → Option Nat} {r : Option Value} {h' : zH} {a0 : Nat} {x1 : Int32} {x2 : Int32} {x3 : Int32} {x4 : Int32} (H : zk g a0 12 ∧ ((I a0 15 ≤ x4) → (x3 = 0 ∨ x3 = 1) ∧ r = some (.int x3) ∧ h' = (g, I, P)) ∧ ((¬ I a0 15 ≤ x4) → zk g a0 12 ∧ ∃ (w3 : Int32), Cl mX12_longOf [.ref a0, .int x4] (g, I, P) (some (.int w3)) (g, I, P) ∧ ((w3 ≤ x2) → Zt none mX12_isWon 0 0 5 [(0, .ref a0), (1, .int x1), (2, .int x2), (3, .int x3), (4, .int (x4 + 1))] [] (g, I, P) r h') ∧ ((¬ w3 ≤ x2) → ((x4 = x1) → Zt none mX12_isWon 0 0 41 [(0, .ref a0), (1, .int x1), (2, .int x2), (3, .int x3), (4, .int x4)] [] (g, I, P) r h') ∧ ((¬ x4 = x1) → zk g a0 12 ∧ ∃ (w10 : Int32), Cl mX12_alikeOf [.ref a0, .int x4, .int x1] (g, I, P) (some (.int w10)) (g, I, P) ∧ ((w10 < x2) → Zt none mX12_isWon 0 0 5 [(0, .ref a0), (1, .int x1), (2, .int x2), (3, .int x3), (4, .int (x4 + 1))] [] (g, I, P) r h') ∧ ((¬ w10 < x2) → Zt none mX12_isWon 0 0 41 [(0, .ref a0), (1, .int x1), (2, .int x2), (3, .int x3), (4, .int x4)] [] (g, I, P) r h'))))) : Zt none mX12_isWon 0 0 5 [(0, .ref a0), (1, .int x1), (2, .int x2), (3, .int x3), (4, .int x4)] [] (g, I, P) r h' := by
  refine z_iload 4 dX12_isWon_5 rfl (z_aload_n 0 dX12_isWon_7 rfl rfl (z_getI dX12_isWon_8 wf_X12_190 (by decide) (by decide) rfl H.1 ?_))
  refine z_icmp_ge (t := 86) dX12_isWon_11 (by decide) (fun q => ?_) (fun q => ?_)
  · have H1 := H.2.1 q
    refine z_iload_n 3 dX12_isWon_86 rfl ?_
    obtain ⟨ob, rfl, rfl⟩ := H1
    exact z_zret dX12_isWon_87 rfl ob (by decide) (by decide)
  · have H2 := H.2.2 q
    refine z_aload_n 0 dX12_isWon_14 rfl rfl (z_iload 4 dX12_isWon_15 rfl ?_)
    obtain ⟨oc4, w3, c4, H5⟩ := H2
    refine z_virt (As := [.int x4]) (st := []) (r1 := (some (.int w3))) (h1 := (g, I, P)) dX12_isWon_17 kX12_longOf wm_X12_205 ⟨by decide, by decide⟩ rfl rfl (Nat.le_of_ble_eq_true rfl) (by decide) (by decide) oc4 c4 ?_
    refine z_iload_n 2 dX12_isWon_20 rfl ?_
    refine z_icmp_le (t := 80) dX12_isWon_21 (by decide) (fun q => ?_) (fun q => ?_)
    · have H6 := H5.1 q
      refine z_iinc (y := x4 + 1) (lv' := [(4, .int (x4 + 1)), (0, .ref a0), (1, .int x1), (2, .int x2), (3, .int x3)]) 4 dX12_isWon_80 rfl rfl (by decide) rfl (z_goto (t := 5) dX12_isWon_83 (by decide) ?_)
      exact z_less [1, 2, 3, 4, 0] rfl H6
    · have H7 := H5.2 q
      refine z_iload 4 dX12_isWon_24 rfl (z_iload_n 1 dX12_isWon_26 rfl ?_)
      refine z_icmp_eq (t := 41) dX12_isWon_27 (by decide) (fun q => ?_) (fun q => ?_)
      · have H8 := H7.1 q
        exact z_less [0, 1, 2, 3, 4] rfl H8
      · have H9 := H7.2 q
        refine z_aload_n 0 dX12_isWon_30 rfl rfl (z_iload 4 dX12_isWon_31 rfl (z_iload_n 1 dX12_isWon_33 rfl ?_))
        obtain ⟨oc11, w10, c11, H12⟩ := H9
        refine z_virt (As := [.int x4, .int x1]) (st := []) (r1 := (some (.int w10))) (h1 := (g, I, P)) dX12_isWon_34 kX12_alikeOf wm_X12_294 ⟨by decide, by decide⟩ rfl rfl (Nat.le_of_ble_eq_true rfl) (by decide) (by decide) oc11 c11 ?_
        refine z_iload_n 2 dX12_isWon_37 rfl ?_
        refine z_icmp_lt (t := 80) dX12_isWon_38 (by decide) (fun q => ?_) (fun q => ?_)
        · have H13 := H12.1 q
          refine z_iinc (y := x4 + 1) (lv' := [(4, .int (x4 + 1)), (0, .ref a0), (1, .int x1), (2, .int x2), (3, .int x3)]) 4 dX12_isWon_80 rfl rfl (by decide) rfl (z_goto (t := 5) dX12_isWon_83 (by decide) ?_)
          exact z_less [1, 2, 3, 4, 0] rfl H13
        · have H14 := H12.2 q
          exact z_less [0, 1, 2, 3, 4] rfl H14
set_option maxRecDepth 10000 in
theorem wX12_isWon_41 {g : zG} {I : Nat → Nat → Int32} {P : Nat → Nat → Option Nat} {r : Option Value} {h' : zH} {a0 : Nat} {x1 : Int32} {x2 : Int32} {x3 : Int32} {x4 : Int32} (H : ((¬ x3 = 0) → Zt none mX12_isWon 0 0 5 [(0, .ref a0), (1, .int x1), (2, .int x2), (3, .int 1), (4, .int (x4 + 1))] [] (g, I, P) r h') ∧ ((x3 = 0) → zk g a0 12 ∧ ∃ (w3 : Int32), Cl mX12_isWhole [.ref a0, .int x4, .int (x2 + 1)] (g, I, P) (some (.int w3)) (g, I, P) ∧ ((¬ w3 = 0) → Zt none mX12_isWon 0 0 5 [(0, .ref a0), (1, .int x1), (2, .int x2), (3, .int 0), (4, .int (x4 + 1))] [] (g, I, P) r h') ∧ ((w3 = 0) → zk g a0 12 ∧ ∃ b8, P a0 37 = some b8 ∧ zk g b8 14 ∧ vp_in (((7 * x4) + x2) + 1) (g.2.2 b8) ∧ ((¬ I b8 (((7 * x4) + x2) + 1).toNatClampNeg = 0) → Zt none mX12_isWon 0 0 5 [(0, .ref a0), (1, .int x1), (2, .int x2), (3, .int 0), (4, .int (x4 + 1))] [] (g, I, P) r h') ∧ ((I b8 (((7 * x4) + x2) + 1).toNatClampNeg = 0) → Zt none mX12_isWon 0 0 5 [(0, .ref a0), (1, .int x1), (2, .int x2), (3, .int 1), (4, .int (x4 + 1))] [] (g, I, P) r h')))) : Zt none mX12_isWon 0 0 41 [(0, .ref a0), (1, .int x1), (2, .int x2), (3, .int x3), (4, .int x4)] [] (g, I, P) r h' := by
  refine z_iload_n 3 dX12_isWon_41 rfl ?_
  refine z_if_ne (t := 74) dX12_isWon_42 (by decide) (fun q => ?_) (fun q => ?_)
  · have H1 := H.1 q
    refine z_iconst (w := 1) dX12_isWon_74 (by decide) (z_goto (t := 79) dX12_isWon_75 (by decide) (z_istore_n (lv' := [(3, .int 1), (0, .ref a0), (1, .int x1), (2, .int x2), (4, .int x4)]) dX12_isWon_79 (by decide) rfl (z_iinc (y := x4 + 1) (lv' := [(4, .int (x4 + 1)), (3, .int 1), (0, .ref a0), (1, .int x1), (2, .int x2)]) 4 dX12_isWon_80 rfl rfl (by decide) rfl (z_goto (t := 5) dX12_isWon_83 (by decide) ?_))))
    exact z_less [2, 3, 4, 1, 0] rfl H1
  · have H2 := H.2 q
    refine z_aload_n 0 dX12_isWon_45 rfl rfl (z_iload 4 dX12_isWon_46 rfl (z_iload_n 2 dX12_isWon_48 rfl (z_iconst (w := 1) dX12_isWon_49 (by decide) (z_iadd dX12_isWon_50 ?_))))
    obtain ⟨oc4, w3, c4, H5⟩ := H2
    refine z_virt (As := [.int x4, .int (x2 + 1)]) (st := []) (r1 := (some (.int w3))) (h1 := (g, I, P)) dX12_isWon_51 kX12_isWhole wm_X12_349 ⟨by decide, by decide⟩ rfl rfl (Nat.le_of_ble_eq_true rfl) (by decide) (by decide) oc4 c4 ?_
    refine z_if_ne (t := 78) dX12_isWon_54 (by decide) (fun q => ?_) (fun q => ?_)
    · have H6 := H5.1 q
      refine z_iconst (w := 0) dX12_isWon_78 (by decide) (z_istore_n (lv' := [(3, .int 0), (0, .ref a0), (1, .int x1), (2, .int x2), (4, .int x4)]) dX12_isWon_79 (by decide) rfl (z_iinc (y := x4 + 1) (lv' := [(4, .int (x4 + 1)), (3, .int 0), (0, .ref a0), (1, .int x1), (2, .int x2)]) 4 dX12_isWon_80 rfl rfl (by decide) rfl (z_goto (t := 5) dX12_isWon_83 (by decide) ?_)))
      exact z_less [2, 3, 4, 1, 0] rfl H6
    · have H7 := H5.2 q
      refine z_aload_n 0 dX12_isWon_57 rfl rfl ?_
      obtain ⟨oe10, b8, e10, H9⟩ := H7
      refine z_getP dX12_isWon_58 wf_X12_62 (by decide) (by decide) rfl oe10 (fun q => (by cases q.symm.trans e10)) (fun j q => ?_)
      cases q.symm.trans e10
      refine z_bipush (w := 7) dX12_isWon_61 (by decide) (z_iload 4 dX12_isWon_63 rfl (z_imul dX12_isWon_65 (z_iload_n 2 dX12_isWon_66 rfl (z_iadd dX12_isWon_67 (z_iconst (w := 1) dX12_isWon_68 (by decide) (z_iadd dX12_isWon_69 (z_zald dX12_isWon_70 H9.1 H9.2.1 ?_)))))))
      refine z_if_ne (t := 78) dX12_isWon_71 (by decide) (fun q => ?_) (fun q => ?_)
      · have H11 := H9.2.2.1 q
        refine z_iconst (w := 0) dX12_isWon_78 (by decide) (z_istore_n (lv' := [(3, .int 0), (0, .ref a0), (1, .int x1), (2, .int x2), (4, .int x4)]) dX12_isWon_79 (by decide) rfl (z_iinc (y := x4 + 1) (lv' := [(4, .int (x4 + 1)), (3, .int 0), (0, .ref a0), (1, .int x1), (2, .int x2)]) 4 dX12_isWon_80 rfl rfl (by decide) rfl (z_goto (t := 5) dX12_isWon_83 (by decide) ?_)))
        exact z_less [2, 3, 4, 1, 0] rfl H11
      · have H12 := H9.2.2.2 q
        refine z_iconst (w := 1) dX12_isWon_74 (by decide) (z_goto (t := 79) dX12_isWon_75 (by decide) (z_istore_n (lv' := [(3, .int 1), (0, .ref a0), (1, .int x1), (2, .int x2), (4, .int x4)]) dX12_isWon_79 (by decide) rfl (z_iinc (y := x4 + 1) (lv' := [(4, .int (x4 + 1)), (3, .int 1), (0, .ref a0), (1, .int x1), (2, .int x2)]) 4 dX12_isWon_80 rfl rfl (by decide) rfl (z_goto (t := 5) dX12_isWon_83 (by decide) ?_))))
        exact z_less [2, 3, 4, 1, 0] rfl H12
theorem dX12_ghost_0 : decode cX12_ghost 0 = .ok (.aload_n 0, 1) := by decide +kernel
theorem dX12_ghost_1 : decode cX12_ghost 1 = .ok (.iload_n 1, 1) := by decide +kernel
theorem dX12_ghost_2 : decode cX12_ghost 2 = .ok (.invokevirtual 196, 3) := by decide +kernel
theorem dX12_ghost_5 : decode cX12_ghost 5 = .ok (.ifCond .ne 6, 3) := by decide +kernel
theorem dX12_ghost_8 : decode cX12_ghost 8 = .ok (.bipush (-2), 2) := by decide +kernel
theorem dX12_ghost_10 : decode cX12_ghost 10 = .ok (.ireturn, 1) := by decide +kernel
theorem dX12_ghost_11 : decode cX12_ghost 11 = .ok (.bipush 6, 2) := by decide +kernel
theorem dX12_ghost_13 : decode cX12_ghost 13 = .ok (.istore_n 3, 1) := by decide +kernel
theorem dX12_ghost_14 : decode cX12_ghost 14 = .ok (.iload_n 3, 1) := by decide +kernel
theorem dX12_ghost_15 : decode cX12_ghost 15 = .ok (.ifCond .le 64, 3) := by decide +kernel
theorem dX12_ghost_18 : decode cX12_ghost 18 = .ok (.iconst 0, 1) := by decide +kernel
theorem dX12_ghost_19 : decode cX12_ghost 19 = .ok (.istore 4, 2) := by decide +kernel
theorem dX12_ghost_21 : decode cX12_ghost 21 = .ok (.iload 4, 2) := by decide +kernel
theorem dX12_ghost_23 : decode cX12_ghost 23 = .ok (.aload_n 0, 1) := by decide +kernel
theorem dX12_ghost_24 : decode cX12_ghost 24 = .ok (.getfield 190, 3) := by decide +kernel
theorem dX12_ghost_27 : decode cX12_ghost 27 = .ok (.if_icmp .ge 46, 3) := by decide +kernel
theorem dX12_ghost_30 : decode cX12_ghost 30 = .ok (.aload_n 0, 1) := by decide +kernel
theorem dX12_ghost_31 : decode cX12_ghost 31 = .ok (.getfield 62, 3) := by decide +kernel
theorem dX12_ghost_34 : decode cX12_ghost 34 = .ok (.bipush 7, 2) := by decide +kernel
theorem dX12_ghost_36 : decode cX12_ghost 36 = .ok (.iload 4, 2) := by decide +kernel
theorem dX12_ghost_38 : decode cX12_ghost 38 = .ok (.imul, 1) := by decide +kernel
theorem dX12_ghost_39 : decode cX12_ghost 39 = .ok (.iload_n 3, 1) := by decide +kernel
theorem dX12_ghost_40 : decode cX12_ghost 40 = .ok (.iadd, 1) := by decide +kernel
theorem dX12_ghost_41 : decode cX12_ghost 41 = .ok (.iload_n 3, 1) := by decide +kernel
theorem dX12_ghost_42 : decode cX12_ghost 42 = .ok (.aload_n 0, 1) := by decide +kernel
theorem dX12_ghost_43 : decode cX12_ghost 43 = .ok (.iload 4, 2) := by decide +kernel
theorem dX12_ghost_45 : decode cX12_ghost 45 = .ok (.invokevirtual 205, 3) := by decide +kernel
theorem dX12_ghost_48 : decode cX12_ghost 48 = .ok (.if_icmp .gt 17, 3) := by decide +kernel
theorem dX12_ghost_51 : decode cX12_ghost 51 = .ok (.aload_n 0, 1) := by decide +kernel
theorem dX12_ghost_52 : decode cX12_ghost 52 = .ok (.iload 4, 2) := by decide +kernel
theorem dX12_ghost_54 : decode cX12_ghost 54 = .ok (.iload_n 3, 1) := by decide +kernel
theorem dX12_ghost_55 : decode cX12_ghost 55 = .ok (.invokevirtual 352, 3) := by decide +kernel
theorem dX12_ghost_58 : decode cX12_ghost 58 = .ok (.ifCond .eq 7, 3) := by decide +kernel
theorem dX12_ghost_61 : decode cX12_ghost 61 = .ok (.iconst 1, 1) := by decide +kernel
theorem dX12_ghost_62 : decode cX12_ghost 62 = .ok (.goto 4, 3) := by decide +kernel
theorem dX12_ghost_65 : decode cX12_ghost 65 = .ok (.iconst 0, 1) := by decide +kernel
theorem dX12_ghost_66 : decode cX12_ghost 66 = .ok (.bastore, 1) := by decide +kernel
theorem dX12_ghost_67 : decode cX12_ghost 67 = .ok (.iinc 4 1, 3) := by decide +kernel
theorem dX12_ghost_70 : decode cX12_ghost 70 = .ok (.goto (-49), 3) := by decide +kernel
theorem dX12_ghost_73 : decode cX12_ghost 73 = .ok (.iinc 3 (-1), 3) := by decide +kernel
theorem dX12_ghost_76 : decode cX12_ghost 76 = .ok (.goto (-62), 3) := by decide +kernel
theorem dX12_ghost_79 : decode cX12_ghost 79 = .ok (.iconst (-1), 1) := by decide +kernel
theorem dX12_ghost_80 : decode cX12_ghost 80 = .ok (.istore_n 3, 1) := by decide +kernel
theorem dX12_ghost_81 : decode cX12_ghost 81 = .ok (.iconst 0, 1) := by decide +kernel
theorem dX12_ghost_82 : decode cX12_ghost 82 = .ok (.istore 4, 2) := by decide +kernel
theorem dX12_ghost_84 : decode cX12_ghost 84 = .ok (.iload 4, 2) := by decide +kernel
theorem dX12_ghost_86 : decode cX12_ghost 86 = .ok (.aload_n 0, 1) := by decide +kernel
theorem dX12_ghost_87 : decode cX12_ghost 87 = .ok (.getfield 190, 3) := by decide +kernel
theorem dX12_ghost_90 : decode cX12_ghost 90 = .ok (.if_icmp .ge 58, 3) := by decide +kernel
theorem dX12_ghost_93 : decode cX12_ghost 93 = .ok (.aload_n 0, 1) := by decide +kernel
theorem dX12_ghost_94 : decode cX12_ghost 94 = .ok (.iload 4, 2) := by decide +kernel
theorem dX12_ghost_96 : decode cX12_ghost 96 = .ok (.iconst 1, 1) := by decide +kernel
theorem dX12_ghost_97 : decode cX12_ghost 97 = .ok (.invokevirtual 349, 3) := by decide +kernel
theorem dX12_ghost_100 : decode cX12_ghost 100 = .ok (.ifCond .ne 42, 3) := by decide +kernel
theorem dX12_ghost_103 : decode cX12_ghost 103 = .ok (.aload_n 0, 1) := by decide +kernel
theorem dX12_ghost_104 : decode cX12_ghost 104 = .ok (.getfield 62, 3) := by decide +kernel
theorem dX12_ghost_107 : decode cX12_ghost 107 = .ok (.bipush 7, 2) := by decide +kernel
theorem dX12_ghost_109 : decode cX12_ghost 109 = .ok (.iload 4, 2) := by decide +kernel
theorem dX12_ghost_111 : decode cX12_ghost 111 = .ok (.imul, 1) := by decide +kernel
theorem dX12_ghost_112 : decode cX12_ghost 112 = .ok (.iconst 1, 1) := by decide +kernel
theorem dX12_ghost_113 : decode cX12_ghost 113 = .ok (.iadd, 1) := by decide +kernel
theorem dX12_ghost_114 : decode cX12_ghost 114 = .ok (.baload, 1) := by decide +kernel
theorem dX12_ghost_115 : decode cX12_ghost 115 = .ok (.ifCond .ne 27, 3) := by decide +kernel
theorem dX12_ghost_118 : decode cX12_ghost 118 = .ok (.iload_n 3, 1) := by decide +kernel
theorem dX12_ghost_119 : decode cX12_ghost 119 = .ok (.iconst (-1), 1) := by decide +kernel
theorem dX12_ghost_120 : decode cX12_ghost 120 = .ok (.if_icmp .eq 14, 3) := by decide +kernel
theorem dX12_ghost_123 : decode cX12_ghost 123 = .ok (.aload_n 0, 1) := by decide +kernel
theorem dX12_ghost_124 : decode cX12_ghost 124 = .ok (.iload 4, 2) := by decide +kernel
theorem dX12_ghost_126 : decode cX12_ghost 126 = .ok (.iconst 0, 1) := by decide +kernel
theorem dX12_ghost_127 : decode cX12_ghost 127 = .ok (.invokevirtual 214, 3) := by decide +kernel
theorem dX12_ghost_130 : decode cX12_ghost 130 = .ok (.iload_n 3, 1) := by decide +kernel
theorem dX12_ghost_131 : decode cX12_ghost 131 = .ok (.if_icmp .ge 11, 3) := by decide +kernel
theorem dX12_ghost_134 : decode cX12_ghost 134 = .ok (.aload_n 0, 1) := by decide +kernel
theorem dX12_ghost_135 : decode cX12_ghost 135 = .ok (.iload 4, 2) := by decide +kernel
theorem dX12_ghost_137 : decode cX12_ghost 137 = .ok (.iconst 0, 1) := by decide +kernel
theorem dX12_ghost_138 : decode cX12_ghost 138 = .ok (.invokevirtual 214, 3) := by decide +kernel
theorem dX12_ghost_141 : decode cX12_ghost 141 = .ok (.istore_n 3, 1) := by decide +kernel
theorem dX12_ghost_142 : decode cX12_ghost 142 = .ok (.iinc 4 1, 3) := by decide +kernel
theorem dX12_ghost_145 : decode cX12_ghost 145 = .ok (.goto (-61), 3) := by decide +kernel
theorem dX12_ghost_148 : decode cX12_ghost 148 = .ok (.iload_n 2, 1) := by decide +kernel
theorem dX12_ghost_149 : decode cX12_ghost 149 = .ok (.ifCond .eq 7, 3) := by decide +kernel
theorem dX12_ghost_152 : decode cX12_ghost 152 = .ok (.iload_n 3, 1) := by decide +kernel
theorem dX12_ghost_153 : decode cX12_ghost 153 = .ok (.goto 13, 3) := by decide +kernel
theorem dX12_ghost_156 : decode cX12_ghost 156 = .ok (.iload_n 3, 1) := by decide +kernel
theorem dX12_ghost_157 : decode cX12_ghost 157 = .ok (.iconst (-1), 1) := by decide +kernel
theorem dX12_ghost_158 : decode cX12_ghost 158 = .ok (.if_icmp .ne 7, 3) := by decide +kernel
theorem dX12_ghost_161 : decode cX12_ghost 161 = .ok (.iconst 0, 1) := by decide +kernel
theorem dX12_ghost_162 : decode cX12_ghost 162 = .ok (.goto 4, 3) := by decide +kernel
theorem dX12_ghost_165 : decode cX12_ghost 165 = .ok (.iconst 1, 1) := by decide +kernel
theorem dX12_ghost_166 : decode cX12_ghost 166 = .ok (.ireturn, 1) := by decide +kernel
set_option maxRecDepth 10000 in
theorem wX12_ghost_0 {g : zG} {I : Nat → Nat → Int32} {P : Nat → Nat → Option Nat} {r : Option Value} {h' : zH} {a0 : Nat} {x1 : Int32} {x2 : Int32} (H : zk g a0 12 ∧ ∃ (w1 : Int32) (I2 : Nat → Nat → Int32), Cl mX12_isHill [.ref a0, .int x1] (g, I, P) (some (.int w1)) (g, I2, P) ∧ ((¬ w1 = 0) → Zt none mX12_ghost 0 0 14 [(0, .ref a0), (2, .int x2), (3, .int 6)] [] (g, I2, P) r h') ∧ ((w1 = 0) → r = some (.int (-2)) ∧ h' = (g, I2, P))) : Zt none mX12_ghost 0 0 0 [(0, .ref a0), (1, .int x1), (2, .int x2)] [] (g, I, P) r h' := by
  refine z_aload_n 0 dX12_ghost_0 rfl rfl (z_iload_n 1 dX12_ghost_1 rfl ?_)
  obtain ⟨oc3, w1, I2, c3, H4⟩ := H
  refine z_virt (As := [.int x1]) (st := []) (r1 := (some (.int w1))) (h1 := (g, I2, P)) dX12_ghost_2 kX12_isHill wm_X12_196 ⟨by decide, by decide⟩ rfl rfl (Nat.le_of_ble_eq_true rfl) (by decide) (by decide) oc3 c3 ?_
  refine z_if_ne (t := 11) dX12_ghost_5 (by decide) (fun q => ?_) (fun q => ?_)
  · have H5 := H4.1 q
    refine z_bipush (w := 6) dX12_ghost_11 (by decide) (z_istore_n (lv' := [(3, .int 6), (0, .ref a0), (1, .int x1), (2, .int x2)]) dX12_ghost_13 (by decide) rfl ?_)
    exact z_less [1, 3, 0] rfl H5
  · have H6 := H4.2 q
    refine z_bipush (w := (-2)) dX12_ghost_8 (by decide) ?_
    obtain ⟨rfl, rfl⟩ := H6
    exact z_iret dX12_ghost_10 rfl (by decide) (by decide)
theorem eX12_ghost {g : zG} {I : Nat → Nat → Int32} {P : Nat → Nat → Option Nat} {r : Option Value} {h' : zH} {a0 : Nat} {x1 : Int32} {x2 : Int32} (H : Zt none mX12_ghost 0 0 0 [(0, .ref a0), (1, .int x1), (2, .int x2)] [] (g, I, P) r h') : Cl mX12_ghost [.ref a0, .int x1, .int x2] (g, I, P) r h' := Cl.of (by decide) (Nat.le_of_ble_eq_true rfl) H
set_option maxRecDepth 10000 in
theorem wX12_ghost_14 {g : zG} {I : Nat → Nat → Int32} {P : Nat → Nat → Option Nat} {r : Option Value} {h' : zH} {a0 : Nat} {x2 : Int32} {x3 : Int32} (H : ((x3 ≤ 0) → Zt none mX12_ghost 0 0 84 [(0, .ref a0), (2, .int x2), (3, .int (-1)), (4, .int 0)] [] (g, I, P) r h') ∧ ((¬ x3 ≤ 0) → Zt none mX12_ghost 0 0 21 [(0, .ref a0), (2, .int x2), (3, .int x3), (4, .int 0)] [] (g, I, P) r h')) : Zt none mX12_ghost 0 0 14 [(0, .ref a0), (2, .int x2), (3, .int x3)] [] (g, I, P) r h' := by
  refine z_iload_n 2 dX12_ghost_14 rfl ?_
  refine z_if_le (t := 79) dX12_ghost_15 (by decide) (fun q => ?_) (fun q => ?_)
  · have H1 := H.1 q
    refine z_iconst (w := (-1)) dX12_ghost_79 (by decide) (z_istore_n (lv' := [(3, .int (-1)), (0, .ref a0), (2, .int x2)]) dX12_ghost_80 (by decide) rfl (z_iconst (w := 0) dX12_ghost_81 (by decide) (z_istore (lv' := [(4, .int 0), (3, .int (-1)), (0, .ref a0), (2, .int x2)]) dX12_ghost_82 (by decide) rfl ?_)))
    exact z_less [2, 3, 1, 0] rfl H1
  · have H2 := H.2 q
    refine z_iconst (w := 0) dX12_ghost_18 (by decide) (z_istore (lv' := [(4, .int 0), (0, .ref a0), (2, .int x2), (3, .int x3)]) dX12_ghost_19 (by decide) rfl ?_)
    exact z_less [1, 2, 3, 0] rfl H2
set_option maxRecDepth 10000 in
theorem wX12_ghost_21 {g : zG} {I : Nat → Nat → Int32} {P : Nat → Nat → Option Nat} {r : Option Value} {h' : zH} {a0 : Nat} {x2 : Int32} {x3 : Int32} {x4 : Int32} (H : zk g a0 12 ∧ ((I a0 15 ≤ x4) → Zt none mX12_ghost 0 0 14 [(0, .ref a0), (2, .int x2), (3, .int (x3 + (-1)))] [] (g, I, P) r h') ∧ ((¬ I a0 15 ≤ x4) → zk g a0 12 ∧ ∃ b3, P a0 37 = some b3 ∧ zk g a0 12 ∧ ∃ (w6 : Int32), Cl mX12_longOf [.ref a0, .int x4] (g, I, P) (some (.int w6)) (g, I, P) ∧ ((w6 < x3) → zk g b3 14 ∧ vp_in ((7 * x4) + x3) (g.2.2 b3) ∧ Zt none mX12_ghost 0 0 21 [(0, .ref a0), (2, .int x2), (3, .int x3), (4, .int (x4 + 1))] [] (g, zU I b3 ((7 * x4) + x3).toNatClampNeg 0, P) r h') ∧ ((¬ w6 < x3) → zk g a0 12 ∧ ∃ (w11 : Int32), Cl mX12_isWon [.ref a0, .int x4, .int x3] (g, I, P) (some (.int w11)) (g, I, P) ∧ ((w11 = 0) → zk g b3 14 ∧ vp_in ((7 * x4) + x3) (g.2.2 b3) ∧ Zt none mX12_ghost 0 0 21 [(0, .ref a0), (2, .int x2), (3, .int x3), (4, .int (x4 + 1))] [] (g, zU I b3 ((7 * x4) + x3).toNatClampNeg 0, P) r h') ∧ ((¬ w11 = 0) → zk g b3 14 ∧ vp_in ((7 * x4) + x3) (g.2.2 b3) ∧ Zt none mX12_ghost 0 0 21 [(0, .ref a0), (2, .int x2), (3, .int x3), (4, .int (x4 + 1))] [] (g, zU I b3 ((7 * x4) + x3).toNatClampNeg 1, P) r h')))) : Zt none mX12_ghost 0 0 21 [(0, .ref a0), (2, .int x2), (3, .int x3), (4, .int x4)] [] (g, I, P) r h' := by
  refine z_iload 3 dX12_ghost_21 rfl (z_aload_n 0 dX12_ghost_23 rfl rfl (z_getI dX12_ghost_24 wf_X12_190 (by decide) (by decide) rfl H.1 ?_))
  refine z_icmp_ge (t := 73) dX12_ghost_27 (by decide) (fun q => ?_) (fun q => ?_)
  · have H1 := H.2.1 q
    refine z_iinc (y := x3 + (-1)) (lv' := [(3, .int (x3 + (-1))), (0, .ref a0), (2, .int x2), (4, .int x4)]) 2 dX12_ghost_73 rfl rfl (by decide) rfl (z_goto (t := 14) dX12_ghost_76 (by decide) ?_)
    exact z_less [1, 2, 0] rfl H1
  · have H2 := H.2.2 q
    refine z_aload_n 0 dX12_ghost_30 rfl rfl ?_
    obtain ⟨oe5, b3, e5, H4⟩ := H2
    refine z_getP dX12_ghost_31 wf_X12_62 (by decide) (by decide) rfl oe5 (fun q => (by cases q.symm.trans e5)) (fun j q => ?_)
    cases q.symm.trans e5
    refine z_bipush (w := 7) dX12_ghost_34 (by decide) (z_iload 3 dX12_ghost_36 rfl (z_imul dX12_ghost_38 (z_iload_n 2 dX12_ghost_39 rfl (z_iadd dX12_ghost_40 (z_iload_n 2 dX12_ghost_41 rfl (z_aload_n 0 dX12_ghost_42 rfl rfl (z_iload 3 dX12_ghost_43 rfl ?_)))))))
    obtain ⟨oc7, w6, c7, H8⟩ := H4
    refine z_virt (As := [.int x4]) (st := [.int x3, .int ((7 * x4) + x3), .ref b3]) (r1 := (some (.int w6))) (h1 := (g, I, P)) dX12_ghost_45 kX12_longOf wm_X12_205 ⟨by decide, by decide⟩ rfl rfl (Nat.le_of_ble_eq_true rfl) (by decide) (by decide) oc7 c7 ?_
    refine z_icmp_gt (t := 65) dX12_ghost_48 (by decide) (fun q => ?_) (fun q => ?_)
    · have H9 := H8.1 q
      refine z_iconst (w := 0) dX12_ghost_65 (by decide) (z_zast (g := g) (I := I) (Q := P) dX12_ghost_66 H9.1 H9.2.1 (Or.inl rfl) (z_iinc (y := x4 + 1) (lv' := [(4, .int (x4 + 1)), (0, .ref a0), (2, .int x2), (3, .int x3)]) 3 dX12_ghost_67 rfl rfl (by decide) rfl (z_goto (t := 21) dX12_ghost_70 (by decide) ?_)))
      exact z_less [1, 2, 3, 0] rfl H9.2.2
    · have H10 := H8.2 q
      refine z_aload_n 0 dX12_ghost_51 rfl rfl (z_iload 3 dX12_ghost_52 rfl (z_iload_n 2 dX12_ghost_54 rfl ?_))
      obtain ⟨oc12, w11, c12, H13⟩ := H10
      refine z_virt (As := [.int x4, .int x3]) (st := [.int ((7 * x4) + x3), .ref b3]) (r1 := (some (.int w11))) (h1 := (g, I, P)) dX12_ghost_55 kX12_isWon wm_X12_352 ⟨by decide, by decide⟩ rfl rfl (Nat.le_of_ble_eq_true rfl) (by decide) (by decide) oc12 c12 ?_
      refine z_if_eq (t := 65) dX12_ghost_58 (by decide) (fun q => ?_) (fun q => ?_)
      · have H14 := H13.1 q
        refine z_iconst (w := 0) dX12_ghost_65 (by decide) (z_zast (g := g) (I := I) (Q := P) dX12_ghost_66 H14.1 H14.2.1 (Or.inl rfl) (z_iinc (y := x4 + 1) (lv' := [(4, .int (x4 + 1)), (0, .ref a0), (2, .int x2), (3, .int x3)]) 3 dX12_ghost_67 rfl rfl (by decide) rfl (z_goto (t := 21) dX12_ghost_70 (by decide) ?_)))
        exact z_less [1, 2, 3, 0] rfl H14.2.2
      · have H15 := H13.2 q
        refine z_iconst (w := 1) dX12_ghost_61 (by decide) (z_goto (t := 66) dX12_ghost_62 (by decide) (z_zast (g := g) (I := I) (Q := P) dX12_ghost_66 H15.1 H15.2.1 (Or.inr rfl) (z_iinc (y := x4 + 1) (lv' := [(4, .int (x4 + 1)), (0, .ref a0), (2, .int x2), (3, .int x3)]) 3 dX12_ghost_67 rfl rfl (by decide) rfl (z_goto (t := 21) dX12_ghost_70 (by decide) ?_))))
        exact z_less [1, 2, 3, 0] rfl H15.2.2
set_option maxRecDepth 10000 in
theorem wX12_ghost_84 {g : zG} {I : Nat → Nat → Int32} {P : Nat → Nat → Option Nat} {r : Option Value} {h' : zH} {a0 : Nat} {x2 : Int32} {x3 : Int32} {x4 : Int32} (H : zk g a0 12 ∧ ((I a0 15 ≤ x4) → ((x2 = 0) → ((¬ x3 = (-1)) → r = some (.int 1) ∧ h' = (g, I, P)) ∧ ((x3 = (-1)) → r = some (.int 0) ∧ h' = (g, I, P))) ∧ ((¬ x2 = 0) → r = some (.int x3) ∧ h' = (g, I, P))) ∧ ((¬ I a0 15 ≤ x4) → zk g a0 12 ∧ ∃ (w7 : Int32), Cl mX12_isWhole [.ref a0, .int x4, .int 1] (g, I, P) (some (.int w7)) (g, I, P) ∧ ((¬ w7 = 0) → Zt none mX12_ghost 0 0 84 [(0, .ref a0), (2, .int x2), (3, .int x3), (4, .int (x4 + 1))] [] (g, I, P) r h') ∧ ((w7 = 0) → zk g a0 12 ∧ ∃ b12, P a0 37 = some b12 ∧ zk g b12 14 ∧ vp_in ((7 * x4) + 1) (g.2.2 b12) ∧ ((¬ I b12 ((7 * x4) + 1).toNatClampNeg = 0) → Zt none mX12_ghost 0 0 84 [(0, .ref a0), (2, .int x2), (3, .int x3), (4, .int (x4 + 1))] [] (g, I, P) r h') ∧ ((I b12 ((7 * x4) + 1).toNatClampNeg = 0) → ((x3 = (-1)) → zk g a0 12 ∧ ∃ (w18 : Int32), Cl mX12_letterOf [.ref a0, .int x4, .int 0] (g, I, P) (some (.int w18)) (g, I, P) ∧ Zt none mX12_ghost 0 0 84 [(0, .ref a0), (2, .int x2), (3, .int w18), (4, .int (x4 + 1))] [] (g, I, P) r h') ∧ ((¬ x3 = (-1)) → zk g a0 12 ∧ ∃ (w22 : Int32), Cl mX12_letterOf [.ref a0, .int x4, .int 0] (g, I, P) (some (.int w22)) (g, I, P) ∧ ((x3 ≤ w22) → Zt none mX12_ghost 0 0 84 [(0, .ref a0), (2, .int x2), (3, .int x3), (4, .int (x4 + 1))] [] (g, I, P) r h') ∧ ((¬ x3 ≤ w22) → zk g a0 12 ∧ ∃ (w27 : Int32), Cl mX12_letterOf [.ref a0, .int x4, .int 0] (g, I, P) (some (.int w27)) (g, I, P) ∧ Zt none mX12_ghost 0 0 84 [(0, .ref a0), (2, .int x2), (3, .int w27), (4, .int (x4 + 1))] [] (g, I, P) r h')))))) : Zt none mX12_ghost 0 0 84 [(0, .ref a0), (2, .int x2), (3, .int x3), (4, .int x4)] [] (g, I, P) r h' := by
  refine z_iload 3 dX12_ghost_84 rfl (z_aload_n 0 dX12_ghost_86 rfl rfl (z_getI dX12_ghost_87 wf_X12_190 (by decide) (by decide) rfl H.1 ?_))
  refine z_icmp_ge (t := 148) dX12_ghost_90 (by decide) (fun q => ?_) (fun q => ?_)
  · have H1 := H.2.1 q
    refine z_iload_n 1 dX12_ghost_148 rfl ?_
    refine z_if_eq (t := 156) dX12_ghost_149 (by decide) (fun q => ?_) (fun q => ?_)
    · have H2 := H1.1 q
      refine z_iload_n 2 dX12_ghost_156 rfl (z_iconst (w := (-1)) dX12_ghost_157 (by decide) ?_)
      refine z_icmp_ne (t := 165) dX12_ghost_158 (by decide) (fun q => ?_) (fun q => ?_)
      · have H3 := H2.1 q
        refine z_iconst (w := 1) dX12_ghost_165 (by decide) ?_
        obtain ⟨rfl, rfl⟩ := H3
        exact z_iret dX12_ghost_166 rfl (by decide) (by decide)
      · have H4 := H2.2 q
        refine z_iconst (w := 0) dX12_ghost_161 (by decide) (z_goto (t := 166) dX12_ghost_162 (by decide) ?_)
        obtain ⟨rfl, rfl⟩ := H4
        exact z_iret dX12_ghost_166 rfl (by decide) (by decide)
    · have H5 := H1.2 q
      refine z_iload_n 2 dX12_ghost_152 rfl (z_goto (t := 166) dX12_ghost_153 (by decide) ?_)
      obtain ⟨rfl, rfl⟩ := H5
      exact z_iret dX12_ghost_166 rfl (by decide) (by decide)
  · have H6 := H.2.2 q
    refine z_aload_n 0 dX12_ghost_93 rfl rfl (z_iload 3 dX12_ghost_94 rfl (z_iconst (w := 1) dX12_ghost_96 (by decide) ?_))
    obtain ⟨oc8, w7, c8, H9⟩ := H6
    refine z_virt (As := [.int x4, .int 1]) (st := []) (r1 := (some (.int w7))) (h1 := (g, I, P)) dX12_ghost_97 kX12_isWhole wm_X12_349 ⟨by decide, by decide⟩ rfl rfl (Nat.le_of_ble_eq_true rfl) (by decide) (by decide) oc8 c8 ?_
    refine z_if_ne (t := 142) dX12_ghost_100 (by decide) (fun q => ?_) (fun q => ?_)
    · have H10 := H9.1 q
      refine z_iinc (y := x4 + 1) (lv' := [(4, .int (x4 + 1)), (0, .ref a0), (2, .int x2), (3, .int x3)]) 3 dX12_ghost_142 rfl rfl (by decide) rfl (z_goto (t := 84) dX12_ghost_145 (by decide) ?_)
      exact z_less [1, 2, 3, 0] rfl H10
    · have H11 := H9.2 q
      refine z_aload_n 0 dX12_ghost_103 rfl rfl ?_
      obtain ⟨oe14, b12, e14, H13⟩ := H11
      refine z_getP dX12_ghost_104 wf_X12_62 (by decide) (by decide) rfl oe14 (fun q => (by cases q.symm.trans e14)) (fun j q => ?_)
      cases q.symm.trans e14
      refine z_bipush (w := 7) dX12_ghost_107 (by decide) (z_iload 3 dX12_ghost_109 rfl (z_imul dX12_ghost_111 (z_iconst (w := 1) dX12_ghost_112 (by decide) (z_iadd dX12_ghost_113 (z_zald dX12_ghost_114 H13.1 H13.2.1 ?_)))))
      refine z_if_ne (t := 142) dX12_ghost_115 (by decide) (fun q => ?_) (fun q => ?_)
      · have H15 := H13.2.2.1 q
        refine z_iinc (y := x4 + 1) (lv' := [(4, .int (x4 + 1)), (0, .ref a0), (2, .int x2), (3, .int x3)]) 3 dX12_ghost_142 rfl rfl (by decide) rfl (z_goto (t := 84) dX12_ghost_145 (by decide) ?_)
        exact z_less [1, 2, 3, 0] rfl H15
      · have H16 := H13.2.2.2 q
        refine z_iload_n 2 dX12_ghost_118 rfl (z_iconst (w := (-1)) dX12_ghost_119 (by decide) ?_)
        refine z_icmp_eq (t := 134) dX12_ghost_120 (by decide) (fun q => ?_) (fun q => ?_)
        · have H17 := H16.1 q
          refine z_aload_n 0 dX12_ghost_134 rfl rfl (z_iload 3 dX12_ghost_135 rfl (z_iconst (w := 0) dX12_ghost_137 (by decide) ?_))
          obtain ⟨oc19, w18, c19, H20⟩ := H17
          refine z_virt (As := [.int x4, .int 0]) (st := []) (r1 := (some (.int w18))) (h1 := (g, I, P)) dX12_ghost_138 kX12_letterOf wm_X12_214 ⟨by decide, by decide⟩ rfl rfl (Nat.le_of_ble_eq_true rfl) (by decide) (by decide) oc19 c19 ?_
          refine z_istore_n (lv' := [(3, .int w18), (0, .ref a0), (2, .int x2), (4, .int x4)]) dX12_ghost_141 (by decide) rfl (z_iinc (y := x4 + 1) (lv' := [(4, .int (x4 + 1)), (3, .int w18), (0, .ref a0), (2, .int x2)]) 3 dX12_ghost_142 rfl rfl (by decide) rfl (z_goto (t := 84) dX12_ghost_145 (by decide) ?_))
          exact z_less [2, 3, 1, 0] rfl H20
        · have H21 := H16.2 q
          refine z_aload_n 0 dX12_ghost_123 rfl rfl (z_iload 3 dX12_ghost_124 rfl (z_iconst (w := 0) dX12_ghost_126 (by decide) ?_))
          obtain ⟨oc23, w22, c23, H24⟩ := H21
          refine z_virt (As := [.int x4, .int 0]) (st := []) (r1 := (some (.int w22))) (h1 := (g, I, P)) dX12_ghost_127 kX12_letterOf wm_X12_214 ⟨by decide, by decide⟩ rfl rfl (Nat.le_of_ble_eq_true rfl) (by decide) (by decide) oc23 c23 ?_
          refine z_iload_n 2 dX12_ghost_130 rfl ?_
          refine z_icmp_ge (t := 142) dX12_ghost_131 (by decide) (fun q => ?_) (fun q => ?_)
          · have H25 := H24.1 q
            refine z_iinc (y := x4 + 1) (lv' := [(4, .int (x4 + 1)), (0, .ref a0), (2, .int x2), (3, .int x3)]) 3 dX12_ghost_142 rfl rfl (by decide) rfl (z_goto (t := 84) dX12_ghost_145 (by decide) ?_)
            exact z_less [1, 2, 3, 0] rfl H25
          · have H26 := H24.2 q
            refine z_aload_n 0 dX12_ghost_134 rfl rfl (z_iload 3 dX12_ghost_135 rfl (z_iconst (w := 0) dX12_ghost_137 (by decide) ?_))
            obtain ⟨oc28, w27, c28, H29⟩ := H26
            refine z_virt (As := [.int x4, .int 0]) (st := []) (r1 := (some (.int w27))) (h1 := (g, I, P)) dX12_ghost_138 kX12_letterOf wm_X12_214 ⟨by decide, by decide⟩ rfl rfl (Nat.le_of_ble_eq_true rfl) (by decide) (by decide) oc28 c28 ?_
            refine z_istore_n (lv' := [(3, .int w27), (0, .ref a0), (2, .int x2), (4, .int x4)]) dX12_ghost_141 (by decide) rfl (z_iinc (y := x4 + 1) (lv' := [(4, .int (x4 + 1)), (3, .int w27), (0, .ref a0), (2, .int x2)]) 3 dX12_ghost_142 rfl rfl (by decide) rfl (z_goto (t := 84) dX12_ghost_145 (by decide) ?_))
            exact z_less [2, 3, 1, 0] rfl H29
theorem dX12_isLog_0 : decode cX12_isLog 0 = .ok (.aload_n 0, 1) := by decide +kernel
theorem dX12_isLog_1 : decode cX12_isLog 1 = .ok (.iconst 3, 1) := by decide +kernel
theorem dX12_isLog_2 : decode cX12_isLog 2 = .ok (.iload_n 1, 1) := by decide +kernel
theorem dX12_isLog_3 : decode cX12_isLog 3 = .ok (.invokevirtual 158, 3) := by decide +kernel
theorem dX12_isLog_6 : decode cX12_isLog 6 = .ok (.ifCond .ne 5, 3) := by decide +kernel
theorem dX12_isLog_9 : decode cX12_isLog 9 = .ok (.iconst 0, 1) := by decide +kernel
theorem dX12_isLog_10 : decode cX12_isLog 10 = .ok (.ireturn, 1) := by decide +kernel
theorem dX12_isLog_11 : decode cX12_isLog 11 = .ok (.aload_n 0, 1) := by decide +kernel
theorem dX12_isLog_12 : decode cX12_isLog 12 = .ok (.iconst 3, 1) := by decide +kernel
theorem dX12_isLog_13 : decode cX12_isLog 13 = .ok (.iload_n 1, 1) := by decide +kernel
theorem dX12_isLog_14 : decode cX12_isLog 14 = .ok (.invokestatic 181, 3) := by decide +kernel
theorem dX12_isLog_17 : decode cX12_isLog 17 = .ok (.putfield 355, 3) := by decide +kernel
theorem dX12_isLog_20 : decode cX12_isLog 20 = .ok (.aload_n 0, 1) := by decide +kernel
theorem dX12_isLog_21 : decode cX12_isLog 21 = .ok (.iconst 0, 1) := by decide +kernel
theorem dX12_isLog_22 : decode cX12_isLog 22 = .ok (.putfield 358, 3) := by decide +kernel
theorem dX12_isLog_25 : decode cX12_isLog 25 = .ok (.iconst 0, 1) := by decide +kernel
theorem dX12_isLog_26 : decode cX12_isLog 26 = .ok (.istore_n 2, 1) := by decide +kernel
theorem dX12_isLog_27 : decode cX12_isLog 27 = .ok (.iload_n 2, 1) := by decide +kernel
theorem dX12_isLog_28 : decode cX12_isLog 28 = .ok (.aload_n 0, 1) := by decide +kernel
theorem dX12_isLog_29 : decode cX12_isLog 29 = .ok (.getfield 7, 3) := by decide +kernel
theorem dX12_isLog_32 : decode cX12_isLog 32 = .ok (.aload_n 0, 1) := by decide +kernel
theorem dX12_isLog_33 : decode cX12_isLog 33 = .ok (.getfield 355, 3) := by decide +kernel
theorem dX12_isLog_36 : decode cX12_isLog 36 = .ok (.iaload, 1) := by decide +kernel
theorem dX12_isLog_37 : decode cX12_isLog 37 = .ok (.if_icmp .ge 57, 3) := by decide +kernel
theorem dX12_isLog_40 : decode cX12_isLog 40 = .ok (.aload_n 0, 1) := by decide +kernel
theorem dX12_isLog_41 : decode cX12_isLog 41 = .ok (.aload_n 0, 1) := by decide +kernel
theorem dX12_isLog_42 : decode cX12_isLog 42 = .ok (.getfield 7, 3) := by decide +kernel
theorem dX12_isLog_45 : decode cX12_isLog 45 = .ok (.aload_n 0, 1) := by decide +kernel
theorem dX12_isLog_46 : decode cX12_isLog 46 = .ok (.getfield 355, 3) := by decide +kernel
theorem dX12_isLog_49 : decode cX12_isLog 49 = .ok (.iconst 1, 1) := by decide +kernel
theorem dX12_isLog_50 : decode cX12_isLog 50 = .ok (.iadd, 1) := by decide +kernel
theorem dX12_isLog_51 : decode cX12_isLog 51 = .ok (.iconst 2, 1) := by decide +kernel
theorem dX12_isLog_52 : decode cX12_isLog 52 = .ok (.iload_n 2, 1) := by decide +kernel
theorem dX12_isLog_53 : decode cX12_isLog 53 = .ok (.imul, 1) := by decide +kernel
theorem dX12_isLog_54 : decode cX12_isLog 54 = .ok (.iadd, 1) := by decide +kernel
theorem dX12_isLog_55 : decode cX12_isLog 55 = .ok (.iaload, 1) := by decide +kernel
theorem dX12_isLog_56 : decode cX12_isLog 56 = .ok (.aload_n 0, 1) := by decide +kernel
theorem dX12_isLog_57 : decode cX12_isLog 57 = .ok (.getfield 358, 3) := by decide +kernel
theorem dX12_isLog_60 : decode cX12_isLog 60 = .ok (.if_icmp .le 21, 3) := by decide +kernel
theorem dX12_isLog_63 : decode cX12_isLog 63 = .ok (.aload_n 0, 1) := by decide +kernel
theorem dX12_isLog_64 : decode cX12_isLog 64 = .ok (.getfield 7, 3) := by decide +kernel
theorem dX12_isLog_67 : decode cX12_isLog 67 = .ok (.aload_n 0, 1) := by decide +kernel
theorem dX12_isLog_68 : decode cX12_isLog 68 = .ok (.getfield 355, 3) := by decide +kernel
theorem dX12_isLog_71 : decode cX12_isLog 71 = .ok (.iconst 1, 1) := by decide +kernel
theorem dX12_isLog_72 : decode cX12_isLog 72 = .ok (.iadd, 1) := by decide +kernel
theorem dX12_isLog_73 : decode cX12_isLog 73 = .ok (.iconst 2, 1) := by decide +kernel
theorem dX12_isLog_74 : decode cX12_isLog 74 = .ok (.iload_n 2, 1) := by decide +kernel
theorem dX12_isLog_75 : decode cX12_isLog 75 = .ok (.imul, 1) := by decide +kernel
theorem dX12_isLog_76 : decode cX12_isLog 76 = .ok (.iadd, 1) := by decide +kernel
theorem dX12_isLog_77 : decode cX12_isLog 77 = .ok (.iaload, 1) := by decide +kernel
theorem dX12_isLog_78 : decode cX12_isLog 78 = .ok (.goto 7, 3) := by decide +kernel
theorem dX12_isLog_81 : decode cX12_isLog 81 = .ok (.aload_n 0, 1) := by decide +kernel
theorem dX12_isLog_82 : decode cX12_isLog 82 = .ok (.getfield 358, 3) := by decide +kernel
theorem dX12_isLog_85 : decode cX12_isLog 85 = .ok (.putfield 358, 3) := by decide +kernel
theorem dX12_isLog_88 : decode cX12_isLog 88 = .ok (.iinc 2 1, 3) := by decide +kernel
theorem dX12_isLog_91 : decode cX12_isLog 91 = .ok (.goto (-64), 3) := by decide +kernel
theorem dX12_isLog_94 : decode cX12_isLog 94 = .ok (.iconst 1, 1) := by decide +kernel
theorem dX12_isLog_95 : decode cX12_isLog 95 = .ok (.ireturn, 1) := by decide +kernel
set_option maxRecDepth 10000 in
theorem wX12_isLog_0 {g : zG} {I : Nat → Nat → Int32} {P : Nat → Nat → Option Nat} {r : Option Value} {h' : zH} {a0 : Nat} {x1 : Int32} (H : zk g a0 12 ∧ ∃ (w1 : Int32), Cl mX12_isOf [.ref a0, .int 3, .int x1] (g, I, P) (some (.int w1)) (g, I, P) ∧ ((¬ w1 = 0) → ∃ (w5 : Int32), Cl mX12_placeOf [.int 3, .int x1] (g, I, P) (some (.int w5)) (g, I, P) ∧ zk g a0 12 ∧ zk g a0 12 ∧ Zt none mX12_isLog 0 0 27 [(0, .ref a0), (2, .int 0)] [] (g, zU (zU I a0 38 w5) a0 39 0, P) r h') ∧ ((w1 = 0) → r = some (.int 0) ∧ h' = (g, I, P))) : Zt none mX12_isLog 0 0 0 [(0, .ref a0), (1, .int x1)] [] (g, I, P) r h' := by
  refine z_aload_n 0 dX12_isLog_0 rfl rfl (z_iconst (w := 3) dX12_isLog_1 (by decide) (z_iload_n 1 dX12_isLog_2 rfl ?_))
  obtain ⟨oc2, w1, c2, H3⟩ := H
  refine z_virt (As := [.int 3, .int x1]) (st := []) (r1 := (some (.int w1))) (h1 := (g, I, P)) dX12_isLog_3 kX12_isOf wm_X12_158 ⟨by decide, by decide⟩ rfl rfl (Nat.le_of_ble_eq_true rfl) (by decide) (by decide) oc2 c2 ?_
  refine z_if_ne (t := 11) dX12_isLog_6 (by decide) (fun q => ?_) (fun q => ?_)
  · have H4 := H3.1 q
    refine z_aload_n 0 dX12_isLog_11 rfl rfl (z_iconst (w := 3) dX12_isLog_12 (by decide) (z_iload_n 1 dX12_isLog_13 rfl ?_))
    obtain ⟨w5, c6, H7⟩ := H4
    refine z_stat (As := [.int 3, .int x1]) (st := [.ref a0]) (r1 := (some (.int w5))) (h1 := (g, I, P)) dX12_isLog_14 kX12_placeOf wm_X12_181 ⟨by decide, by decide⟩ rfl rfl (Nat.le_of_ble_eq_true rfl) (by decide) (by decide) c6 ?_
    refine z_putI (g := g) (I := I) (Q := P) dX12_isLog_17 wf_X12_355 (by decide) (by decide) rfl (Or.inl rfl) (zfit_int rfl) H7.1 (z_aload_n 0 dX12_isLog_20 rfl rfl (z_iconst (w := 0) dX12_isLog_21 (by decide) (z_putI (g := g) (I := zU I a0 38 w5) (Q := P) dX12_isLog_22 wf_X12_358 (by decide) (by decide) rfl (Or.inl rfl) (zfit_int rfl) H7.2.1 (z_iconst (w := 0) dX12_isLog_25 (by decide) (z_istore_n (lv' := [(2, .int 0), (0, .ref a0), (1, .int x1)]) dX12_isLog_26 (by decide) rfl ?_)))))
    exact z_less [1, 0] rfl H7.2.2
  · have H8 := H3.2 q
    refine z_iconst (w := 0) dX12_isLog_9 (by decide) ?_
    obtain ⟨rfl, rfl⟩ := H8
    exact z_zret dX12_isLog_10 rfl (Or.inl rfl) (by decide) (by decide)
theorem eX12_isLog {g : zG} {I : Nat → Nat → Int32} {P : Nat → Nat → Option Nat} {r : Option Value} {h' : zH} {a0 : Nat} {x1 : Int32} (H : Zt none mX12_isLog 0 0 0 [(0, .ref a0), (1, .int x1)] [] (g, I, P) r h') : Cl mX12_isLog [.ref a0, .int x1] (g, I, P) r h' := Cl.of (by decide) (Nat.le_of_ble_eq_true rfl) H
set_option maxRecDepth 10000 in
theorem wX12_isLog_27 {g : zG} {I : Nat → Nat → Int32} {P : Nat → Nat → Option Nat} {r : Option Value} {h' : zH} {a0 : Nat} {x2 : Int32} (H : zk g a0 12 ∧ ∃ b1, P a0 0 = some b1 ∧ zk g a0 12 ∧ zk g b1 13 ∧ vp_in (I a0 38) (g.2.2 b1) ∧ ((I b1 (I a0 38).toNatClampNeg ≤ x2) → r = some (.int 1) ∧ h' = (g, I, P)) ∧ ((¬ I b1 (I a0 38).toNatClampNeg ≤ x2) → zk g a0 12 ∧ ∃ b6, P a0 0 = some b6 ∧ zk g a0 12 ∧ zk g b6 13 ∧ vp_in (((I a0 38) + 1) + (2 * x2)) (g.2.2 b6) ∧ zk g a0 12 ∧ ((I b6 (((I a0 38) + 1) + (2 * x2)).toNatClampNeg ≤ I a0 39) → zk g a0 12 ∧ zk g a0 12 ∧ Zt none mX12_isLog 0 0 27 [(0, .ref a0), (2, .int (x2 + 1))] [] (g, zU I a0 39 (I a0 39), P) r h') ∧ ((¬ I b6 (((I a0 38) + 1) + (2 * x2)).toNatClampNeg ≤ I a0 39) → zk g a0 12 ∧ ∃ b11, P a0 0 = some b11 ∧ zk g a0 12 ∧ zk g b11 13 ∧ vp_in (((I a0 38) + 1) + (2 * x2)) (g.2.2 b11) ∧ zk g a0 12 ∧ Zt none mX12_isLog 0 0 27 [(0, .ref a0), (2, .int (x2 + 1))] [] (g, zU I a0 39 (I b11 (((I a0 38) + 1) + (2 * x2)).toNatClampNeg), P) r h'))) : Zt none mX12_isLog 0 0 27 [(0, .ref a0), (2, .int x2)] [] (g, I, P) r h' := by
  refine z_iload_n 1 dX12_isLog_27 rfl (z_aload_n 0 dX12_isLog_28 rfl rfl ?_)
  obtain ⟨oe3, b1, e3, H2⟩ := H
  refine z_getP dX12_isLog_29 wf_X12_7 (by decide) (by decide) rfl oe3 (fun q => (by cases q.symm.trans e3)) (fun j q => ?_)
  cases q.symm.trans e3
  refine z_aload_n 0 dX12_isLog_32 rfl rfl (z_getI dX12_isLog_33 wf_X12_355 (by decide) (by decide) rfl H2.1 (z_iald dX12_isLog_36 H2.2.1 H2.2.2.1 ?_))
  refine z_icmp_ge (t := 94) dX12_isLog_37 (by decide) (fun q => ?_) (fun q => ?_)
  · have H4 := H2.2.2.2.1 q
    refine z_iconst (w := 1) dX12_isLog_94 (by decide) ?_
    obtain ⟨rfl, rfl⟩ := H4
    exact z_zret dX12_isLog_95 rfl (Or.inr rfl) (by decide) (by decide)
  · have H5 := H2.2.2.2.2 q
    refine z_aload_n 0 dX12_isLog_40 rfl rfl (z_aload_n 0 dX12_isLog_41 rfl rfl ?_)
    obtain ⟨oe8, b6, e8, H7⟩ := H5
    refine z_getP dX12_isLog_42 wf_X12_7 (by decide) (by decide) rfl oe8 (fun q => (by cases q.symm.trans e8)) (fun j q => ?_)
    cases q.symm.trans e8
    refine z_aload_n 0 dX12_isLog_45 rfl rfl (z_getI dX12_isLog_46 wf_X12_355 (by decide) (by decide) rfl H7.1 (z_iconst (w := 1) dX12_isLog_49 (by decide) (z_iadd dX12_isLog_50 (z_iconst (w := 2) dX12_isLog_51 (by decide) (z_iload_n 1 dX12_isLog_52 rfl (z_imul dX12_isLog_53 (z_iadd dX12_isLog_54 (z_iald dX12_isLog_55 H7.2.1 H7.2.2.1 (z_aload_n 0 dX12_isLog_56 rfl rfl (z_getI dX12_isLog_57 wf_X12_358 (by decide) (by decide) rfl H7.2.2.2.1 ?_))))))))))
    refine z_icmp_le (t := 81) dX12_isLog_60 (by decide) (fun q => ?_) (fun q => ?_)
    · have H9 := H7.2.2.2.2.1 q
      refine z_aload_n 0 dX12_isLog_81 rfl rfl (z_getI dX12_isLog_82 wf_X12_358 (by decide) (by decide) rfl H9.1 (z_putI (g := g) (I := I) (Q := P) dX12_isLog_85 wf_X12_358 (by decide) (by decide) rfl (Or.inl rfl) (zfit_int rfl) H9.2.1 (z_iinc (y := x2 + 1) (lv' := [(2, .int (x2 + 1)), (0, .ref a0)]) 1 dX12_isLog_88 rfl rfl (by decide) rfl (z_goto (t := 27) dX12_isLog_91 (by decide) ?_))))
      exact z_less [1, 0] rfl H9.2.2
    · have H10 := H7.2.2.2.2.2 q
      refine z_aload_n 0 dX12_isLog_63 rfl rfl ?_
      obtain ⟨oe13, b11, e13, H12⟩ := H10
      refine z_getP dX12_isLog_64 wf_X12_7 (by decide) (by decide) rfl oe13 (fun q => (by cases q.symm.trans e13)) (fun j q => ?_)
      cases q.symm.trans e13
      refine z_aload_n 0 dX12_isLog_67 rfl rfl (z_getI dX12_isLog_68 wf_X12_355 (by decide) (by decide) rfl H12.1 (z_iconst (w := 1) dX12_isLog_71 (by decide) (z_iadd dX12_isLog_72 (z_iconst (w := 2) dX12_isLog_73 (by decide) (z_iload_n 1 dX12_isLog_74 rfl (z_imul dX12_isLog_75 (z_iadd dX12_isLog_76 (z_iald dX12_isLog_77 H12.2.1 H12.2.2.1 (z_goto (t := 85) dX12_isLog_78 (by decide) (z_putI (g := g) (I := I) (Q := P) dX12_isLog_85 wf_X12_358 (by decide) (by decide) rfl (Or.inl rfl) (zfit_int rfl) H12.2.2.2.1 (z_iinc (y := x2 + 1) (lv' := [(2, .int (x2 + 1)), (0, .ref a0)]) 1 dX12_isLog_88 rfl rfl (by decide) rfl (z_goto (t := 27) dX12_isLog_91 (by decide) ?_))))))))))))
      exact z_less [1, 0] rfl H12.2.2.2.2
theorem dX12_fact_0 : decode cX12_fact 0 = .ok (.aload_n 0, 1) := by decide +kernel
theorem dX12_fact_1 : decode cX12_fact 1 = .ok (.iload_n 1, 1) := by decide +kernel
theorem dX12_fact_2 : decode cX12_fact 2 = .ok (.invokevirtual 361, 3) := by decide +kernel
theorem dX12_fact_5 : decode cX12_fact 5 = .ok (.ifCond .ne 6, 3) := by decide +kernel
theorem dX12_fact_8 : decode cX12_fact 8 = .ok (.bipush (-2), 2) := by decide +kernel
theorem dX12_fact_10 : decode cX12_fact 10 = .ok (.ireturn, 1) := by decide +kernel
theorem dX12_fact_11 : decode cX12_fact 11 = .ok (.iload_n 2, 1) := by decide +kernel
theorem dX12_fact_12 : decode cX12_fact 12 = .ok (.iconst (-1), 1) := by decide +kernel
theorem dX12_fact_13 : decode cX12_fact 13 = .ok (.if_icmp .ne 22, 3) := by decide +kernel
theorem dX12_fact_16 : decode cX12_fact 16 = .ok (.iload_n 3, 1) := by decide +kernel
theorem dX12_fact_17 : decode cX12_fact 17 = .ok (.ifCond .ne 15, 3) := by decide +kernel
theorem dX12_fact_20 : decode cX12_fact 20 = .ok (.aload_n 0, 1) := by decide +kernel
theorem dX12_fact_21 : decode cX12_fact 21 = .ok (.getfield 7, 3) := by decide +kernel
theorem dX12_fact_24 : decode cX12_fact 24 = .ok (.aload_n 0, 1) := by decide +kernel
theorem dX12_fact_25 : decode cX12_fact 25 = .ok (.getfield 355, 3) := by decide +kernel
theorem dX12_fact_28 : decode cX12_fact 28 = .ok (.iaload, 1) := by decide +kernel
theorem dX12_fact_29 : decode cX12_fact 29 = .ok (.goto 5, 3) := by decide +kernel
theorem dX12_fact_32 : decode cX12_fact 32 = .ok (.bipush (-2), 2) := by decide +kernel
theorem dX12_fact_34 : decode cX12_fact 34 = .ok (.ireturn, 1) := by decide +kernel
theorem dX12_fact_35 : decode cX12_fact 35 = .ok (.iload_n 2, 1) := by decide +kernel
theorem dX12_fact_36 : decode cX12_fact 36 = .ok (.iconst 0, 1) := by decide +kernel
theorem dX12_fact_37 : decode cX12_fact 37 = .ok (.aload_n 0, 1) := by decide +kernel
theorem dX12_fact_38 : decode cX12_fact 38 = .ok (.getfield 7, 3) := by decide +kernel
theorem dX12_fact_41 : decode cX12_fact 41 = .ok (.aload_n 0, 1) := by decide +kernel
theorem dX12_fact_42 : decode cX12_fact 42 = .ok (.getfield 355, 3) := by decide +kernel
theorem dX12_fact_45 : decode cX12_fact 45 = .ok (.iaload, 1) := by decide +kernel
theorem dX12_fact_46 : decode cX12_fact 46 = .ok (.iconst 1, 1) := by decide +kernel
theorem dX12_fact_47 : decode cX12_fact 47 = .ok (.isub, 1) := by decide +kernel
theorem dX12_fact_48 : decode cX12_fact 48 = .ok (.invokestatic 120, 3) := by decide +kernel
theorem dX12_fact_51 : decode cX12_fact 51 = .ok (.ifCond .eq 32, 3) := by decide +kernel
theorem dX12_fact_54 : decode cX12_fact 54 = .ok (.iload_n 3, 1) := by decide +kernel
theorem dX12_fact_55 : decode cX12_fact 55 = .ok (.iconst 0, 1) := by decide +kernel
theorem dX12_fact_56 : decode cX12_fact 56 = .ok (.iconst 1, 1) := by decide +kernel
theorem dX12_fact_57 : decode cX12_fact 57 = .ok (.invokestatic 120, 3) := by decide +kernel
theorem dX12_fact_60 : decode cX12_fact 60 = .ok (.ifCond .eq 23, 3) := by decide +kernel
theorem dX12_fact_63 : decode cX12_fact 63 = .ok (.aload_n 0, 1) := by decide +kernel
theorem dX12_fact_64 : decode cX12_fact 64 = .ok (.getfield 7, 3) := by decide +kernel
theorem dX12_fact_67 : decode cX12_fact 67 = .ok (.aload_n 0, 1) := by decide +kernel
theorem dX12_fact_68 : decode cX12_fact 68 = .ok (.getfield 355, 3) := by decide +kernel
theorem dX12_fact_71 : decode cX12_fact 71 = .ok (.iconst 1, 1) := by decide +kernel
theorem dX12_fact_72 : decode cX12_fact 72 = .ok (.iadd, 1) := by decide +kernel
theorem dX12_fact_73 : decode cX12_fact 73 = .ok (.iconst 2, 1) := by decide +kernel
theorem dX12_fact_74 : decode cX12_fact 74 = .ok (.iload_n 2, 1) := by decide +kernel
theorem dX12_fact_75 : decode cX12_fact 75 = .ok (.imul, 1) := by decide +kernel
theorem dX12_fact_76 : decode cX12_fact 76 = .ok (.iadd, 1) := by decide +kernel
theorem dX12_fact_77 : decode cX12_fact 77 = .ok (.iload_n 3, 1) := by decide +kernel
theorem dX12_fact_78 : decode cX12_fact 78 = .ok (.iadd, 1) := by decide +kernel
theorem dX12_fact_79 : decode cX12_fact 79 = .ok (.iaload, 1) := by decide +kernel
theorem dX12_fact_80 : decode cX12_fact 80 = .ok (.goto 5, 3) := by decide +kernel
theorem dX12_fact_83 : decode cX12_fact 83 = .ok (.bipush (-2), 2) := by decide +kernel
theorem dX12_fact_85 : decode cX12_fact 85 = .ok (.ireturn, 1) := by decide +kernel
set_option maxRecDepth 10000 in
theorem wX12_fact_0 {g : zG} {I : Nat → Nat → Int32} {P : Nat → Nat → Option Nat} {r : Option Value} {h' : zH} {a0 : Nat} {x1 : Int32} {x2 : Int32} {x3 : Int32} (H : zk g a0 12 ∧ ∃ (w1 : Int32) (I2 : Nat → Nat → Int32), Cl mX12_isLog [.ref a0, .int x1] (g, I, P) (some (.int w1)) (g, I2, P) ∧ ((¬ w1 = 0) → ((¬ x2 = (-1)) → zk g a0 12 ∧ ∃ b7, P a0 0 = some b7 ∧ zk g a0 12 ∧ zk g b7 13 ∧ vp_in (I2 a0 38) (g.2.2 b7) ∧ ∃ (w10 : Int32), Cl mX12_isIn [.int x2, .int 0, .int ((I2 b7 (I2 a0 38).toNatClampNeg) - 1)] (g, I2, P) (some (.int w10)) (g, I2, P) ∧ ((w10 = 0) → r = some (.int (-2)) ∧ h' = (g, I2, P)) ∧ ((¬ w10 = 0) → ∃ (w15 : Int32), Cl mX12_isIn [.int x3, .int 0, .int 1] (g, I2, P) (some (.int w15)) (g, I2, P) ∧ ((w15 = 0) → r = some (.int (-2)) ∧ h' = (g, I2, P)) ∧ ((¬ w15 = 0) → zk g a0 12 ∧ ∃ b20, P a0 0 = some b20 ∧ zk g a0 12 ∧ zk g b20 13 ∧ vp_in ((((I2 a0 38) + 1) + (2 * x2)) + x3) (g.2.2 b20) ∧ r = some (.int (I2 b20 ((((I2 a0 38) + 1) + (2 * x2)) + x3).toNatClampNeg)) ∧ h' = (g, I2, P)))) ∧ ((x2 = (-1)) → ((¬ x3 = 0) → r = some (.int (-2)) ∧ h' = (g, I2, P)) ∧ ((x3 = 0) → zk g a0 12 ∧ ∃ b26, P a0 0 = some b26 ∧ zk g a0 12 ∧ zk g b26 13 ∧ vp_in (I2 a0 38) (g.2.2 b26) ∧ r = some (.int (I2 b26 (I2 a0 38).toNatClampNeg)) ∧ h' = (g, I2, P)))) ∧ ((w1 = 0) → r = some (.int (-2)) ∧ h' = (g, I2, P))) : Zt none mX12_fact 0 0 0 [(0, .ref a0), (1, .int x1), (2, .int x2), (3, .int x3)] [] (g, I, P) r h' := by
  refine z_aload_n 0 dX12_fact_0 rfl rfl (z_iload_n 1 dX12_fact_1 rfl ?_)
  obtain ⟨oc3, w1, I2, c3, H4⟩ := H
  refine z_virt (As := [.int x1]) (st := []) (r1 := (some (.int w1))) (h1 := (g, I2, P)) dX12_fact_2 kX12_isLog wm_X12_361 ⟨by decide, by decide⟩ rfl rfl (Nat.le_of_ble_eq_true rfl) (by decide) (by decide) oc3 c3 ?_
  refine z_if_ne (t := 11) dX12_fact_5 (by decide) (fun q => ?_) (fun q => ?_)
  · have H5 := H4.1 q
    refine z_iload_n 2 dX12_fact_11 rfl (z_iconst (w := (-1)) dX12_fact_12 (by decide) ?_)
    refine z_icmp_ne (t := 35) dX12_fact_13 (by decide) (fun q => ?_) (fun q => ?_)
    · have H6 := H5.1 q
      refine z_iload_n 2 dX12_fact_35 rfl (z_iconst (w := 0) dX12_fact_36 (by decide) (z_aload_n 0 dX12_fact_37 rfl rfl ?_))
      obtain ⟨oe9, b7, e9, H8⟩ := H6
      refine z_getP dX12_fact_38 wf_X12_7 (by decide) (by decide) rfl oe9 (fun q => (by cases q.symm.trans e9)) (fun j q => ?_)
      cases q.symm.trans e9
      refine z_aload_n 0 dX12_fact_41 rfl rfl (z_getI dX12_fact_42 wf_X12_355 (by decide) (by decide) rfl H8.1 (z_iald dX12_fact_45 H8.2.1 H8.2.2.1 (z_iconst (w := 1) dX12_fact_46 (by decide) (z_isub dX12_fact_47 ?_))))
      obtain ⟨w10, c11, H12⟩ := H8.2.2.2
      refine z_stat (As := [.int x2, .int 0, .int ((I2 b7 (I2 a0 38).toNatClampNeg) - 1)]) (st := []) (r1 := (some (.int w10))) (h1 := (g, I2, P)) dX12_fact_48 kX12_isIn wm_X12_120 ⟨by decide, by decide⟩ rfl rfl (Nat.le_of_ble_eq_true rfl) (by decide) (by decide) c11 ?_
      refine z_if_eq (t := 83) dX12_fact_51 (by decide) (fun q => ?_) (fun q => ?_)
      · have H13 := H12.1 q
        refine z_bipush (w := (-2)) dX12_fact_83 (by decide) ?_
        obtain ⟨rfl, rfl⟩ := H13
        exact z_iret dX12_fact_85 rfl (by decide) (by decide)
      · have H14 := H12.2 q
        refine z_iload_n 3 dX12_fact_54 rfl (z_iconst (w := 0) dX12_fact_55 (by decide) (z_iconst (w := 1) dX12_fact_56 (by decide) ?_))
        obtain ⟨w15, c16, H17⟩ := H14
        refine z_stat (As := [.int x3, .int 0, .int 1]) (st := []) (r1 := (some (.int w15))) (h1 := (g, I2, P)) dX12_fact_57 kX12_isIn wm_X12_120 ⟨by decide, by decide⟩ rfl rfl (Nat.le_of_ble_eq_true rfl) (by decide) (by decide) c16 ?_
        refine z_if_eq (t := 83) dX12_fact_60 (by decide) (fun q => ?_) (fun q => ?_)
        · have H18 := H17.1 q
          refine z_bipush (w := (-2)) dX12_fact_83 (by decide) ?_
          obtain ⟨rfl, rfl⟩ := H18
          exact z_iret dX12_fact_85 rfl (by decide) (by decide)
        · have H19 := H17.2 q
          refine z_aload_n 0 dX12_fact_63 rfl rfl ?_
          obtain ⟨oe22, b20, e22, H21⟩ := H19
          refine z_getP dX12_fact_64 wf_X12_7 (by decide) (by decide) rfl oe22 (fun q => (by cases q.symm.trans e22)) (fun j q => ?_)
          cases q.symm.trans e22
          refine z_aload_n 0 dX12_fact_67 rfl rfl (z_getI dX12_fact_68 wf_X12_355 (by decide) (by decide) rfl H21.1 (z_iconst (w := 1) dX12_fact_71 (by decide) (z_iadd dX12_fact_72 (z_iconst (w := 2) dX12_fact_73 (by decide) (z_iload_n 2 dX12_fact_74 rfl (z_imul dX12_fact_75 (z_iadd dX12_fact_76 (z_iload_n 3 dX12_fact_77 rfl (z_iadd dX12_fact_78 (z_iald dX12_fact_79 H21.2.1 H21.2.2.1 (z_goto (t := 85) dX12_fact_80 (by decide) ?_)))))))))))
          obtain ⟨rfl, rfl⟩ := H21.2.2.2
          exact z_iret dX12_fact_85 rfl (by decide) (by decide)
    · have H23 := H5.2 q
      refine z_iload_n 3 dX12_fact_16 rfl ?_
      refine z_if_ne (t := 32) dX12_fact_17 (by decide) (fun q => ?_) (fun q => ?_)
      · have H24 := H23.1 q
        refine z_bipush (w := (-2)) dX12_fact_32 (by decide) ?_
        obtain ⟨rfl, rfl⟩ := H24
        exact z_iret dX12_fact_34 rfl (by decide) (by decide)
      · have H25 := H23.2 q
        refine z_aload_n 0 dX12_fact_20 rfl rfl ?_
        obtain ⟨oe28, b26, e28, H27⟩ := H25
        refine z_getP dX12_fact_21 wf_X12_7 (by decide) (by decide) rfl oe28 (fun q => (by cases q.symm.trans e28)) (fun j q => ?_)
        cases q.symm.trans e28
        refine z_aload_n 0 dX12_fact_24 rfl rfl (z_getI dX12_fact_25 wf_X12_355 (by decide) (by decide) rfl H27.1 (z_iald dX12_fact_28 H27.2.1 H27.2.2.1 (z_goto (t := 34) dX12_fact_29 (by decide) ?_)))
        obtain ⟨rfl, rfl⟩ := H27.2.2.2
        exact z_iret dX12_fact_34 rfl (by decide) (by decide)
  · have H29 := H4.2 q
    refine z_bipush (w := (-2)) dX12_fact_8 (by decide) ?_
    obtain ⟨rfl, rfl⟩ := H29
    exact z_iret dX12_fact_10 rfl (by decide) (by decide)
theorem eX12_fact {g : zG} {I : Nat → Nat → Int32} {P : Nat → Nat → Option Nat} {r : Option Value} {h' : zH} {a0 : Nat} {x1 : Int32} {x2 : Int32} {x3 : Int32} (H : Zt none mX12_fact 0 0 0 [(0, .ref a0), (1, .int x1), (2, .int x2), (3, .int x3)] [] (g, I, P) r h') : Cl mX12_fact [.ref a0, .int x1, .int x2, .int x3] (g, I, P) r h' := Cl.of (by decide) (Nat.le_of_ble_eq_true rfl) H
theorem dX12_digit_0 : decode cX12_digit 0 = .ok (.iload_n 0, 1) := by decide +kernel
theorem dX12_digit_1 : decode cX12_digit 1 = .ok (.iload_n 1, 1) := by decide +kernel
theorem dX12_digit_2 : decode cX12_digit 2 = .ok (.idiv, 1) := by decide +kernel
theorem dX12_digit_3 : decode cX12_digit 3 = .ok (.bipush 10, 2) := by decide +kernel
theorem dX12_digit_5 : decode cX12_digit 5 = .ok (.irem, 1) := by decide +kernel
theorem dX12_digit_6 : decode cX12_digit 6 = .ok (.ireturn, 1) := by decide +kernel
set_option maxRecDepth 10000 in
theorem wX12_digit_0 {g : zG} {I : Nat → Nat → Int32} {P : Nat → Nat → Option Nat} {r : Option Value} {h' : zH} {x0 : Int32} {x1 : Int32} (H : (¬ x1 = 0) ∧ r = some (.int ((x0 / x1) - (x0 / x1) / 10 * 10)) ∧ h' = (g, I, P)) : Zt none mX12_digit 0 0 0 [(0, .int x0), (1, .int x1)] [] (g, I, P) r h' := by
  refine z_iload_n 0 dX12_digit_0 rfl (z_iload_n 1 dX12_digit_1 rfl (z_idiv dX12_digit_2 H.1 (z_bipush (w := 10) dX12_digit_3 (by decide) (z_irem dX12_digit_5 (by decide) ?_))))
  obtain ⟨rfl, rfl⟩ := H.2
  exact z_iret dX12_digit_6 rfl (by decide) (by decide)
theorem eX12_digit {g : zG} {I : Nat → Nat → Int32} {P : Nat → Nat → Option Nat} {r : Option Value} {h' : zH} {x0 : Int32} {x1 : Int32} (H : Zt none mX12_digit 0 0 0 [(0, .int x0), (1, .int x1)] [] (g, I, P) r h') : Cl mX12_digit [.int x0, .int x1] (g, I, P) r h' := Cl.of (by decide) (Nat.le_of_ble_eq_true rfl) H
theorem dX12_isSo_0 : decode cX12_isSo 0 = .ok (.iload_n 1, 1) := by decide +kernel
theorem dX12_isSo_1 : decode cX12_isSo 1 = .ok (.sipush 1000, 3) := by decide +kernel
theorem dX12_isSo_4 : decode cX12_isSo 4 = .ok (.invokestatic 364, 3) := by decide +kernel
theorem dX12_isSo_7 : decode cX12_isSo 7 = .ok (.aload_n 0, 1) := by decide +kernel
theorem dX12_isSo_8 : decode cX12_isSo 8 = .ok (.getfield 358, 3) := by decide +kernel
theorem dX12_isSo_11 : decode cX12_isSo 11 = .ok (.aload_n 0, 1) := by decide +kernel
theorem dX12_isSo_12 : decode cX12_isSo 12 = .ok (.getfield 7, 3) := by decide +kernel
theorem dX12_isSo_15 : decode cX12_isSo 15 = .ok (.aload_n 0, 1) := by decide +kernel
theorem dX12_isSo_16 : decode cX12_isSo 16 = .ok (.getfield 355, 3) := by decide +kernel
theorem dX12_isSo_19 : decode cX12_isSo 19 = .ok (.iconst 1, 1) := by decide +kernel
theorem dX12_isSo_20 : decode cX12_isSo 20 = .ok (.iadd, 1) := by decide +kernel
theorem dX12_isSo_21 : decode cX12_isSo 21 = .ok (.iconst 2, 1) := by decide +kernel
theorem dX12_isSo_22 : decode cX12_isSo 22 = .ok (.iload_n 2, 1) := by decide +kernel
theorem dX12_isSo_23 : decode cX12_isSo 23 = .ok (.imul, 1) := by decide +kernel
theorem dX12_isSo_24 : decode cX12_isSo 24 = .ok (.iadd, 1) := by decide +kernel
theorem dX12_isSo_25 : decode cX12_isSo 25 = .ok (.iaload, 1) := by decide +kernel
theorem dX12_isSo_26 : decode cX12_isSo 26 = .ok (.isub, 1) := by decide +kernel
theorem dX12_isSo_27 : decode cX12_isSo 27 = .ok (.iload_n 1, 1) := by decide +kernel
theorem dX12_isSo_28 : decode cX12_isSo 28 = .ok (.bipush 100, 2) := by decide +kernel
theorem dX12_isSo_30 : decode cX12_isSo 30 = .ok (.invokestatic 364, 3) := by decide +kernel
theorem dX12_isSo_33 : decode cX12_isSo 33 = .ok (.imul, 1) := by decide +kernel
theorem dX12_isSo_34 : decode cX12_isSo 34 = .ok (.iload_n 1, 1) := by decide +kernel
theorem dX12_isSo_35 : decode cX12_isSo 35 = .ok (.iconst 1, 1) := by decide +kernel
theorem dX12_isSo_36 : decode cX12_isSo 36 = .ok (.invokestatic 364, 3) := by decide +kernel
theorem dX12_isSo_39 : decode cX12_isSo 39 = .ok (.iadd, 1) := by decide +kernel
theorem dX12_isSo_40 : decode cX12_isSo 40 = .ok (.iload_n 1, 1) := by decide +kernel
theorem dX12_isSo_41 : decode cX12_isSo 41 = .ok (.bipush 10, 2) := by decide +kernel
theorem dX12_isSo_43 : decode cX12_isSo 43 = .ok (.invokestatic 364, 3) := by decide +kernel
theorem dX12_isSo_46 : decode cX12_isSo 46 = .ok (.idiv, 1) := by decide +kernel
theorem dX12_isSo_47 : decode cX12_isSo 47 = .ok (.isub, 1) := by decide +kernel
theorem dX12_isSo_48 : decode cX12_isSo 48 = .ok (.istore_n 3, 1) := by decide +kernel
theorem dX12_isSo_49 : decode cX12_isSo 49 = .ok (.iload_n 3, 1) := by decide +kernel
theorem dX12_isSo_50 : decode cX12_isSo 50 = .ok (.ifCond .le 7, 3) := by decide +kernel
theorem dX12_isSo_53 : decode cX12_isSo 53 = .ok (.iload_n 3, 1) := by decide +kernel
theorem dX12_isSo_54 : decode cX12_isSo 54 = .ok (.goto 4, 3) := by decide +kernel
theorem dX12_isSo_57 : decode cX12_isSo 57 = .ok (.iconst 0, 1) := by decide +kernel
theorem dX12_isSo_58 : decode cX12_isSo 58 = .ok (.aload_n 0, 1) := by decide +kernel
theorem dX12_isSo_59 : decode cX12_isSo 59 = .ok (.getfield 7, 3) := by decide +kernel
theorem dX12_isSo_62 : decode cX12_isSo 62 = .ok (.aload_n 0, 1) := by decide +kernel
theorem dX12_isSo_63 : decode cX12_isSo 63 = .ok (.getfield 355, 3) := by decide +kernel
theorem dX12_isSo_66 : decode cX12_isSo 66 = .ok (.iconst 2, 1) := by decide +kernel
theorem dX12_isSo_67 : decode cX12_isSo 67 = .ok (.iadd, 1) := by decide +kernel
theorem dX12_isSo_68 : decode cX12_isSo 68 = .ok (.iconst 2, 1) := by decide +kernel
theorem dX12_isSo_69 : decode cX12_isSo 69 = .ok (.iload_n 2, 1) := by decide +kernel
theorem dX12_isSo_70 : decode cX12_isSo 70 = .ok (.imul, 1) := by decide +kernel
theorem dX12_isSo_71 : decode cX12_isSo 71 = .ok (.iadd, 1) := by decide +kernel
theorem dX12_isSo_72 : decode cX12_isSo 72 = .ok (.iaload, 1) := by decide +kernel
theorem dX12_isSo_73 : decode cX12_isSo 73 = .ok (.if_icmp .ne 7, 3) := by decide +kernel
theorem dX12_isSo_76 : decode cX12_isSo 76 = .ok (.iconst 1, 1) := by decide +kernel
theorem dX12_isSo_77 : decode cX12_isSo 77 = .ok (.goto 4, 3) := by decide +kernel
theorem dX12_isSo_80 : decode cX12_isSo 80 = .ok (.iconst 0, 1) := by decide +kernel
theorem dX12_isSo_81 : decode cX12_isSo 81 = .ok (.ireturn, 1) := by decide +kernel
set_option maxRecDepth 10000 in
theorem wX12_isSo_0 {g : zG} {I : Nat → Nat → Int32} {P : Nat → Nat → Option Nat} {r : Option Value} {h' : zH} {a0 : Nat} {x1 : Int32} {x2 : Int32} (H : ∃ (w1 : Int32), Cl mX12_digit [.int x1, .int 1000] (g, I, P) (some (.int w1)) (g, I, P) ∧ zk g a0 12 ∧ zk g a0 12 ∧ ∃ b4, P a0 0 = some b4 ∧ zk g a0 12 ∧ zk g b4 13 ∧ vp_in (((I a0 38) + 1) + (2 * x2)) (g.2.2 b4) ∧ ∃ (w7 : Int32), Cl mX12_digit [.int x1, .int 100] (g, I, P) (some (.int w7)) (g, I, P) ∧ ∃ (w10 : Int32), Cl mX12_digit [.int x1, .int 1] (g, I, P) (some (.int w10)) (g, I, P) ∧ ∃ (w13 : Int32), Cl mX12_digit [.int x1, .int 10] (g, I, P) (some (.int w13)) (g, I, P) ∧ (¬ w13 = 0) ∧ ∀ y16 : Int32, y16 = w1 - (((((I a0 39) - (I b4 (((I a0 38) + 1) + (2 * x2)).toNatClampNeg)) * w7) + w10) / w13) → ((y16 ≤ 0) → Zt none mX12_isSo 0 0 58 [(0, .ref a0), (2, .int x2)] [.int 0] (g, I, P) r h') ∧ ((¬ y16 ≤ 0) → Zt none mX12_isSo 0 0 58 [(0, .ref a0), (2, .int x2)] [.int y16] (g, I, P) r h')) : Zt none mX12_isSo 0 0 0 [(0, .ref a0), (1, .int x1), (2, .int x2)] [] (g, I, P) r h' := by
  refine z_iload_n 1 dX12_isSo_0 rfl (z_sipush (w := 1000) dX12_isSo_1 (by decide) ?_)
  obtain ⟨w1, c2, H3⟩ := H
  refine z_stat (As := [.int x1, .int 1000]) (st := []) (r1 := (some (.int w1))) (h1 := (g, I, P)) dX12_isSo_4 kX12_digit wm_X12_364 ⟨by decide, by decide⟩ rfl rfl (Nat.le_of_ble_eq_true rfl) (by decide) (by decide) c2 ?_
  refine z_aload_n 0 dX12_isSo_7 rfl rfl (z_getI dX12_isSo_8 wf_X12_358 (by decide) (by decide) rfl H3.1 (z_aload_n 0 dX12_isSo_11 rfl rfl ?_))
  obtain ⟨oe6, b4, e6, H5⟩ := H3.2
  refine z_getP dX12_isSo_12 wf_X12_7 (by decide) (by decide) rfl oe6 (fun q => (by cases q.symm.trans e6)) (fun j q => ?_)
  cases q.symm.trans e6
  refine z_aload_n 0 dX12_isSo_15 rfl rfl (z_getI dX12_isSo_16 wf_X12_355 (by decide) (by decide) rfl H5.1 (z_iconst (w := 1) dX12_isSo_19 (by decide) (z_iadd dX12_isSo_20 (z_iconst (w := 2) dX12_isSo_21 (by decide) (z_iload_n 2 dX12_isSo_22 rfl (z_imul dX12_isSo_23 (z_iadd dX12_isSo_24 (z_iald dX12_isSo_25 H5.2.1 H5.2.2.1 (z_isub dX12_isSo_26 (z_iload_n 1 dX12_isSo_27 rfl (z_bipush (w := 100) dX12_isSo_28 (by decide) ?_)))))))))))
  obtain ⟨w7, c8, H9⟩ := H5.2.2.2
  refine z_stat (As := [.int x1, .int 100]) (st := [.int ((I a0 39) - (I b4 (((I a0 38) + 1) + (2 * x2)).toNatClampNeg)), .int w1]) (r1 := (some (.int w7))) (h1 := (g, I, P)) dX12_isSo_30 kX12_digit wm_X12_364 ⟨by decide, by decide⟩ rfl rfl (Nat.le_of_ble_eq_true rfl) (by decide) (by decide) c8 ?_
  refine z_imul dX12_isSo_33 (z_iload_n 1 dX12_isSo_34 rfl (z_iconst (w := 1) dX12_isSo_35 (by decide) ?_))
  obtain ⟨w10, c11, H12⟩ := H9
  refine z_stat (As := [.int x1, .int 1]) (st := [.int (((I a0 39) - (I b4 (((I a0 38) + 1) + (2 * x2)).toNatClampNeg)) * w7), .int w1]) (r1 := (some (.int w10))) (h1 := (g, I, P)) dX12_isSo_36 kX12_digit wm_X12_364 ⟨by decide, by decide⟩ rfl rfl (Nat.le_of_ble_eq_true rfl) (by decide) (by decide) c11 ?_
  refine z_iadd dX12_isSo_39 (z_iload_n 1 dX12_isSo_40 rfl (z_bipush (w := 10) dX12_isSo_41 (by decide) ?_))
  obtain ⟨w13, c14, H15⟩ := H12
  refine z_stat (As := [.int x1, .int 10]) (st := [.int ((((I a0 39) - (I b4 (((I a0 38) + 1) + (2 * x2)).toNatClampNeg)) * w7) + w10), .int w1]) (r1 := (some (.int w13))) (h1 := (g, I, P)) dX12_isSo_43 kX12_digit wm_X12_364 ⟨by decide, by decide⟩ rfl rfl (Nat.le_of_ble_eq_true rfl) (by decide) (by decide) c14 ?_
  refine z_idiv dX12_isSo_46 H15.1 (z_isub dX12_isSo_47 ?_)
  refine z_nm (fun y16 e_y16 => ?_)
  have H17 := H15.2 y16 e_y16
  refine z_istore_n (lv' := [(3, .int y16), (0, .ref a0), (1, .int x1), (2, .int x2)]) dX12_isSo_48 (by decide) rfl (z_iload_n 0 dX12_isSo_49 rfl ?_)
  refine z_if_le (t := 57) dX12_isSo_50 (by decide) (fun q => ?_) (fun q => ?_)
  · have H18 := H17.1 q
    refine z_iconst (w := 0) dX12_isSo_57 (by decide) ?_
    exact z_less [1, 3] rfl H18
  · have H19 := H17.2 q
    refine z_iload_n 0 dX12_isSo_53 rfl (z_goto (t := 58) dX12_isSo_54 (by decide) ?_)
    exact z_less [1, 3] rfl H19
theorem eX12_isSo {g : zG} {I : Nat → Nat → Int32} {P : Nat → Nat → Option Nat} {r : Option Value} {h' : zH} {a0 : Nat} {x1 : Int32} {x2 : Int32} (H : Zt none mX12_isSo 0 0 0 [(0, .ref a0), (1, .int x1), (2, .int x2)] [] (g, I, P) r h') : Cl mX12_isSo [.ref a0, .int x1, .int x2] (g, I, P) r h' := Cl.of (by decide) (Nat.le_of_ble_eq_true rfl) H
set_option maxRecDepth 10000 in
theorem wX12_isSo_58 {g : zG} {I : Nat → Nat → Int32} {P : Nat → Nat → Option Nat} {r : Option Value} {h' : zH} {a0 : Nat} {x2 : Int32} {xs0 : Int32} (H : zk g a0 12 ∧ ∃ b1, P a0 0 = some b1 ∧ zk g a0 12 ∧ zk g b1 13 ∧ vp_in (((I a0 38) + 2) + (2 * x2)) (g.2.2 b1) ∧ ((¬ xs0 = I b1 (((I a0 38) + 2) + (2 * x2)).toNatClampNeg) → r = some (.int 0) ∧ h' = (g, I, P)) ∧ ((xs0 = I b1 (((I a0 38) + 2) + (2 * x2)).toNatClampNeg) → r = some (.int 1) ∧ h' = (g, I, P))) : Zt none mX12_isSo 0 0 58 [(0, .ref a0), (2, .int x2)] [.int xs0] (g, I, P) r h' := by
  refine z_aload_n 0 dX12_isSo_58 rfl rfl ?_
  obtain ⟨oe3, b1, e3, H2⟩ := H
  refine z_getP dX12_isSo_59 wf_X12_7 (by decide) (by decide) rfl oe3 (fun q => (by cases q.symm.trans e3)) (fun j q => ?_)
  cases q.symm.trans e3
  refine z_aload_n 0 dX12_isSo_62 rfl rfl (z_getI dX12_isSo_63 wf_X12_355 (by decide) (by decide) rfl H2.1 (z_iconst (w := 2) dX12_isSo_66 (by decide) (z_iadd dX12_isSo_67 (z_iconst (w := 2) dX12_isSo_68 (by decide) (z_iload_n 1 dX12_isSo_69 rfl (z_imul dX12_isSo_70 (z_iadd dX12_isSo_71 (z_iald dX12_isSo_72 H2.2.1 H2.2.2.1 ?_))))))))
  refine z_icmp_ne (t := 80) dX12_isSo_73 (by decide) (fun q => ?_) (fun q => ?_)
  · have H4 := H2.2.2.2.1 q
    refine z_iconst (w := 0) dX12_isSo_80 (by decide) ?_
    obtain ⟨rfl, rfl⟩ := H4
    exact z_zret dX12_isSo_81 rfl (Or.inl rfl) (by decide) (by decide)
  · have H5 := H2.2.2.2.2 q
    refine z_iconst (w := 1) dX12_isSo_76 (by decide) (z_goto (t := 81) dX12_isSo_77 (by decide) ?_)
    obtain ⟨rfl, rfl⟩ := H5
    exact z_zret dX12_isSo_81 rfl (Or.inr rfl) (by decide) (by decide)
theorem dX12_isRule_0 : decode cX12_isRule 0 = .ok (.iload_n 0, 1) := by decide +kernel
theorem dX12_isRule_1 : decode cX12_isRule 1 = .ok (.bipush 100, 2) := by decide +kernel
theorem dX12_isRule_3 : decode cX12_isRule 3 = .ok (.invokestatic 364, 3) := by decide +kernel
theorem dX12_isRule_6 : decode cX12_isRule 6 = .ok (.ifCond .le 16, 3) := by decide +kernel
theorem dX12_isRule_9 : decode cX12_isRule 9 = .ok (.iload_n 0, 1) := by decide +kernel
theorem dX12_isRule_10 : decode cX12_isRule 10 = .ok (.bipush 10, 2) := by decide +kernel
theorem dX12_isRule_12 : decode cX12_isRule 12 = .ok (.invokestatic 364, 3) := by decide +kernel
theorem dX12_isRule_15 : decode cX12_isRule 15 = .ok (.ifCond .le 7, 3) := by decide +kernel
theorem dX12_isRule_18 : decode cX12_isRule 18 = .ok (.iconst 1, 1) := by decide +kernel
theorem dX12_isRule_19 : decode cX12_isRule 19 = .ok (.goto 4, 3) := by decide +kernel
theorem dX12_isRule_22 : decode cX12_isRule 22 = .ok (.iconst 0, 1) := by decide +kernel
theorem dX12_isRule_23 : decode cX12_isRule 23 = .ok (.ireturn, 1) := by decide +kernel
set_option maxRecDepth 10000 in
theorem wX12_isRule_0 {g : zG} {I : Nat → Nat → Int32} {P : Nat → Nat → Option Nat} {r : Option Value} {h' : zH} {x0 : Int32} (H : ∃ (w1 : Int32), Cl mX12_digit [.int x0, .int 100] (g, I, P) (some (.int w1)) (g, I, P) ∧ ((w1 ≤ 0) → r = some (.int 0) ∧ h' = (g, I, P)) ∧ ((¬ w1 ≤ 0) → ∃ (w6 : Int32), Cl mX12_digit [.int x0, .int 10] (g, I, P) (some (.int w6)) (g, I, P) ∧ ((w6 ≤ 0) → r = some (.int 0) ∧ h' = (g, I, P)) ∧ ((¬ w6 ≤ 0) → r = some (.int 1) ∧ h' = (g, I, P)))) : Zt none mX12_isRule 0 0 0 [(0, .int x0)] [] (g, I, P) r h' := by
  refine z_iload_n 0 dX12_isRule_0 rfl (z_bipush (w := 100) dX12_isRule_1 (by decide) ?_)
  obtain ⟨w1, c2, H3⟩ := H
  refine z_stat (As := [.int x0, .int 100]) (st := []) (r1 := (some (.int w1))) (h1 := (g, I, P)) dX12_isRule_3 kX12_digit wm_X12_364 ⟨by decide, by decide⟩ rfl rfl (Nat.le_of_ble_eq_true rfl) (by decide) (by decide) c2 ?_
  refine z_if_le (t := 22) dX12_isRule_6 (by decide) (fun q => ?_) (fun q => ?_)
  · have H4 := H3.1 q
    refine z_iconst (w := 0) dX12_isRule_22 (by decide) ?_
    obtain ⟨rfl, rfl⟩ := H4
    exact z_zret dX12_isRule_23 rfl (Or.inl rfl) (by decide) (by decide)
  · have H5 := H3.2 q
    refine z_iload_n 0 dX12_isRule_9 rfl (z_bipush (w := 10) dX12_isRule_10 (by decide) ?_)
    obtain ⟨w6, c7, H8⟩ := H5
    refine z_stat (As := [.int x0, .int 10]) (st := []) (r1 := (some (.int w6))) (h1 := (g, I, P)) dX12_isRule_12 kX12_digit wm_X12_364 ⟨by decide, by decide⟩ rfl rfl (Nat.le_of_ble_eq_true rfl) (by decide) (by decide) c7 ?_
    refine z_if_le (t := 22) dX12_isRule_15 (by decide) (fun q => ?_) (fun q => ?_)
    · have H9 := H8.1 q
      refine z_iconst (w := 0) dX12_isRule_22 (by decide) ?_
      obtain ⟨rfl, rfl⟩ := H9
      exact z_zret dX12_isRule_23 rfl (Or.inl rfl) (by decide) (by decide)
    · have H10 := H8.2 q
      refine z_iconst (w := 1) dX12_isRule_18 (by decide) (z_goto (t := 23) dX12_isRule_19 (by decide) ?_)
      obtain ⟨rfl, rfl⟩ := H10
      exact z_zret dX12_isRule_23 rfl (Or.inr rfl) (by decide) (by decide)
theorem eX12_isRule {g : zG} {I : Nat → Nat → Int32} {P : Nat → Nat → Option Nat} {r : Option Value} {h' : zH} {x0 : Int32} (H : Zt none mX12_isRule 0 0 0 [(0, .int x0)] [] (g, I, P) r h') : Cl mX12_isRule [.int x0] (g, I, P) r h' := Cl.of (by decide) (Nat.le_of_ble_eq_true rfl) H
theorem dX12_notSo_0 : decode cX12_notSo 0 = .ok (.iconst 0, 1) := by decide +kernel
theorem dX12_notSo_1 : decode cX12_notSo 1 = .ok (.istore_n 2, 1) := by decide +kernel
theorem dX12_notSo_2 : decode cX12_notSo 2 = .ok (.iconst 0, 1) := by decide +kernel
theorem dX12_notSo_3 : decode cX12_notSo 3 = .ok (.istore_n 3, 1) := by decide +kernel
theorem dX12_notSo_4 : decode cX12_notSo 4 = .ok (.iload_n 3, 1) := by decide +kernel
theorem dX12_notSo_5 : decode cX12_notSo 5 = .ok (.aload_n 0, 1) := by decide +kernel
theorem dX12_notSo_6 : decode cX12_notSo 6 = .ok (.getfield 7, 3) := by decide +kernel
theorem dX12_notSo_9 : decode cX12_notSo 9 = .ok (.aload_n 0, 1) := by decide +kernel
theorem dX12_notSo_10 : decode cX12_notSo 10 = .ok (.getfield 355, 3) := by decide +kernel
theorem dX12_notSo_13 : decode cX12_notSo 13 = .ok (.iaload, 1) := by decide +kernel
theorem dX12_notSo_14 : decode cX12_notSo 14 = .ok (.if_icmp .ge 26, 3) := by decide +kernel
theorem dX12_notSo_17 : decode cX12_notSo 17 = .ok (.iload_n 2, 1) := by decide +kernel
theorem dX12_notSo_18 : decode cX12_notSo 18 = .ok (.aload_n 0, 1) := by decide +kernel
theorem dX12_notSo_19 : decode cX12_notSo 19 = .ok (.iload_n 1, 1) := by decide +kernel
theorem dX12_notSo_20 : decode cX12_notSo 20 = .ok (.iload_n 3, 1) := by decide +kernel
theorem dX12_notSo_21 : decode cX12_notSo 21 = .ok (.invokevirtual 367, 3) := by decide +kernel
theorem dX12_notSo_24 : decode cX12_notSo 24 = .ok (.ifCond .eq 7, 3) := by decide +kernel
theorem dX12_notSo_27 : decode cX12_notSo 27 = .ok (.iconst 0, 1) := by decide +kernel
theorem dX12_notSo_28 : decode cX12_notSo 28 = .ok (.goto 4, 3) := by decide +kernel
theorem dX12_notSo_31 : decode cX12_notSo 31 = .ok (.iconst 1, 1) := by decide +kernel
theorem dX12_notSo_32 : decode cX12_notSo 32 = .ok (.iadd, 1) := by decide +kernel
theorem dX12_notSo_33 : decode cX12_notSo 33 = .ok (.istore_n 2, 1) := by decide +kernel
theorem dX12_notSo_34 : decode cX12_notSo 34 = .ok (.iinc 3 1, 3) := by decide +kernel
theorem dX12_notSo_37 : decode cX12_notSo 37 = .ok (.goto (-33), 3) := by decide +kernel
theorem dX12_notSo_40 : decode cX12_notSo 40 = .ok (.iload_n 2, 1) := by decide +kernel
theorem dX12_notSo_41 : decode cX12_notSo 41 = .ok (.ireturn, 1) := by decide +kernel
set_option maxRecDepth 10000 in
theorem wX12_notSo_0 {g : zG} {I : Nat → Nat → Int32} {P : Nat → Nat → Option Nat} {r : Option Value} {h' : zH} {a0 : Nat} {x1 : Int32} (H : Zt none mX12_notSo 0 0 4 [(0, .ref a0), (1, .int x1), (2, .int 0), (3, .int 0)] [] (g, I, P) r h') : Zt none mX12_notSo 0 0 0 [(0, .ref a0), (1, .int x1)] [] (g, I, P) r h' := by
  refine z_iconst (w := 0) dX12_notSo_0 (by decide) (z_istore_n (lv' := [(2, .int 0), (0, .ref a0), (1, .int x1)]) dX12_notSo_1 (by decide) rfl (z_iconst (w := 0) dX12_notSo_2 (by decide) (z_istore_n (lv' := [(3, .int 0), (2, .int 0), (0, .ref a0), (1, .int x1)]) dX12_notSo_3 (by decide) rfl ?_)))
  exact z_less [2, 3, 1, 0] rfl H
theorem eX12_notSo {g : zG} {I : Nat → Nat → Int32} {P : Nat → Nat → Option Nat} {r : Option Value} {h' : zH} {a0 : Nat} {x1 : Int32} (H : Zt none mX12_notSo 0 0 0 [(0, .ref a0), (1, .int x1)] [] (g, I, P) r h') : Cl mX12_notSo [.ref a0, .int x1] (g, I, P) r h' := Cl.of (by decide) (Nat.le_of_ble_eq_true rfl) H
set_option maxRecDepth 10000 in
theorem wX12_notSo_4 {g : zG} {I : Nat → Nat → Int32} {P : Nat → Nat → Option Nat} {r : Option Value} {h' : zH} {a0 : Nat} {x1 : Int32} {x2 : Int32} {x3 : Int32} (H : zk g a0 12 ∧ ∃ b1, P a0 0 = some b1 ∧ zk g a0 12 ∧ zk g b1 13 ∧ vp_in (I a0 38) (g.2.2 b1) ∧ ((I b1 (I a0 38).toNatClampNeg ≤ x3) → r = some (.int x2) ∧ h' = (g, I, P)) ∧ ((¬ I b1 (I a0 38).toNatClampNeg ≤ x3) → zk g a0 12 ∧ ∃ (w6 : Int32), Cl mX12_isSo [.ref a0, .int x1, .int x3] (g, I, P) (some (.int w6)) (g, I, P) ∧ ((w6 = 0) → Zt none mX12_notSo 0 0 4 [(0, .ref a0), (1, .int x1), (2, .int (x2 + 1)), (3, .int (x3 + 1))] [] (g, I, P) r h') ∧ ((¬ w6 = 0) → Zt none mX12_notSo 0 0 4 [(0, .ref a0), (1, .int x1), (2, .int (x2 + 0)), (3, .int (x3 + 1))] [] (g, I, P) r h'))) : Zt none mX12_notSo 0 0 4 [(0, .ref a0), (1, .int x1), (2, .int x2), (3, .int x3)] [] (g, I, P) r h' := by
  refine z_iload_n 3 dX12_notSo_4 rfl (z_aload_n 0 dX12_notSo_5 rfl rfl ?_)
  obtain ⟨oe3, b1, e3, H2⟩ := H
  refine z_getP dX12_notSo_6 wf_X12_7 (by decide) (by decide) rfl oe3 (fun q => (by cases q.symm.trans e3)) (fun j q => ?_)
  cases q.symm.trans e3
  refine z_aload_n 0 dX12_notSo_9 rfl rfl (z_getI dX12_notSo_10 wf_X12_355 (by decide) (by decide) rfl H2.1 (z_iald dX12_notSo_13 H2.2.1 H2.2.2.1 ?_))
  refine z_icmp_ge (t := 40) dX12_notSo_14 (by decide) (fun q => ?_) (fun q => ?_)
  · have H4 := H2.2.2.2.1 q
    refine z_iload_n 2 dX12_notSo_40 rfl ?_
    obtain ⟨rfl, rfl⟩ := H4
    exact z_iret dX12_notSo_41 rfl (by decide) (by decide)
  · have H5 := H2.2.2.2.2 q
    refine z_iload_n 2 dX12_notSo_17 rfl (z_aload_n 0 dX12_notSo_18 rfl rfl (z_iload_n 1 dX12_notSo_19 rfl (z_iload_n 3 dX12_notSo_20 rfl ?_)))
    obtain ⟨oc7, w6, c7, H8⟩ := H5
    refine z_virt (As := [.int x1, .int x3]) (st := [.int x2]) (r1 := (some (.int w6))) (h1 := (g, I, P)) dX12_notSo_21 kX12_isSo wm_X12_367 ⟨by decide, by decide⟩ rfl rfl (Nat.le_of_ble_eq_true rfl) (by decide) (by decide) oc7 c7 ?_
    refine z_if_eq (t := 31) dX12_notSo_24 (by decide) (fun q => ?_) (fun q => ?_)
    · have H9 := H8.1 q
      refine z_iconst (w := 1) dX12_notSo_31 (by decide) (z_iadd dX12_notSo_32 (z_istore_n (lv' := [(2, .int (x2 + 1)), (0, .ref a0), (1, .int x1), (3, .int x3)]) dX12_notSo_33 (by decide) rfl (z_iinc (y := x3 + 1) (lv' := [(3, .int (x3 + 1)), (2, .int (x2 + 1)), (0, .ref a0), (1, .int x1)]) 3 dX12_notSo_34 rfl rfl (by decide) rfl (z_goto (t := 4) dX12_notSo_37 (by decide) ?_))))
      exact z_less [2, 3, 1, 0] rfl H9
    · have H10 := H8.2 q
      refine z_iconst (w := 0) dX12_notSo_27 (by decide) (z_goto (t := 32) dX12_notSo_28 (by decide) (z_iadd dX12_notSo_32 (z_istore_n (lv' := [(2, .int (x2 + 0)), (0, .ref a0), (1, .int x1), (3, .int x3)]) dX12_notSo_33 (by decide) rfl (z_iinc (y := x3 + 1) (lv' := [(3, .int (x3 + 1)), (2, .int (x2 + 0)), (0, .ref a0), (1, .int x1)]) 3 dX12_notSo_34 rfl rfl (by decide) rfl (z_goto (t := 4) dX12_notSo_37 (by decide) ?_)))))
      exact z_less [2, 3, 1, 0] rfl H10
theorem dX12_placesNotSo_0 : decode cX12_placesNotSo 0 = .ok (.iconst 0, 1) := by decide +kernel
theorem dX12_placesNotSo_1 : decode cX12_placesNotSo 1 = .ok (.istore_n 2, 1) := by decide +kernel
theorem dX12_placesNotSo_2 : decode cX12_placesNotSo 2 = .ok (.iconst 0, 1) := by decide +kernel
theorem dX12_placesNotSo_3 : decode cX12_placesNotSo 3 = .ok (.istore_n 3, 1) := by decide +kernel
theorem dX12_placesNotSo_4 : decode cX12_placesNotSo 4 = .ok (.iload_n 3, 1) := by decide +kernel
theorem dX12_placesNotSo_5 : decode cX12_placesNotSo 5 = .ok (.aload_n 0, 1) := by decide +kernel
theorem dX12_placesNotSo_6 : decode cX12_placesNotSo 6 = .ok (.getfield 7, 3) := by decide +kernel
theorem dX12_placesNotSo_9 : decode cX12_placesNotSo 9 = .ok (.aload_n 0, 1) := by decide +kernel
theorem dX12_placesNotSo_10 : decode cX12_placesNotSo 10 = .ok (.getfield 355, 3) := by decide +kernel
theorem dX12_placesNotSo_13 : decode cX12_placesNotSo 13 = .ok (.iaload, 1) := by decide +kernel
theorem dX12_placesNotSo_14 : decode cX12_placesNotSo 14 = .ok (.if_icmp .ge 42, 3) := by decide +kernel
theorem dX12_placesNotSo_17 : decode cX12_placesNotSo 17 = .ok (.iload_n 2, 1) := by decide +kernel
theorem dX12_placesNotSo_18 : decode cX12_placesNotSo 18 = .ok (.aload_n 0, 1) := by decide +kernel
theorem dX12_placesNotSo_19 : decode cX12_placesNotSo 19 = .ok (.iload_n 1, 1) := by decide +kernel
theorem dX12_placesNotSo_20 : decode cX12_placesNotSo 20 = .ok (.iload_n 3, 1) := by decide +kernel
theorem dX12_placesNotSo_21 : decode cX12_placesNotSo 21 = .ok (.invokevirtual 367, 3) := by decide +kernel
theorem dX12_placesNotSo_24 : decode cX12_placesNotSo 24 = .ok (.ifCond .eq 7, 3) := by decide +kernel
theorem dX12_placesNotSo_27 : decode cX12_placesNotSo 27 = .ok (.iconst 0, 1) := by decide +kernel
theorem dX12_placesNotSo_28 : decode cX12_placesNotSo 28 = .ok (.goto 20, 3) := by decide +kernel
theorem dX12_placesNotSo_31 : decode cX12_placesNotSo 31 = .ok (.iconst 1, 1) := by decide +kernel
theorem dX12_placesNotSo_32 : decode cX12_placesNotSo 32 = .ok (.aload_n 0, 1) := by decide +kernel
theorem dX12_placesNotSo_33 : decode cX12_placesNotSo 33 = .ok (.getfield 7, 3) := by decide +kernel
theorem dX12_placesNotSo_36 : decode cX12_placesNotSo 36 = .ok (.aload_n 0, 1) := by decide +kernel
theorem dX12_placesNotSo_37 : decode cX12_placesNotSo 37 = .ok (.getfield 355, 3) := by decide +kernel
theorem dX12_placesNotSo_40 : decode cX12_placesNotSo 40 = .ok (.iconst 1, 1) := by decide +kernel
theorem dX12_placesNotSo_41 : decode cX12_placesNotSo 41 = .ok (.iadd, 1) := by decide +kernel
theorem dX12_placesNotSo_42 : decode cX12_placesNotSo 42 = .ok (.iconst 2, 1) := by decide +kernel
theorem dX12_placesNotSo_43 : decode cX12_placesNotSo 43 = .ok (.iload_n 3, 1) := by decide +kernel
theorem dX12_placesNotSo_44 : decode cX12_placesNotSo 44 = .ok (.imul, 1) := by decide +kernel
theorem dX12_placesNotSo_45 : decode cX12_placesNotSo 45 = .ok (.iadd, 1) := by decide +kernel
theorem dX12_placesNotSo_46 : decode cX12_placesNotSo 46 = .ok (.iaload, 1) := by decide +kernel
theorem dX12_placesNotSo_47 : decode cX12_placesNotSo 47 = .ok (.ishl, 1) := by decide +kernel
theorem dX12_placesNotSo_48 : decode cX12_placesNotSo 48 = .ok (.ior, 1) := by decide +kernel
theorem dX12_placesNotSo_49 : decode cX12_placesNotSo 49 = .ok (.istore_n 2, 1) := by decide +kernel
theorem dX12_placesNotSo_50 : decode cX12_placesNotSo 50 = .ok (.iinc 3 1, 3) := by decide +kernel
theorem dX12_placesNotSo_53 : decode cX12_placesNotSo 53 = .ok (.goto (-49), 3) := by decide +kernel
theorem dX12_placesNotSo_56 : decode cX12_placesNotSo 56 = .ok (.iload_n 2, 1) := by decide +kernel
theorem dX12_placesNotSo_57 : decode cX12_placesNotSo 57 = .ok (.ireturn, 1) := by decide +kernel
set_option maxRecDepth 10000 in
theorem wX12_placesNotSo_0 {g : zG} {I : Nat → Nat → Int32} {P : Nat → Nat → Option Nat} {r : Option Value} {h' : zH} {a0 : Nat} {x1 : Int32} (H : Zt none mX12_placesNotSo 0 0 4 [(0, .ref a0), (1, .int x1), (2, .int 0), (3, .int 0)] [] (g, I, P) r h') : Zt none mX12_placesNotSo 0 0 0 [(0, .ref a0), (1, .int x1)] [] (g, I, P) r h' := by
  refine z_iconst (w := 0) dX12_placesNotSo_0 (by decide) (z_istore_n (lv' := [(2, .int 0), (0, .ref a0), (1, .int x1)]) dX12_placesNotSo_1 (by decide) rfl (z_iconst (w := 0) dX12_placesNotSo_2 (by decide) (z_istore_n (lv' := [(3, .int 0), (2, .int 0), (0, .ref a0), (1, .int x1)]) dX12_placesNotSo_3 (by decide) rfl ?_)))
  exact z_less [2, 3, 1, 0] rfl H
theorem eX12_placesNotSo {g : zG} {I : Nat → Nat → Int32} {P : Nat → Nat → Option Nat} {r : Option Value} {h' : zH} {a0 : Nat} {x1 : Int32} (H : Zt none mX12_placesNotSo 0 0 0 [(0, .ref a0), (1, .int x1)] [] (g, I, P) r h') : Cl mX12_placesNotSo [.ref a0, .int x1] (g, I, P) r h' := Cl.of (by decide) (Nat.le_of_ble_eq_true rfl) H
set_option maxRecDepth 10000 in
theorem wX12_placesNotSo_4 {g : zG} {I : Nat → Nat → Int32} {P : Nat → Nat → Option Nat} {r : Option Value} {h' : zH} {a0 : Nat} {x1 : Int32} {x2 : Int32} {x3 : Int32} (H : zk g a0 12 ∧ ∃ b1, P a0 0 = some b1 ∧ zk g a0 12 ∧ zk g b1 13 ∧ vp_in (I a0 38) (g.2.2 b1) ∧ ((I b1 (I a0 38).toNatClampNeg ≤ x3) → r = some (.int x2) ∧ h' = (g, I, P)) ∧ ((¬ I b1 (I a0 38).toNatClampNeg ≤ x3) → zk g a0 12 ∧ ∃ (w6 : Int32), Cl mX12_isSo [.ref a0, .int x1, .int x3] (g, I, P) (some (.int w6)) (g, I, P) ∧ ((w6 = 0) → zk g a0 12 ∧ ∃ b10, P a0 0 = some b10 ∧ zk g a0 12 ∧ zk g b10 13 ∧ vp_in (((I a0 38) + 1) + (2 * x3)) (g.2.2 b10) ∧ ∀ y13 : Int32, y13 = x2 ||| ((1 : Int32) <<< ((I b10 (((I a0 38) + 1) + (2 * x3)).toNatClampNeg) &&& 31)) → Zt none mX12_placesNotSo 0 0 4 [(0, .ref a0), (1, .int x1), (2, .int y13), (3, .int (x3 + 1))] [] (g, I, P) r h') ∧ ((¬ w6 = 0) → Zt none mX12_placesNotSo 0 0 4 [(0, .ref a0), (1, .int x1), (2, .int (x2 ||| 0)), (3, .int (x3 + 1))] [] (g, I, P) r h'))) : Zt none mX12_placesNotSo 0 0 4 [(0, .ref a0), (1, .int x1), (2, .int x2), (3, .int x3)] [] (g, I, P) r h' := by
  refine z_iload_n 3 dX12_placesNotSo_4 rfl (z_aload_n 0 dX12_placesNotSo_5 rfl rfl ?_)
  obtain ⟨oe3, b1, e3, H2⟩ := H
  refine z_getP dX12_placesNotSo_6 wf_X12_7 (by decide) (by decide) rfl oe3 (fun q => (by cases q.symm.trans e3)) (fun j q => ?_)
  cases q.symm.trans e3
  refine z_aload_n 0 dX12_placesNotSo_9 rfl rfl (z_getI dX12_placesNotSo_10 wf_X12_355 (by decide) (by decide) rfl H2.1 (z_iald dX12_placesNotSo_13 H2.2.1 H2.2.2.1 ?_))
  refine z_icmp_ge (t := 56) dX12_placesNotSo_14 (by decide) (fun q => ?_) (fun q => ?_)
  · have H4 := H2.2.2.2.1 q
    refine z_iload_n 2 dX12_placesNotSo_56 rfl ?_
    obtain ⟨rfl, rfl⟩ := H4
    exact z_iret dX12_placesNotSo_57 rfl (by decide) (by decide)
  · have H5 := H2.2.2.2.2 q
    refine z_iload_n 2 dX12_placesNotSo_17 rfl (z_aload_n 0 dX12_placesNotSo_18 rfl rfl (z_iload_n 1 dX12_placesNotSo_19 rfl (z_iload_n 3 dX12_placesNotSo_20 rfl ?_)))
    obtain ⟨oc7, w6, c7, H8⟩ := H5
    refine z_virt (As := [.int x1, .int x3]) (st := [.int x2]) (r1 := (some (.int w6))) (h1 := (g, I, P)) dX12_placesNotSo_21 kX12_isSo wm_X12_367 ⟨by decide, by decide⟩ rfl rfl (Nat.le_of_ble_eq_true rfl) (by decide) (by decide) oc7 c7 ?_
    refine z_if_eq (t := 31) dX12_placesNotSo_24 (by decide) (fun q => ?_) (fun q => ?_)
    · have H9 := H8.1 q
      refine z_iconst (w := 1) dX12_placesNotSo_31 (by decide) (z_aload_n 0 dX12_placesNotSo_32 rfl rfl ?_)
      obtain ⟨oe12, b10, e12, H11⟩ := H9
      refine z_getP dX12_placesNotSo_33 wf_X12_7 (by decide) (by decide) rfl oe12 (fun q => (by cases q.symm.trans e12)) (fun j q => ?_)
      cases q.symm.trans e12
      refine z_aload_n 0 dX12_placesNotSo_36 rfl rfl (z_getI dX12_placesNotSo_37 wf_X12_355 (by decide) (by decide) rfl H11.1 (z_iconst (w := 1) dX12_placesNotSo_40 (by decide) (z_iadd dX12_placesNotSo_41 (z_iconst (w := 2) dX12_placesNotSo_42 (by decide) (z_iload_n 3 dX12_placesNotSo_43 rfl (z_imul dX12_placesNotSo_44 (z_iadd dX12_placesNotSo_45 (z_iald dX12_placesNotSo_46 H11.2.1 H11.2.2.1 (z_ishl dX12_placesNotSo_47 (z_ior dX12_placesNotSo_48 ?_))))))))))
      refine z_nm (fun y13 e_y13 => ?_)
      have H14 := H11.2.2.2 y13 e_y13
      refine z_istore_n (lv' := [(2, .int y13), (0, .ref a0), (1, .int x1), (3, .int x3)]) dX12_placesNotSo_49 (by decide) rfl (z_iinc (y := x3 + 1) (lv' := [(3, .int (x3 + 1)), (2, .int y13), (0, .ref a0), (1, .int x1)]) 3 dX12_placesNotSo_50 rfl rfl (by decide) rfl (z_goto (t := 4) dX12_placesNotSo_53 (by decide) ?_))
      exact z_less [2, 3, 1, 0] rfl H14
    · have H15 := H8.2 q
      refine z_iconst (w := 0) dX12_placesNotSo_27 (by decide) (z_goto (t := 48) dX12_placesNotSo_28 (by decide) (z_ior dX12_placesNotSo_48 (z_istore_n (lv' := [(2, .int (x2 ||| 0)), (0, .ref a0), (1, .int x1), (3, .int x3)]) dX12_placesNotSo_49 (by decide) rfl (z_iinc (y := x3 + 1) (lv' := [(3, .int (x3 + 1)), (2, .int (x2 ||| 0)), (0, .ref a0), (1, .int x1)]) 3 dX12_placesNotSo_50 rfl rfl (by decide) rfl (z_goto (t := 4) dX12_placesNotSo_53 (by decide) ?_)))))
      exact z_less [2, 3, 1, 0] rfl H15
theorem dX12_fewest_0 : decode cX12_fewest 0 = .ok (.bipush 9, 2) := by decide +kernel
theorem dX12_fewest_2 : decode cX12_fewest 2 = .ok (.istore_n 1, 1) := by decide +kernel
theorem dX12_fewest_3 : decode cX12_fewest 3 = .ok (.sipush 1110, 3) := by decide +kernel
theorem dX12_fewest_6 : decode cX12_fewest 6 = .ok (.istore_n 2, 1) := by decide +kernel
theorem dX12_fewest_7 : decode cX12_fewest 7 = .ok (.iload_n 2, 1) := by decide +kernel
theorem dX12_fewest_8 : decode cX12_fewest 8 = .ok (.sipush 10000, 3) := by decide +kernel
theorem dX12_fewest_11 : decode cX12_fewest 11 = .ok (.if_icmp .ge 31, 3) := by decide +kernel
theorem dX12_fewest_14 : decode cX12_fewest 14 = .ok (.iload_n 2, 1) := by decide +kernel
theorem dX12_fewest_15 : decode cX12_fewest 15 = .ok (.invokestatic 370, 3) := by decide +kernel
theorem dX12_fewest_18 : decode cX12_fewest 18 = .ok (.ifCond .eq 18, 3) := by decide +kernel
theorem dX12_fewest_21 : decode cX12_fewest 21 = .ok (.aload_n 0, 1) := by decide +kernel
theorem dX12_fewest_22 : decode cX12_fewest 22 = .ok (.iload_n 2, 1) := by decide +kernel
theorem dX12_fewest_23 : decode cX12_fewest 23 = .ok (.invokevirtual 373, 3) := by decide +kernel
theorem dX12_fewest_26 : decode cX12_fewest 26 = .ok (.iload_n 1, 1) := by decide +kernel
theorem dX12_fewest_27 : decode cX12_fewest 27 = .ok (.if_icmp .ge 9, 3) := by decide +kernel
theorem dX12_fewest_30 : decode cX12_fewest 30 = .ok (.aload_n 0, 1) := by decide +kernel
theorem dX12_fewest_31 : decode cX12_fewest 31 = .ok (.iload_n 2, 1) := by decide +kernel
theorem dX12_fewest_32 : decode cX12_fewest 32 = .ok (.invokevirtual 373, 3) := by decide +kernel
theorem dX12_fewest_35 : decode cX12_fewest 35 = .ok (.istore_n 1, 1) := by decide +kernel
theorem dX12_fewest_36 : decode cX12_fewest 36 = .ok (.iinc 2 1, 3) := by decide +kernel
theorem dX12_fewest_39 : decode cX12_fewest 39 = .ok (.goto (-32), 3) := by decide +kernel
theorem dX12_fewest_42 : decode cX12_fewest 42 = .ok (.iload_n 1, 1) := by decide +kernel
theorem dX12_fewest_43 : decode cX12_fewest 43 = .ok (.ireturn, 1) := by decide +kernel
set_option maxRecDepth 10000 in
theorem wX12_fewest_0 {g : zG} {I : Nat → Nat → Int32} {P : Nat → Nat → Option Nat} {r : Option Value} {h' : zH} {a0 : Nat} (H : Zt none mX12_fewest 0 0 7 [(0, .ref a0), (1, .int 9), (2, .int 1110)] [] (g, I, P) r h') : Zt none mX12_fewest 0 0 0 [(0, .ref a0)] [] (g, I, P) r h' := by
  refine z_bipush (w := 9) dX12_fewest_0 (by decide) (z_istore_n (lv' := [(1, .int 9), (0, .ref a0)]) dX12_fewest_2 (by decide) rfl (z_sipush (w := 1110) dX12_fewest_3 (by decide) (z_istore_n (lv' := [(2, .int 1110), (1, .int 9), (0, .ref a0)]) dX12_fewest_6 (by decide) rfl ?_)))
  exact z_less [2, 1, 0] rfl H
theorem eX12_fewest {g : zG} {I : Nat → Nat → Int32} {P : Nat → Nat → Option Nat} {r : Option Value} {h' : zH} {a0 : Nat} (H : Zt none mX12_fewest 0 0 0 [(0, .ref a0)] [] (g, I, P) r h') : Cl mX12_fewest [.ref a0] (g, I, P) r h' := Cl.of (by decide) (Nat.le_of_ble_eq_true rfl) H
set_option maxRecDepth 10000 in
theorem wX12_fewest_7 {g : zG} {I : Nat → Nat → Int32} {P : Nat → Nat → Option Nat} {r : Option Value} {h' : zH} {a0 : Nat} {x1 : Int32} {x2 : Int32} (H : ((10000 ≤ x2) → r = some (.int x1) ∧ h' = (g, I, P)) ∧ ((¬ 10000 ≤ x2) → ∃ (w3 : Int32), Cl mX12_isRule [.int x2] (g, I, P) (some (.int w3)) (g, I, P) ∧ ((w3 = 0) → Zt none mX12_fewest 0 0 7 [(0, .ref a0), (1, .int x1), (2, .int (x2 + 1))] [] (g, I, P) r h') ∧ ((¬ w3 = 0) → zk g a0 12 ∧ ∃ (w8 : Int32), Cl mX12_notSo [.ref a0, .int x2] (g, I, P) (some (.int w8)) (g, I, P) ∧ ((x1 ≤ w8) → Zt none mX12_fewest 0 0 7 [(0, .ref a0), (1, .int x1), (2, .int (x2 + 1))] [] (g, I, P) r h') ∧ ((¬ x1 ≤ w8) → zk g a0 12 ∧ ∃ (w13 : Int32), Cl mX12_notSo [.ref a0, .int x2] (g, I, P) (some (.int w13)) (g, I, P) ∧ Zt none mX12_fewest 0 0 7 [(0, .ref a0), (1, .int w13), (2, .int (x2 + 1))] [] (g, I, P) r h')))) : Zt none mX12_fewest 0 0 7 [(0, .ref a0), (1, .int x1), (2, .int x2)] [] (g, I, P) r h' := by
  refine z_iload_n 2 dX12_fewest_7 rfl (z_sipush (w := 10000) dX12_fewest_8 (by decide) ?_)
  refine z_icmp_ge (t := 42) dX12_fewest_11 (by decide) (fun q => ?_) (fun q => ?_)
  · have H1 := H.1 q
    refine z_iload_n 1 dX12_fewest_42 rfl ?_
    obtain ⟨rfl, rfl⟩ := H1
    exact z_iret dX12_fewest_43 rfl (by decide) (by decide)
  · have H2 := H.2 q
    refine z_iload_n 2 dX12_fewest_14 rfl ?_
    obtain ⟨w3, c4, H5⟩ := H2
    refine z_stat (As := [.int x2]) (st := []) (r1 := (some (.int w3))) (h1 := (g, I, P)) dX12_fewest_15 kX12_isRule wm_X12_370 ⟨by decide, by decide⟩ rfl rfl (Nat.le_of_ble_eq_true rfl) (by decide) (by decide) c4 ?_
    refine z_if_eq (t := 36) dX12_fewest_18 (by decide) (fun q => ?_) (fun q => ?_)
    · have H6 := H5.1 q
      refine z_iinc (y := x2 + 1) (lv' := [(2, .int (x2 + 1)), (0, .ref a0), (1, .int x1)]) 2 dX12_fewest_36 rfl rfl (by decide) rfl (z_goto (t := 7) dX12_fewest_39 (by decide) ?_)
      exact z_less [1, 2, 0] rfl H6
    · have H7 := H5.2 q
      refine z_aload_n 0 dX12_fewest_21 rfl rfl (z_iload_n 2 dX12_fewest_22 rfl ?_)
      obtain ⟨oc9, w8, c9, H10⟩ := H7
      refine z_virt (As := [.int x2]) (st := []) (r1 := (some (.int w8))) (h1 := (g, I, P)) dX12_fewest_23 kX12_notSo wm_X12_373 ⟨by decide, by decide⟩ rfl rfl (Nat.le_of_ble_eq_true rfl) (by decide) (by decide) oc9 c9 ?_
      refine z_iload_n 1 dX12_fewest_26 rfl ?_
      refine z_icmp_ge (t := 36) dX12_fewest_27 (by decide) (fun q => ?_) (fun q => ?_)
      · have H11 := H10.1 q
        refine z_iinc (y := x2 + 1) (lv' := [(2, .int (x2 + 1)), (0, .ref a0), (1, .int x1)]) 2 dX12_fewest_36 rfl rfl (by decide) rfl (z_goto (t := 7) dX12_fewest_39 (by decide) ?_)
        exact z_less [1, 2, 0] rfl H11
      · have H12 := H10.2 q
        refine z_aload_n 0 dX12_fewest_30 rfl rfl (z_iload_n 2 dX12_fewest_31 rfl ?_)
        obtain ⟨oc14, w13, c14, H15⟩ := H12
        refine z_virt (As := [.int x2]) (st := []) (r1 := (some (.int w13))) (h1 := (g, I, P)) dX12_fewest_32 kX12_notSo wm_X12_373 ⟨by decide, by decide⟩ rfl rfl (Nat.le_of_ble_eq_true rfl) (by decide) (by decide) oc14 c14 ?_
        refine z_istore_n (lv' := [(1, .int w13), (0, .ref a0), (2, .int x2)]) dX12_fewest_35 (by decide) rfl (z_iinc (y := x2 + 1) (lv' := [(2, .int (x2 + 1)), (1, .int w13), (0, .ref a0)]) 2 dX12_fewest_36 rfl rfl (by decide) rfl (z_goto (t := 7) dX12_fewest_39 (by decide) ?_))
        exact z_less [2, 1, 0] rfl H15
theorem dX12_forged_0 : decode cX12_forged 0 = .ok (.aload_n 0, 1) := by decide +kernel
theorem dX12_forged_1 : decode cX12_forged 1 = .ok (.iload_n 1, 1) := by decide +kernel
theorem dX12_forged_2 : decode cX12_forged 2 = .ok (.invokevirtual 361, 3) := by decide +kernel
theorem dX12_forged_5 : decode cX12_forged 5 = .ok (.ifCond .eq 17, 3) := by decide +kernel
theorem dX12_forged_8 : decode cX12_forged 8 = .ok (.iload_n 2, 1) := by decide +kernel
theorem dX12_forged_9 : decode cX12_forged 9 = .ok (.ifCond .lt 13, 3) := by decide +kernel
theorem dX12_forged_12 : decode cX12_forged 12 = .ok (.iload_n 2, 1) := by decide +kernel
theorem dX12_forged_13 : decode cX12_forged 13 = .ok (.iconst 3, 1) := by decide +kernel
theorem dX12_forged_14 : decode cX12_forged 14 = .ok (.bipush 9, 2) := by decide +kernel
theorem dX12_forged_16 : decode cX12_forged 16 = .ok (.invokestatic 120, 3) := by decide +kernel
theorem dX12_forged_19 : decode cX12_forged 19 = .ok (.ifCond .eq 6, 3) := by decide +kernel
theorem dX12_forged_22 : decode cX12_forged 22 = .ok (.bipush (-2), 2) := by decide +kernel
theorem dX12_forged_24 : decode cX12_forged 24 = .ok (.ireturn, 1) := by decide +kernel
theorem dX12_forged_25 : decode cX12_forged 25 = .ok (.aload_n 0, 1) := by decide +kernel
theorem dX12_forged_26 : decode cX12_forged 26 = .ok (.invokevirtual 376, 3) := by decide +kernel
theorem dX12_forged_29 : decode cX12_forged 29 = .ok (.istore_n 3, 1) := by decide +kernel
theorem dX12_forged_30 : decode cX12_forged 30 = .ok (.iload_n 2, 1) := by decide +kernel
theorem dX12_forged_31 : decode cX12_forged 31 = .ok (.ifCond .ne 5, 3) := by decide +kernel
theorem dX12_forged_34 : decode cX12_forged 34 = .ok (.iload_n 3, 1) := by decide +kernel
theorem dX12_forged_35 : decode cX12_forged 35 = .ok (.ireturn, 1) := by decide +kernel
theorem dX12_forged_36 : decode cX12_forged 36 = .ok (.iconst 0, 1) := by decide +kernel
theorem dX12_forged_37 : decode cX12_forged 37 = .ok (.istore 4, 2) := by decide +kernel
theorem dX12_forged_39 : decode cX12_forged 39 = .ok (.iconst (-1), 1) := by decide +kernel
theorem dX12_forged_40 : decode cX12_forged 40 = .ok (.istore 5, 2) := by decide +kernel
theorem dX12_forged_42 : decode cX12_forged 42 = .ok (.sipush 1110, 3) := by decide +kernel
theorem dX12_forged_45 : decode cX12_forged 45 = .ok (.istore 6, 2) := by decide +kernel
theorem dX12_forged_47 : decode cX12_forged 47 = .ok (.iload 6, 2) := by decide +kernel
theorem dX12_forged_49 : decode cX12_forged 49 = .ok (.sipush 10000, 3) := by decide +kernel
theorem dX12_forged_52 : decode cX12_forged 52 = .ok (.if_icmp .ge 62, 3) := by decide +kernel
theorem dX12_forged_55 : decode cX12_forged 55 = .ok (.iload 6, 2) := by decide +kernel
theorem dX12_forged_57 : decode cX12_forged 57 = .ok (.invokestatic 370, 3) := by decide +kernel
theorem dX12_forged_60 : decode cX12_forged 60 = .ok (.ifCond .eq 48, 3) := by decide +kernel
theorem dX12_forged_63 : decode cX12_forged 63 = .ok (.aload_n 0, 1) := by decide +kernel
theorem dX12_forged_64 : decode cX12_forged 64 = .ok (.iload 6, 2) := by decide +kernel
theorem dX12_forged_66 : decode cX12_forged 66 = .ok (.invokevirtual 373, 3) := by decide +kernel
theorem dX12_forged_69 : decode cX12_forged 69 = .ok (.iload_n 3, 1) := by decide +kernel
theorem dX12_forged_70 : decode cX12_forged 70 = .ok (.if_icmp .eq 6, 3) := by decide +kernel
theorem dX12_forged_73 : decode cX12_forged 73 = .ok (.goto 35, 3) := by decide +kernel
theorem dX12_forged_76 : decode cX12_forged 76 = .ok (.iload_n 2, 1) := by decide +kernel
theorem dX12_forged_77 : decode cX12_forged 77 = .ok (.bipush 10, 2) := by decide +kernel
theorem dX12_forged_79 : decode cX12_forged 79 = .ok (.if_icmp .lt 15, 3) := by decide +kernel
theorem dX12_forged_82 : decode cX12_forged 82 = .ok (.iload 4, 2) := by decide +kernel
theorem dX12_forged_84 : decode cX12_forged 84 = .ok (.iload_n 2, 1) := by decide +kernel
theorem dX12_forged_85 : decode cX12_forged 85 = .ok (.bipush 10, 2) := by decide +kernel
theorem dX12_forged_87 : decode cX12_forged 87 = .ok (.isub, 1) := by decide +kernel
theorem dX12_forged_88 : decode cX12_forged 88 = .ok (.if_icmp .ne 6, 3) := by decide +kernel
theorem dX12_forged_91 : decode cX12_forged 91 = .ok (.iload 6, 2) := by decide +kernel
theorem dX12_forged_93 : decode cX12_forged 93 = .ok (.ireturn, 1) := by decide +kernel
theorem dX12_forged_94 : decode cX12_forged 94 = .ok (.iinc 4 1, 3) := by decide +kernel
theorem dX12_forged_97 : decode cX12_forged 97 = .ok (.iload 5, 2) := by decide +kernel
theorem dX12_forged_99 : decode cX12_forged 99 = .ok (.aload_n 0, 1) := by decide +kernel
theorem dX12_forged_100 : decode cX12_forged 100 = .ok (.iload 6, 2) := by decide +kernel
theorem dX12_forged_102 : decode cX12_forged 102 = .ok (.invokevirtual 379, 3) := by decide +kernel
theorem dX12_forged_105 : decode cX12_forged 105 = .ok (.iand, 1) := by decide +kernel
theorem dX12_forged_106 : decode cX12_forged 106 = .ok (.istore 5, 2) := by decide +kernel
theorem dX12_forged_108 : decode cX12_forged 108 = .ok (.iinc 6 1, 3) := by decide +kernel
theorem dX12_forged_111 : decode cX12_forged 111 = .ok (.goto (-64), 3) := by decide +kernel
theorem dX12_forged_114 : decode cX12_forged 114 = .ok (.iload_n 2, 1) := by decide +kernel
theorem dX12_forged_115 : decode cX12_forged 115 = .ok (.iconst 1, 1) := by decide +kernel
theorem dX12_forged_116 : decode cX12_forged 116 = .ok (.if_icmp .ne 8, 3) := by decide +kernel
theorem dX12_forged_119 : decode cX12_forged 119 = .ok (.iload 4, 2) := by decide +kernel
theorem dX12_forged_121 : decode cX12_forged 121 = .ok (.goto 15, 3) := by decide +kernel
theorem dX12_forged_124 : decode cX12_forged 124 = .ok (.iload_n 2, 1) := by decide +kernel
theorem dX12_forged_125 : decode cX12_forged 125 = .ok (.iconst 2, 1) := by decide +kernel
theorem dX12_forged_126 : decode cX12_forged 126 = .ok (.if_icmp .ne 8, 3) := by decide +kernel
theorem dX12_forged_129 : decode cX12_forged 129 = .ok (.iload 5, 2) := by decide +kernel
theorem dX12_forged_131 : decode cX12_forged 131 = .ok (.goto 5, 3) := by decide +kernel
theorem dX12_forged_134 : decode cX12_forged 134 = .ok (.bipush (-2), 2) := by decide +kernel
theorem dX12_forged_136 : decode cX12_forged 136 = .ok (.ireturn, 1) := by decide +kernel
set_option maxRecDepth 10000 in
theorem wX12_forged_0 {g : zG} {I : Nat → Nat → Int32} {P : Nat → Nat → Option Nat} {r : Option Value} {h' : zH} {a0 : Nat} {x1 : Int32} {x2 : Int32} (H : zk g a0 12 ∧ ∃ (w1 : Int32) (I2 : Nat → Nat → Int32), Cl mX12_isLog [.ref a0, .int x1] (g, I, P) (some (.int w1)) (g, I2, P) ∧ ((w1 = 0) → r = some (.int (-2)) ∧ h' = (g, I2, P)) ∧ ((¬ w1 = 0) → ((x2 < 0) → r = some (.int (-2)) ∧ h' = (g, I2, P)) ∧ ((¬ x2 < 0) → ∃ (w9 : Int32), Cl mX12_isIn [.int x2, .int 3, .int 9] (g, I2, P) (some (.int w9)) (g, I2, P) ∧ ((w9 = 0) → zk g a0 12 ∧ ∃ (w13 : Int32), Cl mX12_fewest [.ref a0] (g, I2, P) (some (.int w13)) (g, I2, P) ∧ ((¬ x2 = 0) → Zt none mX12_forged 0 0 47 [(0, .ref a0), (2, .int x2), (3, .int w13), (4, .int 0), (5, .int (-1)), (6, .int 1110)] [] (g, I2, P) r h') ∧ ((x2 = 0) → r = some (.int w13) ∧ h' = (g, I2, P))) ∧ ((¬ w9 = 0) → r = some (.int (-2)) ∧ h' = (g, I2, P))))) : Zt none mX12_forged 0 0 0 [(0, .ref a0), (1, .int x1), (2, .int x2)] [] (g, I, P) r h' := by
  refine z_aload_n 0 dX12_forged_0 rfl rfl (z_iload_n 1 dX12_forged_1 rfl ?_)
  obtain ⟨oc3, w1, I2, c3, H4⟩ := H
  refine z_virt (As := [.int x1]) (st := []) (r1 := (some (.int w1))) (h1 := (g, I2, P)) dX12_forged_2 kX12_isLog wm_X12_361 ⟨by decide, by decide⟩ rfl rfl (Nat.le_of_ble_eq_true rfl) (by decide) (by decide) oc3 c3 ?_
  refine z_if_eq (t := 22) dX12_forged_5 (by decide) (fun q => ?_) (fun q => ?_)
  · have H5 := H4.1 q
    refine z_bipush (w := (-2)) dX12_forged_22 (by decide) ?_
    obtain ⟨rfl, rfl⟩ := H5
    exact z_iret dX12_forged_24 rfl (by decide) (by decide)
  · have H6 := H4.2 q
    refine z_iload_n 2 dX12_forged_8 rfl ?_
    refine z_if_lt (t := 22) dX12_forged_9 (by decide) (fun q => ?_) (fun q => ?_)
    · have H7 := H6.1 q
      refine z_bipush (w := (-2)) dX12_forged_22 (by decide) ?_
      obtain ⟨rfl, rfl⟩ := H7
      exact z_iret dX12_forged_24 rfl (by decide) (by decide)
    · have H8 := H6.2 q
      refine z_iload_n 2 dX12_forged_12 rfl (z_iconst (w := 3) dX12_forged_13 (by decide) (z_bipush (w := 9) dX12_forged_14 (by decide) ?_))
      obtain ⟨w9, c10, H11⟩ := H8
      refine z_stat (As := [.int x2, .int 3, .int 9]) (st := []) (r1 := (some (.int w9))) (h1 := (g, I2, P)) dX12_forged_16 kX12_isIn wm_X12_120 ⟨by decide, by decide⟩ rfl rfl (Nat.le_of_ble_eq_true rfl) (by decide) (by decide) c10 ?_
      refine z_if_eq (t := 25) dX12_forged_19 (by decide) (fun q => ?_) (fun q => ?_)
      · have H12 := H11.1 q
        refine z_aload_n 0 dX12_forged_25 rfl rfl ?_
        obtain ⟨oc14, w13, c14, H15⟩ := H12
        refine z_virt (As := []) (st := []) (r1 := (some (.int w13))) (h1 := (g, I2, P)) dX12_forged_26 kX12_fewest wm_X12_376 ⟨by decide, by decide⟩ rfl rfl (Nat.le_of_ble_eq_true rfl) (by decide) (by decide) oc14 c14 ?_
        refine z_istore_n (lv' := [(3, .int w13), (0, .ref a0), (1, .int x1), (2, .int x2)]) dX12_forged_29 (by decide) rfl (z_iload_n 3 dX12_forged_30 rfl ?_)
        refine z_if_ne (t := 36) dX12_forged_31 (by decide) (fun q => ?_) (fun q => ?_)
        · have H16 := H15.1 q
          refine z_iconst (w := 0) dX12_forged_36 (by decide) (z_istore (lv' := [(4, .int 0), (3, .int w13), (0, .ref a0), (1, .int x1), (2, .int x2)]) dX12_forged_37 (by decide) rfl (z_iconst (w := (-1)) dX12_forged_39 (by decide) (z_istore (lv' := [(5, .int (-1)), (4, .int 0), (3, .int w13), (0, .ref a0), (1, .int x1), (2, .int x2)]) dX12_forged_40 (by decide) rfl (z_sipush (w := 1110) dX12_forged_42 (by decide) (z_istore (lv' := [(6, .int 1110), (5, .int (-1)), (4, .int 0), (3, .int w13), (0, .ref a0), (1, .int x1), (2, .int x2)]) dX12_forged_45 (by decide) rfl ?_)))))
          exact z_less [4, 6, 3, 2, 1, 0] rfl H16
        · have H17 := H15.2 q
          refine z_iload_n 0 dX12_forged_34 rfl ?_
          obtain ⟨rfl, rfl⟩ := H17
          exact z_iret dX12_forged_35 rfl (by decide) (by decide)
      · have H18 := H11.2 q
        refine z_bipush (w := (-2)) dX12_forged_22 (by decide) ?_
        obtain ⟨rfl, rfl⟩ := H18
        exact z_iret dX12_forged_24 rfl (by decide) (by decide)
theorem eX12_forged {g : zG} {I : Nat → Nat → Int32} {P : Nat → Nat → Option Nat} {r : Option Value} {h' : zH} {a0 : Nat} {x1 : Int32} {x2 : Int32} (H : Zt none mX12_forged 0 0 0 [(0, .ref a0), (1, .int x1), (2, .int x2)] [] (g, I, P) r h') : Cl mX12_forged [.ref a0, .int x1, .int x2] (g, I, P) r h' := Cl.of (by decide) (Nat.le_of_ble_eq_true rfl) H
set_option maxRecDepth 10000 in
theorem wX12_forged_47 {g : zG} {I : Nat → Nat → Int32} {P : Nat → Nat → Option Nat} {r : Option Value} {h' : zH} {a0 : Nat} {x2 : Int32} {x3 : Int32} {x4 : Int32} {x5 : Int32} {x6 : Int32} (H : ((10000 ≤ x6) → ((¬ x2 = 1) → ((¬ x2 = 2) → r = some (.int (-2)) ∧ h' = (g, I, P)) ∧ ((x2 = 2) → r = some (.int x5) ∧ h' = (g, I, P))) ∧ ((x2 = 1) → r = some (.int x4) ∧ h' = (g, I, P))) ∧ ((¬ 10000 ≤ x6) → ∃ (w7 : Int32), Cl mX12_isRule [.int x6] (g, I, P) (some (.int w7)) (g, I, P) ∧ ((w7 = 0) → Zt none mX12_forged 0 0 47 [(0, .ref a0), (2, .int x2), (3, .int x3), (4, .int x4), (5, .int x5), (6, .int (x6 + 1))] [] (g, I, P) r h') ∧ ((¬ w7 = 0) → zk g a0 12 ∧ ∃ (w12 : Int32), Cl mX12_notSo [.ref a0, .int x6] (g, I, P) (some (.int w12)) (g, I, P) ∧ ((w12 = x3) → ((x2 < 10) → zk g a0 12 ∧ ∃ (w17 : Int32), Cl mX12_placesNotSo [.ref a0, .int x6] (g, I, P) (some (.int w17)) (g, I, P) ∧ Zt none mX12_forged 0 0 47 [(0, .ref a0), (2, .int x2), (3, .int x3), (4, .int (x4 + 1)), (5, .int (x5 &&& w17)), (6, .int (x6 + 1))] [] (g, I, P) r h') ∧ ((¬ x2 < 10) → ((¬ x4 = x2 - 10) → zk g a0 12 ∧ ∃ (w22 : Int32), Cl mX12_placesNotSo [.ref a0, .int x6] (g, I, P) (some (.int w22)) (g, I, P) ∧ Zt none mX12_forged 0 0 47 [(0, .ref a0), (2, .int x2), (3, .int x3), (4, .int (x4 + 1)), (5, .int (x5 &&& w22)), (6, .int (x6 + 1))] [] (g, I, P) r h') ∧ ((x4 = x2 - 10) → r = some (.int x6) ∧ h' = (g, I, P)))) ∧ ((¬ w12 = x3) → Zt none mX12_forged 0 0 47 [(0, .ref a0), (2, .int x2), (3, .int x3), (4, .int x4), (5, .int x5), (6, .int (x6 + 1))] [] (g, I, P) r h')))) : Zt none mX12_forged 0 0 47 [(0, .ref a0), (2, .int x2), (3, .int x3), (4, .int x4), (5, .int x5), (6, .int x6)] [] (g, I, P) r h' := by
  refine z_iload 5 dX12_forged_47 rfl (z_sipush (w := 10000) dX12_forged_49 (by decide) ?_)
  refine z_icmp_ge (t := 114) dX12_forged_52 (by decide) (fun q => ?_) (fun q => ?_)
  · have H1 := H.1 q
    refine z_iload_n 1 dX12_forged_114 rfl (z_iconst (w := 1) dX12_forged_115 (by decide) ?_)
    refine z_icmp_ne (t := 124) dX12_forged_116 (by decide) (fun q => ?_) (fun q => ?_)
    · have H2 := H1.1 q
      refine z_iload_n 1 dX12_forged_124 rfl (z_iconst (w := 2) dX12_forged_125 (by decide) ?_)
      refine z_icmp_ne (t := 134) dX12_forged_126 (by decide) (fun q => ?_) (fun q => ?_)
      · have H3 := H2.1 q
        refine z_bipush (w := (-2)) dX12_forged_134 (by decide) ?_
        obtain ⟨rfl, rfl⟩ := H3
        exact z_iret dX12_forged_136 rfl (by decide) (by decide)
      · have H4 := H2.2 q
        refine z_iload 4 dX12_forged_129 rfl (z_goto (t := 136) dX12_forged_131 (by decide) ?_)
        obtain ⟨rfl, rfl⟩ := H4
        exact z_iret dX12_forged_136 rfl (by decide) (by decide)
    · have H5 := H1.2 q
      refine z_iload 3 dX12_forged_119 rfl (z_goto (t := 136) dX12_forged_121 (by decide) ?_)
      obtain ⟨rfl, rfl⟩ := H5
      exact z_iret dX12_forged_136 rfl (by decide) (by decide)
  · have H6 := H.2 q
    refine z_iload 5 dX12_forged_55 rfl ?_
    obtain ⟨w7, c8, H9⟩ := H6
    refine z_stat (As := [.int x6]) (st := []) (r1 := (some (.int w7))) (h1 := (g, I, P)) dX12_forged_57 kX12_isRule wm_X12_370 ⟨by decide, by decide⟩ rfl rfl (Nat.le_of_ble_eq_true rfl) (by decide) (by decide) c8 ?_
    refine z_if_eq (t := 108) dX12_forged_60 (by decide) (fun q => ?_) (fun q => ?_)
    · have H10 := H9.1 q
      refine z_iinc (y := x6 + 1) (lv' := [(6, .int (x6 + 1)), (0, .ref a0), (2, .int x2), (3, .int x3), (4, .int x4), (5, .int x5)]) 5 dX12_forged_108 rfl rfl (by decide) rfl (z_goto (t := 47) dX12_forged_111 (by decide) ?_)
      exact z_less [1, 2, 3, 4, 5, 0] rfl H10
    · have H11 := H9.2 q
      refine z_aload_n 0 dX12_forged_63 rfl rfl (z_iload 5 dX12_forged_64 rfl ?_)
      obtain ⟨oc13, w12, c13, H14⟩ := H11
      refine z_virt (As := [.int x6]) (st := []) (r1 := (some (.int w12))) (h1 := (g, I, P)) dX12_forged_66 kX12_notSo wm_X12_373 ⟨by decide, by decide⟩ rfl rfl (Nat.le_of_ble_eq_true rfl) (by decide) (by decide) oc13 c13 ?_
      refine z_iload_n 2 dX12_forged_69 rfl ?_
      refine z_icmp_eq (t := 76) dX12_forged_70 (by decide) (fun q => ?_) (fun q => ?_)
      · have H15 := H14.1 q
        refine z_iload_n 1 dX12_forged_76 rfl (z_bipush (w := 10) dX12_forged_77 (by decide) ?_)
        refine z_icmp_lt (t := 94) dX12_forged_79 (by decide) (fun q => ?_) (fun q => ?_)
        · have H16 := H15.1 q
          refine z_iinc (y := x4 + 1) (lv' := [(4, .int (x4 + 1)), (0, .ref a0), (2, .int x2), (3, .int x3), (5, .int x5), (6, .int x6)]) 3 dX12_forged_94 rfl rfl (by decide) rfl (z_iload 4 dX12_forged_97 rfl (z_aload_n 1 dX12_forged_99 rfl rfl (z_iload 5 dX12_forged_100 rfl ?_)))
          obtain ⟨oc18, w17, c18, H19⟩ := H16
          refine z_virt (As := [.int x6]) (st := [.int x5]) (r1 := (some (.int w17))) (h1 := (g, I, P)) dX12_forged_102 kX12_placesNotSo wm_X12_379 ⟨by decide, by decide⟩ rfl rfl (Nat.le_of_ble_eq_true rfl) (by decide) (by decide) oc18 c18 ?_
          refine z_iand dX12_forged_105 (z_istore (lv' := [(5, .int (x5 &&& w17)), (4, .int (x4 + 1)), (0, .ref a0), (2, .int x2), (3, .int x3), (6, .int x6)]) dX12_forged_106 (by decide) rfl (z_iinc (y := x6 + 1) (lv' := [(6, .int (x6 + 1)), (5, .int (x5 &&& w17)), (4, .int (x4 + 1)), (0, .ref a0), (2, .int x2), (3, .int x3)]) 5 dX12_forged_108 rfl rfl (by decide) rfl (z_goto (t := 47) dX12_forged_111 (by decide) ?_)))
          exact z_less [3, 4, 5, 2, 1, 0] rfl H19
        · have H20 := H15.2 q
          refine z_iload 3 dX12_forged_82 rfl (z_iload_n 1 dX12_forged_84 rfl (z_bipush (w := 10) dX12_forged_85 (by decide) (z_isub dX12_forged_87 ?_)))
          refine z_icmp_ne (t := 94) dX12_forged_88 (by decide) (fun q => ?_) (fun q => ?_)
          · have H21 := H20.1 q
            refine z_iinc (y := x4 + 1) (lv' := [(4, .int (x4 + 1)), (0, .ref a0), (2, .int x2), (3, .int x3), (5, .int x5), (6, .int x6)]) 3 dX12_forged_94 rfl rfl (by decide) rfl (z_iload 4 dX12_forged_97 rfl (z_aload_n 1 dX12_forged_99 rfl rfl (z_iload 5 dX12_forged_100 rfl ?_)))
            obtain ⟨oc23, w22, c23, H24⟩ := H21
            refine z_virt (As := [.int x6]) (st := [.int x5]) (r1 := (some (.int w22))) (h1 := (g, I, P)) dX12_forged_102 kX12_placesNotSo wm_X12_379 ⟨by decide, by decide⟩ rfl rfl (Nat.le_of_ble_eq_true rfl) (by decide) (by decide) oc23 c23 ?_
            refine z_iand dX12_forged_105 (z_istore (lv' := [(5, .int (x5 &&& w22)), (4, .int (x4 + 1)), (0, .ref a0), (2, .int x2), (3, .int x3), (6, .int x6)]) dX12_forged_106 (by decide) rfl (z_iinc (y := x6 + 1) (lv' := [(6, .int (x6 + 1)), (5, .int (x5 &&& w22)), (4, .int (x4 + 1)), (0, .ref a0), (2, .int x2), (3, .int x3)]) 5 dX12_forged_108 rfl rfl (by decide) rfl (z_goto (t := 47) dX12_forged_111 (by decide) ?_)))
            exact z_less [3, 4, 5, 2, 1, 0] rfl H24
          · have H25 := H20.2 q
            refine z_iload 5 dX12_forged_91 rfl ?_
            obtain ⟨rfl, rfl⟩ := H25
            exact z_iret dX12_forged_93 rfl (by decide) (by decide)
      · have H26 := H14.2 q
        refine z_goto (t := 108) dX12_forged_73 (by decide) (z_iinc (y := x6 + 1) (lv' := [(6, .int (x6 + 1)), (0, .ref a0), (2, .int x2), (3, .int x3), (4, .int x4), (5, .int x5)]) 5 dX12_forged_108 rfl rfl (by decide) rfl (z_goto (t := 47) dX12_forged_111 (by decide) ?_))
        exact z_less [1, 2, 3, 4, 5, 0] rfl H26
theorem dX12_age_0 : decode cX12_age 0 = .ok (.aload_n 0, 1) := by decide +kernel
theorem dX12_age_1 : decode cX12_age 1 = .ok (.iload_n 1, 1) := by decide +kernel
theorem dX12_age_2 : decode cX12_age 2 = .ok (.invokevirtual 361, 3) := by decide +kernel
theorem dX12_age_5 : decode cX12_age 5 = .ok (.ifCond .ne 5, 3) := by decide +kernel
theorem dX12_age_8 : decode cX12_age 8 = .ok (.iconst (-1), 1) := by decide +kernel
theorem dX12_age_9 : decode cX12_age 9 = .ok (.ireturn, 1) := by decide +kernel
theorem dX12_age_10 : decode cX12_age 10 = .ok (.aload_n 0, 1) := by decide +kernel
theorem dX12_age_11 : decode cX12_age 11 = .ok (.invokevirtual 376, 3) := by decide +kernel
theorem dX12_age_14 : decode cX12_age 14 = .ok (.istore_n 3, 1) := by decide +kernel
theorem dX12_age_15 : decode cX12_age 15 = .ok (.iconst (-1), 1) := by decide +kernel
theorem dX12_age_16 : decode cX12_age 16 = .ok (.istore 4, 2) := by decide +kernel
theorem dX12_age_18 : decode cX12_age 18 = .ok (.sipush 1110, 3) := by decide +kernel
theorem dX12_age_21 : decode cX12_age 21 = .ok (.istore 5, 2) := by decide +kernel
theorem dX12_age_23 : decode cX12_age 23 = .ok (.iload 5, 2) := by decide +kernel
theorem dX12_age_25 : decode cX12_age 25 = .ok (.sipush 10000, 3) := by decide +kernel
theorem dX12_age_28 : decode cX12_age 28 = .ok (.if_icmp .ge 87, 3) := by decide +kernel
theorem dX12_age_31 : decode cX12_age 31 = .ok (.iload 5, 2) := by decide +kernel
theorem dX12_age_33 : decode cX12_age 33 = .ok (.invokestatic 370, 3) := by decide +kernel
theorem dX12_age_36 : decode cX12_age 36 = .ok (.ifCond .eq 73, 3) := by decide +kernel
theorem dX12_age_39 : decode cX12_age 39 = .ok (.aload_n 0, 1) := by decide +kernel
theorem dX12_age_40 : decode cX12_age 40 = .ok (.iload 5, 2) := by decide +kernel
theorem dX12_age_42 : decode cX12_age 42 = .ok (.invokevirtual 373, 3) := by decide +kernel
theorem dX12_age_45 : decode cX12_age 45 = .ok (.iload_n 3, 1) := by decide +kernel
theorem dX12_age_46 : decode cX12_age 46 = .ok (.if_icmp .eq 6, 3) := by decide +kernel
theorem dX12_age_49 : decode cX12_age 49 = .ok (.goto 60, 3) := by decide +kernel
theorem dX12_age_52 : decode cX12_age 52 = .ok (.aload_n 0, 1) := by decide +kernel
theorem dX12_age_53 : decode cX12_age 53 = .ok (.getfield 358, 3) := by decide +kernel
theorem dX12_age_56 : decode cX12_age 56 = .ok (.iload 5, 2) := by decide +kernel
theorem dX12_age_58 : decode cX12_age 58 = .ok (.bipush 100, 2) := by decide +kernel
theorem dX12_age_60 : decode cX12_age 60 = .ok (.invokestatic 364, 3) := by decide +kernel
theorem dX12_age_63 : decode cX12_age 63 = .ok (.imul, 1) := by decide +kernel
theorem dX12_age_64 : decode cX12_age 64 = .ok (.iload 5, 2) := by decide +kernel
theorem dX12_age_66 : decode cX12_age 66 = .ok (.iconst 1, 1) := by decide +kernel
theorem dX12_age_67 : decode cX12_age 67 = .ok (.invokestatic 364, 3) := by decide +kernel
theorem dX12_age_70 : decode cX12_age 70 = .ok (.iadd, 1) := by decide +kernel
theorem dX12_age_71 : decode cX12_age 71 = .ok (.istore 6, 2) := by decide +kernel
theorem dX12_age_73 : decode cX12_age 73 = .ok (.iload 4, 2) := by decide +kernel
theorem dX12_age_75 : decode cX12_age 75 = .ok (.iconst (-1), 1) := by decide +kernel
theorem dX12_age_76 : decode cX12_age 76 = .ok (.if_icmp .eq 24, 3) := by decide +kernel
theorem dX12_age_79 : decode cX12_age 79 = .ok (.iload_n 2, 1) := by decide +kernel
theorem dX12_age_80 : decode cX12_age 80 = .ok (.ifCond .eq 13, 3) := by decide +kernel
theorem dX12_age_83 : decode cX12_age 83 = .ok (.iload 6, 2) := by decide +kernel
theorem dX12_age_85 : decode cX12_age 85 = .ok (.iload 4, 2) := by decide +kernel
theorem dX12_age_87 : decode cX12_age 87 = .ok (.if_icmp .le 18, 3) := by decide +kernel
theorem dX12_age_90 : decode cX12_age 90 = .ok (.goto 10, 3) := by decide +kernel
theorem dX12_age_93 : decode cX12_age 93 = .ok (.iload 6, 2) := by decide +kernel
theorem dX12_age_95 : decode cX12_age 95 = .ok (.iload 4, 2) := by decide +kernel
theorem dX12_age_97 : decode cX12_age 97 = .ok (.if_icmp .ge 8, 3) := by decide +kernel
theorem dX12_age_100 : decode cX12_age 100 = .ok (.iload 6, 2) := by decide +kernel
theorem dX12_age_102 : decode cX12_age 102 = .ok (.goto 5, 3) := by decide +kernel
theorem dX12_age_105 : decode cX12_age 105 = .ok (.iload 4, 2) := by decide +kernel
theorem dX12_age_107 : decode cX12_age 107 = .ok (.istore 4, 2) := by decide +kernel
theorem dX12_age_109 : decode cX12_age 109 = .ok (.iinc 5 1, 3) := by decide +kernel
theorem dX12_age_112 : decode cX12_age 112 = .ok (.goto (-89), 3) := by decide +kernel
theorem dX12_age_115 : decode cX12_age 115 = .ok (.iload 4, 2) := by decide +kernel
theorem dX12_age_117 : decode cX12_age 117 = .ok (.ireturn, 1) := by decide +kernel
set_option maxRecDepth 10000 in
theorem wX12_age_0 {g : zG} {I : Nat → Nat → Int32} {P : Nat → Nat → Option Nat} {r : Option Value} {h' : zH} {a0 : Nat} {x1 : Int32} {x2 : Int32} (H : zk g a0 12 ∧ ∃ (w1 : Int32) (I2 : Nat → Nat → Int32), Cl mX12_isLog [.ref a0, .int x1] (g, I, P) (some (.int w1)) (g, I2, P) ∧ ((¬ w1 = 0) → zk g a0 12 ∧ ∃ (w6 : Int32), Cl mX12_fewest [.ref a0] (g, I2, P) (some (.int w6)) (g, I2, P) ∧ Zt none mX12_age 0 0 23 [(0, .ref a0), (2, .int x2), (3, .int w6), (4, .int (-1)), (5, .int 1110)] [] (g, I2, P) r h') ∧ ((w1 = 0) → r = some (.int (-1)) ∧ h' = (g, I2, P))) : Zt none mX12_age 0 0 0 [(0, .ref a0), (1, .int x1), (2, .int x2)] [] (g, I, P) r h' := by
  refine z_aload_n 0 dX12_age_0 rfl rfl (z_iload_n 1 dX12_age_1 rfl ?_)
  obtain ⟨oc3, w1, I2, c3, H4⟩ := H
  refine z_virt (As := [.int x1]) (st := []) (r1 := (some (.int w1))) (h1 := (g, I2, P)) dX12_age_2 kX12_isLog wm_X12_361 ⟨by decide, by decide⟩ rfl rfl (Nat.le_of_ble_eq_true rfl) (by decide) (by decide) oc3 c3 ?_
  refine z_if_ne (t := 10) dX12_age_5 (by decide) (fun q => ?_) (fun q => ?_)
  · have H5 := H4.1 q
    refine z_aload_n 0 dX12_age_10 rfl rfl ?_
    obtain ⟨oc7, w6, c7, H8⟩ := H5
    refine z_virt (As := []) (st := []) (r1 := (some (.int w6))) (h1 := (g, I2, P)) dX12_age_11 kX12_fewest wm_X12_376 ⟨by decide, by decide⟩ rfl rfl (Nat.le_of_ble_eq_true rfl) (by decide) (by decide) oc7 c7 ?_
    refine z_istore_n (lv' := [(3, .int w6), (0, .ref a0), (1, .int x1), (2, .int x2)]) dX12_age_14 (by decide) rfl (z_iconst (w := (-1)) dX12_age_15 (by decide) (z_istore (lv' := [(4, .int (-1)), (3, .int w6), (0, .ref a0), (1, .int x1), (2, .int x2)]) dX12_age_16 (by decide) rfl (z_sipush (w := 1110) dX12_age_18 (by decide) (z_istore (lv' := [(5, .int 1110), (4, .int (-1)), (3, .int w6), (0, .ref a0), (1, .int x1), (2, .int x2)]) dX12_age_21 (by decide) rfl ?_))))
    exact z_less [3, 5, 2, 1, 0] rfl H8
  · have H9 := H4.2 q
    refine z_iconst (w := (-1)) dX12_age_8 (by decide) ?_
    obtain ⟨rfl, rfl⟩ := H9
    exact z_iret dX12_age_9 rfl (by decide) (by decide)
theorem eX12_age {g : zG} {I : Nat → Nat → Int32} {P : Nat → Nat → Option Nat} {r : Option Value} {h' : zH} {a0 : Nat} {x1 : Int32} {x2 : Int32} (H : Zt none mX12_age 0 0 0 [(0, .ref a0), (1, .int x1), (2, .int x2)] [] (g, I, P) r h') : Cl mX12_age [.ref a0, .int x1, .int x2] (g, I, P) r h' := Cl.of (by decide) (Nat.le_of_ble_eq_true rfl) H
set_option maxRecDepth 10000 in
theorem wX12_age_23 {g : zG} {I : Nat → Nat → Int32} {P : Nat → Nat → Option Nat} {r : Option Value} {h' : zH} {a0 : Nat} {x2 : Int32} {x3 : Int32} {x4 : Int32} {x5 : Int32} (H : ((10000 ≤ x5) → r = some (.int x4) ∧ h' = (g, I, P)) ∧ ((¬ 10000 ≤ x5) → ∃ (w3 : Int32), Cl mX12_isRule [.int x5] (g, I, P) (some (.int w3)) (g, I, P) ∧ ((w3 = 0) → Zt none mX12_age 0 0 23 [(0, .ref a0), (2, .int x2), (3, .int x3), (4, .int x4), (5, .int (x5 + 1))] [] (g, I, P) r h') ∧ ((¬ w3 = 0) → zk g a0 12 ∧ ∃ (w8 : Int32), Cl mX12_notSo [.ref a0, .int x5] (g, I, P) (some (.int w8)) (g, I, P) ∧ ((w8 = x3) → zk g a0 12 ∧ ∃ (w12 : Int32), Cl mX12_digit [.int x5, .int 100] (g, I, P) (some (.int w12)) (g, I, P) ∧ ∃ (w15 : Int32), Cl mX12_digit [.int x5, .int 1] (g, I, P) (some (.int w15)) (g, I, P) ∧ ((x4 = (-1)) → Zt none mX12_age 0 0 23 [(0, .ref a0), (2, .int x2), (3, .int x3), (4, .int (((I a0 39) * w12) + w15)), (5, .int (x5 + 1))] [] (g, I, P) r h') ∧ ((¬ x4 = (-1)) → ((x2 = 0) → ((x4 ≤ ((I a0 39) * w12) + w15) → Zt none mX12_age 0 0 23 [(0, .ref a0), (2, .int x2), (3, .int x3), (4, .int x4), (5, .int (x5 + 1))] [] (g, I, P) r h') ∧ ((¬ x4 ≤ ((I a0 39) * w12) + w15) → Zt none mX12_age 0 0 23 [(0, .ref a0), (2, .int x2), (3, .int x3), (4, .int (((I a0 39) * w12) + w15)), (5, .int (x5 + 1))] [] (g, I, P) r h')) ∧ ((¬ x2 = 0) → ((((I a0 39) * w12) + w15 ≤ x4) → Zt none mX12_age 0 0 23 [(0, .ref a0), (2, .int x2), (3, .int x3), (4, .int x4), (5, .int (x5 + 1))] [] (g, I, P) r h') ∧ ((¬ ((I a0 39) * w12) + w15 ≤ x4) → Zt none mX12_age 0 0 23 [(0, .ref a0), (2, .int x2), (3, .int x3), (4, .int (((I a0 39) * w12) + w15)), (5, .int (x5 + 1))] [] (g, I, P) r h')))) ∧ ((¬ w8 = x3) → Zt none mX12_age 0 0 23 [(0, .ref a0), (2, .int x2), (3, .int x3), (4, .int x4), (5, .int (x5 + 1))] [] (g, I, P) r h')))) : Zt none mX12_age 0 0 23 [(0, .ref a0), (2, .int x2), (3, .int x3), (4, .int x4), (5, .int x5)] [] (g, I, P) r h' := by
  refine z_iload 4 dX12_age_23 rfl (z_sipush (w := 10000) dX12_age_25 (by decide) ?_)
  refine z_icmp_ge (t := 115) dX12_age_28 (by decide) (fun q => ?_) (fun q => ?_)
  · have H1 := H.1 q
    refine z_iload 3 dX12_age_115 rfl ?_
    obtain ⟨rfl, rfl⟩ := H1
    exact z_iret dX12_age_117 rfl (by decide) (by decide)
  · have H2 := H.2 q
    refine z_iload 4 dX12_age_31 rfl ?_
    obtain ⟨w3, c4, H5⟩ := H2
    refine z_stat (As := [.int x5]) (st := []) (r1 := (some (.int w3))) (h1 := (g, I, P)) dX12_age_33 kX12_isRule wm_X12_370 ⟨by decide, by decide⟩ rfl rfl (Nat.le_of_ble_eq_true rfl) (by decide) (by decide) c4 ?_
    refine z_if_eq (t := 109) dX12_age_36 (by decide) (fun q => ?_) (fun q => ?_)
    · have H6 := H5.1 q
      refine z_iinc (y := x5 + 1) (lv' := [(5, .int (x5 + 1)), (0, .ref a0), (2, .int x2), (3, .int x3), (4, .int x4)]) 4 dX12_age_109 rfl rfl (by decide) rfl (z_goto (t := 23) dX12_age_112 (by decide) ?_)
      exact z_less [1, 2, 3, 4, 0] rfl H6
    · have H7 := H5.2 q
      refine z_aload_n 0 dX12_age_39 rfl rfl (z_iload 4 dX12_age_40 rfl ?_)
      obtain ⟨oc9, w8, c9, H10⟩ := H7
      refine z_virt (As := [.int x5]) (st := []) (r1 := (some (.int w8))) (h1 := (g, I, P)) dX12_age_42 kX12_notSo wm_X12_373 ⟨by decide, by decide⟩ rfl rfl (Nat.le_of_ble_eq_true rfl) (by decide) (by decide) oc9 c9 ?_
      refine z_iload_n 2 dX12_age_45 rfl ?_
      refine z_icmp_eq (t := 52) dX12_age_46 (by decide) (fun q => ?_) (fun q => ?_)
      · have H11 := H10.1 q
        refine z_aload_n 0 dX12_age_52 rfl rfl (z_getI dX12_age_53 wf_X12_358 (by decide) (by decide) rfl H11.1 (z_iload 4 dX12_age_56 rfl (z_bipush (w := 100) dX12_age_58 (by decide) ?_)))
        obtain ⟨w12, c13, H14⟩ := H11.2
        refine z_stat (As := [.int x5, .int 100]) (st := [.int (I a0 39)]) (r1 := (some (.int w12))) (h1 := (g, I, P)) dX12_age_60 kX12_digit wm_X12_364 ⟨by decide, by decide⟩ rfl rfl (Nat.le_of_ble_eq_true rfl) (by decide) (by decide) c13 ?_
        refine z_imul dX12_age_63 (z_iload 4 dX12_age_64 rfl (z_iconst (w := 1) dX12_age_66 (by decide) ?_))
        obtain ⟨w15, c16, H17⟩ := H14
        refine z_stat (As := [.int x5, .int 1]) (st := [.int ((I a0 39) * w12)]) (r1 := (some (.int w15))) (h1 := (g, I, P)) dX12_age_67 kX12_digit wm_X12_364 ⟨by decide, by decide⟩ rfl rfl (Nat.le_of_ble_eq_true rfl) (by decide) (by decide) c16 ?_
        refine z_iadd dX12_age_70 (z_istore (lv' := [(6, .int (((I a0 39) * w12) + w15)), (0, .ref a0), (2, .int x2), (3, .int x3), (4, .int x4), (5, .int x5)]) dX12_age_71 (by decide) rfl (z_iload 4 dX12_age_73 rfl (z_iconst (w := (-1)) dX12_age_75 (by decide) ?_)))
        refine z_icmp_eq (t := 100) dX12_age_76 (by decide) (fun q => ?_) (fun q => ?_)
        · have H18 := H17.1 q
          refine z_iload 0 dX12_age_100 rfl (z_goto (t := 107) dX12_age_102 (by decide) (z_istore (lv' := [(4, .int (((I a0 39) * w12) + w15)), (6, .int (((I a0 39) * w12) + w15)), (0, .ref a0), (2, .int x2), (3, .int x3), (5, .int x5)]) dX12_age_107 (by decide) rfl (z_iinc (y := x5 + 1) (lv' := [(5, .int (x5 + 1)), (4, .int (((I a0 39) * w12) + w15)), (6, .int (((I a0 39) * w12) + w15)), (0, .ref a0), (2, .int x2), (3, .int x3)]) 5 dX12_age_109 rfl rfl (by decide) rfl (z_goto (t := 23) dX12_age_112 (by decide) ?_))))
          exact z_less [3, 4, 5, 1, 0] rfl H18
        · have H19 := H17.2 q
          refine z_iload_n 2 dX12_age_79 rfl ?_
          refine z_if_eq (t := 93) dX12_age_80 (by decide) (fun q => ?_) (fun q => ?_)
          · have H20 := H19.1 q
            refine z_iload 0 dX12_age_93 rfl (z_iload 4 dX12_age_95 rfl ?_)
            refine z_icmp_ge (t := 105) dX12_age_97 (by decide) (fun q => ?_) (fun q => ?_)
            · have H21 := H20.1 q
              refine z_iload 4 dX12_age_105 rfl (z_istore (lv' := [(4, .int x4), (6, .int (((I a0 39) * w12) + w15)), (0, .ref a0), (2, .int x2), (3, .int x3), (5, .int x5)]) dX12_age_107 (by decide) rfl (z_iinc (y := x5 + 1) (lv' := [(5, .int (x5 + 1)), (4, .int x4), (6, .int (((I a0 39) * w12) + w15)), (0, .ref a0), (2, .int x2), (3, .int x3)]) 5 dX12_age_109 rfl rfl (by decide) rfl (z_goto (t := 23) dX12_age_112 (by decide) ?_)))
              exact z_less [3, 4, 5, 1, 0] rfl H21
            · have H22 := H20.2 q
              refine z_iload 0 dX12_age_100 rfl (z_goto (t := 107) dX12_age_102 (by decide) (z_istore (lv' := [(4, .int (((I a0 39) * w12) + w15)), (6, .int (((I a0 39) * w12) + w15)), (0, .ref a0), (2, .int x2), (3, .int x3), (5, .int x5)]) dX12_age_107 (by decide) rfl (z_iinc (y := x5 + 1) (lv' := [(5, .int (x5 + 1)), (4, .int (((I a0 39) * w12) + w15)), (6, .int (((I a0 39) * w12) + w15)), (0, .ref a0), (2, .int x2), (3, .int x3)]) 5 dX12_age_109 rfl rfl (by decide) rfl (z_goto (t := 23) dX12_age_112 (by decide) ?_))))
              exact z_less [3, 4, 5, 1, 0] rfl H22
          · have H23 := H19.2 q
            refine z_iload 0 dX12_age_83 rfl (z_iload 4 dX12_age_85 rfl ?_)
            refine z_icmp_le (t := 105) dX12_age_87 (by decide) (fun q => ?_) (fun q => ?_)
            · have H24 := H23.1 q
              refine z_iload 4 dX12_age_105 rfl (z_istore (lv' := [(4, .int x4), (6, .int (((I a0 39) * w12) + w15)), (0, .ref a0), (2, .int x2), (3, .int x3), (5, .int x5)]) dX12_age_107 (by decide) rfl (z_iinc (y := x5 + 1) (lv' := [(5, .int (x5 + 1)), (4, .int x4), (6, .int (((I a0 39) * w12) + w15)), (0, .ref a0), (2, .int x2), (3, .int x3)]) 5 dX12_age_109 rfl rfl (by decide) rfl (z_goto (t := 23) dX12_age_112 (by decide) ?_)))
              exact z_less [3, 4, 5, 1, 0] rfl H24
            · have H25 := H23.2 q
              refine z_goto (t := 100) dX12_age_90 (by decide) (z_iload 0 dX12_age_100 rfl (z_goto (t := 107) dX12_age_102 (by decide) (z_istore (lv' := [(4, .int (((I a0 39) * w12) + w15)), (6, .int (((I a0 39) * w12) + w15)), (0, .ref a0), (2, .int x2), (3, .int x3), (5, .int x5)]) dX12_age_107 (by decide) rfl (z_iinc (y := x5 + 1) (lv' := [(5, .int (x5 + 1)), (4, .int (((I a0 39) * w12) + w15)), (6, .int (((I a0 39) * w12) + w15)), (0, .ref a0), (2, .int x2), (3, .int x3)]) 5 dX12_age_109 rfl rfl (by decide) rfl (z_goto (t := 23) dX12_age_112 (by decide) ?_)))))
              exact z_less [3, 4, 5, 1, 0] rfl H25
      · have H26 := H10.2 q
        refine z_goto (t := 109) dX12_age_49 (by decide) (z_iinc (y := x5 + 1) (lv' := [(5, .int (x5 + 1)), (0, .ref a0), (2, .int x2), (3, .int x3), (4, .int x4)]) 4 dX12_age_109 rfl rfl (by decide) rfl (z_goto (t := 23) dX12_age_112 (by decide) ?_))
        exact z_less [1, 2, 3, 4, 0] rfl H26
theorem dX12_power_0 : decode cX12_power 0 = .ok (.lconst 1, 1) := by decide +kernel
theorem dX12_power_1 : decode cX12_power 1 = .ok (.lstore_n 3, 1) := by decide +kernel
theorem dX12_power_2 : decode cX12_power 2 = .ok (.iconst 0, 1) := by decide +kernel
theorem dX12_power_3 : decode cX12_power 3 = .ok (.istore 5, 2) := by decide +kernel
theorem dX12_power_5 : decode cX12_power 5 = .ok (.iload 5, 2) := by decide +kernel
theorem dX12_power_7 : decode cX12_power 7 = .ok (.iload_n 2, 1) := by decide +kernel
theorem dX12_power_8 : decode cX12_power 8 = .ok (.if_icmp .ge 13, 3) := by decide +kernel
theorem dX12_power_11 : decode cX12_power 11 = .ok (.lload_n 3, 1) := by decide +kernel
theorem dX12_power_12 : decode cX12_power 12 = .ok (.lload_n 0, 1) := by decide +kernel
theorem dX12_power_13 : decode cX12_power 13 = .ok (.lmul, 1) := by decide +kernel
theorem dX12_power_14 : decode cX12_power 14 = .ok (.lstore_n 3, 1) := by decide +kernel
theorem dX12_power_15 : decode cX12_power 15 = .ok (.iinc 5 1, 3) := by decide +kernel
theorem dX12_power_18 : decode cX12_power 18 = .ok (.goto (-13), 3) := by decide +kernel
theorem dX12_power_21 : decode cX12_power 21 = .ok (.lload_n 3, 1) := by decide +kernel
theorem dX12_power_22 : decode cX12_power 22 = .ok (.lreturn, 1) := by decide +kernel
set_option maxRecDepth 10000 in
theorem wX12_power_0 {g : zG} {I : Nat → Nat → Int32} {P : Nat → Nat → Option Nat} {r : Option Value} {h' : zH} {l0 : Int64} {x2 : Int32} (H : Zt none mX12_power 0 0 5 [(0, .long l0), (2, .int x2), (3, .long 1), (5, .int 0)] [] (g, I, P) r h') : Zt none mX12_power 0 0 0 [(0, .long l0), (2, .int x2)] [] (g, I, P) r h' := by
  refine z_lconst (w := 1) dX12_power_0 (by decide) (z_lstore_n (lv' := [(3, .long 1), (0, .long l0), (2, .int x2)]) dX12_power_1 (by decide) rfl (z_iconst (w := 0) dX12_power_2 (by decide) (z_istore (lv' := [(5, .int 0), (3, .long 1), (0, .long l0), (2, .int x2)]) dX12_power_3 (by decide) rfl ?_)))
  exact z_less [2, 3, 1, 0] rfl H
theorem eX12_power {g : zG} {I : Nat → Nat → Int32} {P : Nat → Nat → Option Nat} {r : Option Value} {h' : zH} {l0 : Int64} {x2 : Int32} (H : Zt none mX12_power 0 0 0 [(0, .long l0), (2, .int x2)] [] (g, I, P) r h') : Cl mX12_power [.long l0, .int x2] (g, I, P) r h' := Cl.of (by decide) (Nat.le_of_ble_eq_true rfl) H
set_option maxRecDepth 10000 in
theorem wX12_power_5 {g : zG} {I : Nat → Nat → Int32} {P : Nat → Nat → Option Nat} {r : Option Value} {h' : zH} {l0 : Int64} {x2 : Int32} {l3 : Int64} {x5 : Int32} (H : ((x2 ≤ x5) → r = some (.long l3) ∧ h' = (g, I, P)) ∧ ((¬ x2 ≤ x5) → Zt none mX12_power 0 0 5 [(0, .long l0), (2, .int x2), (3, .long (l3 * l0)), (5, .int (x5 + 1))] [] (g, I, P) r h')) : Zt none mX12_power 0 0 5 [(0, .long l0), (2, .int x2), (3, .long l3), (5, .int x5)] [] (g, I, P) r h' := by
  refine z_iload 3 dX12_power_5 rfl (z_iload_n 1 dX12_power_7 rfl ?_)
  refine z_icmp_ge (t := 21) dX12_power_8 (by decide) (fun q => ?_) (fun q => ?_)
  · have H1 := H.1 q
    refine z_lload_n 2 dX12_power_21 rfl ?_
    obtain ⟨rfl, rfl⟩ := H1
    exact z_lret dX12_power_22 rfl (by decide) (by decide)
  · have H2 := H.2 q
    refine z_lload_n 2 dX12_power_11 rfl (z_lload_n 0 dX12_power_12 rfl (z_lmul dX12_power_13 (z_lstore_n (lv' := [(3, .long (l3 * l0)), (0, .long l0), (2, .int x2), (5, .int x5)]) dX12_power_14 (by decide) rfl (z_iinc (y := x5 + 1) (lv' := [(5, .int (x5 + 1)), (3, .long (l3 * l0)), (0, .long l0), (2, .int x2)]) 3 dX12_power_15 rfl rfl (by decide) rfl (z_goto (t := 5) dX12_power_18 (by decide) ?_)))))
    exact z_less [2, 3, 1, 0] rfl H2
theorem dX12_chance_0 : decode cX12_chance 0 = .ok (.iload_n 1, 1) := by decide +kernel
theorem dX12_chance_1 : decode cX12_chance 1 = .ok (.iconst 1, 1) := by decide +kernel
theorem dX12_chance_2 : decode cX12_chance 2 = .ok (.bipush 12, 2) := by decide +kernel
theorem dX12_chance_4 : decode cX12_chance 4 = .ok (.invokestatic 120, 3) := by decide +kernel
theorem dX12_chance_7 : decode cX12_chance 7 = .ok (.ifCond .eq 23, 3) := by decide +kernel
theorem dX12_chance_10 : decode cX12_chance 10 = .ok (.iload_n 2, 1) := by decide +kernel
theorem dX12_chance_11 : decode cX12_chance 11 = .ok (.iconst 0, 1) := by decide +kernel
theorem dX12_chance_12 : decode cX12_chance 12 = .ok (.bipush 9, 2) := by decide +kernel
theorem dX12_chance_14 : decode cX12_chance 14 = .ok (.invokestatic 120, 3) := by decide +kernel
theorem dX12_chance_17 : decode cX12_chance 17 = .ok (.ifCond .eq 13, 3) := by decide +kernel
theorem dX12_chance_20 : decode cX12_chance 20 = .ok (.iload_n 3, 1) := by decide +kernel
theorem dX12_chance_21 : decode cX12_chance 21 = .ok (.iconst 0, 1) := by decide +kernel
theorem dX12_chance_22 : decode cX12_chance 22 = .ok (.bipush 10, 2) := by decide +kernel
theorem dX12_chance_24 : decode cX12_chance 24 = .ok (.invokestatic 120, 3) := by decide +kernel
theorem dX12_chance_27 : decode cX12_chance 27 = .ok (.ifCond .ne 7, 3) := by decide +kernel
theorem dX12_chance_30 : decode cX12_chance 30 = .ok (.ldc2_w 285, 3) := by decide +kernel
theorem dX12_chance_33 : decode cX12_chance 33 = .ok (.lreturn, 1) := by decide +kernel
theorem dX12_chance_34 : decode cX12_chance 34 = .ok (.lconst 0, 1) := by decide +kernel
theorem dX12_chance_35 : decode cX12_chance 35 = .ok (.lstore 5, 2) := by decide +kernel
theorem dX12_chance_37 : decode cX12_chance 37 = .ok (.iconst 0, 1) := by decide +kernel
theorem dX12_chance_38 : decode cX12_chance 38 = .ok (.istore 7, 2) := by decide +kernel
theorem dX12_chance_40 : decode cX12_chance 40 = .ok (.iload 7, 2) := by decide +kernel
theorem dX12_chance_42 : decode cX12_chance 42 = .ok (.iconst 1, 1) := by decide +kernel
theorem dX12_chance_43 : decode cX12_chance 43 = .ok (.iload_n 2, 1) := by decide +kernel
theorem dX12_chance_44 : decode cX12_chance 44 = .ok (.ishl, 1) := by decide +kernel
theorem dX12_chance_45 : decode cX12_chance 45 = .ok (.if_icmp .ge 49, 3) := by decide +kernel
theorem dX12_chance_48 : decode cX12_chance 48 = .ok (.iload 7, 2) := by decide +kernel
theorem dX12_chance_50 : decode cX12_chance 50 = .ok (.invokestatic 382, 3) := by decide +kernel
theorem dX12_chance_53 : decode cX12_chance 53 = .ok (.iload_n 1, 1) := by decide +kernel
theorem dX12_chance_54 : decode cX12_chance 54 = .ok (.if_icmp .lt 34, 3) := by decide +kernel
theorem dX12_chance_57 : decode cX12_chance 57 = .ok (.lload 5, 2) := by decide +kernel
theorem dX12_chance_59 : decode cX12_chance 59 = .ok (.iload_n 3, 1) := by decide +kernel
theorem dX12_chance_60 : decode cX12_chance 60 = .ok (.i2l, 1) := by decide +kernel
theorem dX12_chance_61 : decode cX12_chance 61 = .ok (.iload 7, 2) := by decide +kernel
theorem dX12_chance_63 : decode cX12_chance 63 = .ok (.invokestatic 382, 3) := by decide +kernel
theorem dX12_chance_66 : decode cX12_chance 66 = .ok (.invokestatic 385, 3) := by decide +kernel
theorem dX12_chance_69 : decode cX12_chance 69 = .ok (.bipush 10, 2) := by decide +kernel
theorem dX12_chance_71 : decode cX12_chance 71 = .ok (.iload_n 3, 1) := by decide +kernel
theorem dX12_chance_72 : decode cX12_chance 72 = .ok (.isub, 1) := by decide +kernel
theorem dX12_chance_73 : decode cX12_chance 73 = .ok (.i2l, 1) := by decide +kernel
theorem dX12_chance_74 : decode cX12_chance 74 = .ok (.iload_n 2, 1) := by decide +kernel
theorem dX12_chance_75 : decode cX12_chance 75 = .ok (.iload 7, 2) := by decide +kernel
theorem dX12_chance_77 : decode cX12_chance 77 = .ok (.invokestatic 382, 3) := by decide +kernel
theorem dX12_chance_80 : decode cX12_chance 80 = .ok (.isub, 1) := by decide +kernel
theorem dX12_chance_81 : decode cX12_chance 81 = .ok (.invokestatic 385, 3) := by decide +kernel
theorem dX12_chance_84 : decode cX12_chance 84 = .ok (.lmul, 1) := by decide +kernel
theorem dX12_chance_85 : decode cX12_chance 85 = .ok (.ladd, 1) := by decide +kernel
theorem dX12_chance_86 : decode cX12_chance 86 = .ok (.lstore 5, 2) := by decide +kernel
theorem dX12_chance_88 : decode cX12_chance 88 = .ok (.iinc 7 1, 3) := by decide +kernel
theorem dX12_chance_91 : decode cX12_chance 91 = .ok (.goto (-51), 3) := by decide +kernel
theorem dX12_chance_94 : decode cX12_chance 94 = .ok (.lload 5, 2) := by decide +kernel
theorem dX12_chance_96 : decode cX12_chance 96 = .ok (.ldc2_w 389, 3) := by decide +kernel
theorem dX12_chance_99 : decode cX12_chance 99 = .ok (.iload_n 2, 1) := by decide +kernel
theorem dX12_chance_100 : decode cX12_chance 100 = .ok (.invokestatic 385, 3) := by decide +kernel
theorem dX12_chance_103 : decode cX12_chance 103 = .ok (.iload 4, 2) := by decide +kernel
theorem dX12_chance_105 : decode cX12_chance 105 = .ok (.invokestatic 290, 3) := by decide +kernel
theorem dX12_chance_108 : decode cX12_chance 108 = .ok (.lreturn, 1) := by decide +kernel
set_option maxRecDepth 10000 in
theorem wX12_chance_0 {g : zG} {I : Nat → Nat → Int32} {P : Nat → Nat → Option Nat} {r : Option Value} {h' : zH} {a0 : Nat} {x1 : Int32} {x2 : Int32} {x3 : Int32} {x4 : Int32} (H : ∃ (w1 : Int32), Cl mX12_isIn [.int x1, .int 1, .int 12] (g, I, P) (some (.int w1)) (g, I, P) ∧ ((w1 = 0) → r = some (.long (-1)) ∧ h' = (g, I, P)) ∧ ((¬ w1 = 0) → ∃ (w6 : Int32), Cl mX12_isIn [.int x2, .int 0, .int 9] (g, I, P) (some (.int w6)) (g, I, P) ∧ ((w6 = 0) → r = some (.long (-1)) ∧ h' = (g, I, P)) ∧ ((¬ w6 = 0) → ∃ (w11 : Int32), Cl mX12_isIn [.int x3, .int 0, .int 10] (g, I, P) (some (.int w11)) (g, I, P) ∧ ((¬ w11 = 0) → Zt none mX12_chance 0 0 40 [(1, .int x1), (2, .int x2), (3, .int x3), (4, .int x4), (5, .long 0), (7, .int 0)] [] (g, I, P) r h') ∧ ((w11 = 0) → r = some (.long (-1)) ∧ h' = (g, I, P))))) : Zt none mX12_chance 0 0 0 [(0, .ref a0), (1, .int x1), (2, .int x2), (3, .int x3), (4, .int x4)] [] (g, I, P) r h' := by
  refine z_iload_n 1 dX12_chance_0 rfl (z_iconst (w := 1) dX12_chance_1 (by decide) (z_bipush (w := 12) dX12_chance_2 (by decide) ?_))
  obtain ⟨w1, c2, H3⟩ := H
  refine z_stat (As := [.int x1, .int 1, .int 12]) (st := []) (r1 := (some (.int w1))) (h1 := (g, I, P)) dX12_chance_4 kX12_isIn wm_X12_120 ⟨by decide, by decide⟩ rfl rfl (Nat.le_of_ble_eq_true rfl) (by decide) (by decide) c2 ?_
  refine z_if_eq (t := 30) dX12_chance_7 (by decide) (fun q => ?_) (fun q => ?_)
  · have H4 := H3.1 q
    refine z_ldc2 dX12_chance_30 wk_X12_285 ?_
    obtain ⟨rfl, rfl⟩ := H4
    exact z_lret dX12_chance_33 rfl (by decide) (by decide)
  · have H5 := H3.2 q
    refine z_iload_n 2 dX12_chance_10 rfl (z_iconst (w := 0) dX12_chance_11 (by decide) (z_bipush (w := 9) dX12_chance_12 (by decide) ?_))
    obtain ⟨w6, c7, H8⟩ := H5
    refine z_stat (As := [.int x2, .int 0, .int 9]) (st := []) (r1 := (some (.int w6))) (h1 := (g, I, P)) dX12_chance_14 kX12_isIn wm_X12_120 ⟨by decide, by decide⟩ rfl rfl (Nat.le_of_ble_eq_true rfl) (by decide) (by decide) c7 ?_
    refine z_if_eq (t := 30) dX12_chance_17 (by decide) (fun q => ?_) (fun q => ?_)
    · have H9 := H8.1 q
      refine z_ldc2 dX12_chance_30 wk_X12_285 ?_
      obtain ⟨rfl, rfl⟩ := H9
      exact z_lret dX12_chance_33 rfl (by decide) (by decide)
    · have H10 := H8.2 q
      refine z_iload_n 3 dX12_chance_20 rfl (z_iconst (w := 0) dX12_chance_21 (by decide) (z_bipush (w := 10) dX12_chance_22 (by decide) ?_))
      obtain ⟨w11, c12, H13⟩ := H10
      refine z_stat (As := [.int x3, .int 0, .int 10]) (st := []) (r1 := (some (.int w11))) (h1 := (g, I, P)) dX12_chance_24 kX12_isIn wm_X12_120 ⟨by decide, by decide⟩ rfl rfl (Nat.le_of_ble_eq_true rfl) (by decide) (by decide) c12 ?_
      refine z_if_ne (t := 34) dX12_chance_27 (by decide) (fun q => ?_) (fun q => ?_)
      · have H14 := H13.1 q
        refine z_lconst (w := 0) dX12_chance_34 (by decide) (z_lstore (lv' := [(5, .long 0), (0, .ref a0), (1, .int x1), (2, .int x2), (3, .int x3), (4, .int x4)]) dX12_chance_35 (by decide) rfl (z_iconst (w := 0) dX12_chance_37 (by decide) (z_istore (lv' := [(7, .int 0), (5, .long 0), (0, .ref a0), (1, .int x1), (2, .int x2), (3, .int x3), (4, .int x4)]) dX12_chance_38 (by decide) rfl ?_)))
        exact z_less [3, 4, 5, 6, 1, 0] rfl H14
      · have H15 := H13.2 q
        refine z_ldc2 dX12_chance_30 wk_X12_285 ?_
        obtain ⟨rfl, rfl⟩ := H15
        exact z_lret dX12_chance_33 rfl (by decide) (by decide)
theorem eX12_chance {g : zG} {I : Nat → Nat → Int32} {P : Nat → Nat → Option Nat} {r : Option Value} {h' : zH} {a0 : Nat} {x1 : Int32} {x2 : Int32} {x3 : Int32} {x4 : Int32} (H : Zt none mX12_chance 0 0 0 [(0, .ref a0), (1, .int x1), (2, .int x2), (3, .int x3), (4, .int x4)] [] (g, I, P) r h') : Cl mX12_chance [.ref a0, .int x1, .int x2, .int x3, .int x4] (g, I, P) r h' := Cl.of (by decide) (Nat.le_of_ble_eq_true rfl) H
set_option maxRecDepth 10000 in
theorem wX12_chance_40 {g : zG} {I : Nat → Nat → Int32} {P : Nat → Nat → Option Nat} {r : Option Value} {h' : zH} {x1 : Int32} {x2 : Int32} {x3 : Int32} {x4 : Int32} {l5 : Int64} {x7 : Int32} (H : (((1 : Int32) <<< (x2 &&& 31) ≤ x7) → ∃ (w2 : Int64), Cl mX12_power [.long 10, .int x2] (g, I, P) (some (.long w2)) (g, I, P) ∧ ∃ (w5 : Int64), Cl mX12_least [.long l5, .long w2, .int x4] (g, I, P) (some (.long w5)) (g, I, P) ∧ r = some (.long w5) ∧ h' = (g, I, P)) ∧ ((¬ (1 : Int32) <<< (x2 &&& 31) ≤ x7) → ∃ (w9 : Int32), Cl mX12_bitsOf [.int x7] (g, I, P) (some (.int w9)) (g, I, P) ∧ ((w9 < x1) → Zt none mX12_chance 0 0 40 [(1, .int x1), (2, .int x2), (3, .int x3), (4, .int x4), (5, .long l5), (7, .int (x7 + 1))] [] (g, I, P) r h') ∧ ((¬ w9 < x1) → ∃ (w14 : Int32), Cl mX12_bitsOf [.int x7] (g, I, P) (some (.int w14)) (g, I, P) ∧ ∃ (w17 : Int64), Cl mX12_power [.long x3.toInt64, .int w14] (g, I, P) (some (.long w17)) (g, I, P) ∧ ∃ (w20 : Int32), Cl mX12_bitsOf [.int x7] (g, I, P) (some (.int w20)) (g, I, P) ∧ ∃ (w23 : Int64), Cl mX12_power [.long ((10 - x3).toInt64), .int (x2 - w20)] (g, I, P) (some (.long w23)) (g, I, P) ∧ Zt none mX12_chance 0 0 40 [(1, .int x1), (2, .int x2), (3, .int x3), (4, .int x4), (5, .long (l5 + (w17 * w23))), (7, .int (x7 + 1))] [] (g, I, P) r h'))) : Zt none mX12_chance 0 0 40 [(1, .int x1), (2, .int x2), (3, .int x3), (4, .int x4), (5, .long l5), (7, .int x7)] [] (g, I, P) r h' := by
  refine z_iload 5 dX12_chance_40 rfl (z_iconst (w := 1) dX12_chance_42 (by decide) (z_iload_n 1 dX12_chance_43 rfl (z_ishl dX12_chance_44 ?_)))
  refine z_icmp_ge (t := 94) dX12_chance_45 (by decide) (fun q => ?_) (fun q => ?_)
  · have H1 := H.1 q
    refine z_lload 4 dX12_chance_94 rfl (z_ldc2 dX12_chance_96 wk_X12_389 (z_iload_n 1 dX12_chance_99 rfl ?_))
    obtain ⟨w2, c3, H4⟩ := H1
    refine z_stat (As := [.long 10, .int x2]) (st := [.long l5]) (r1 := (some (.long w2))) (h1 := (g, I, P)) dX12_chance_100 kX12_power wm_X12_385 ⟨by decide, by decide⟩ rfl rfl (Nat.le_of_ble_eq_true rfl) (by decide) (by decide) c3 ?_
    refine z_iload 3 dX12_chance_103 rfl ?_
    obtain ⟨w5, c6, H7⟩ := H4
    refine z_stat (As := [.long l5, .long w2, .int x4]) (st := []) (r1 := (some (.long w5))) (h1 := (g, I, P)) dX12_chance_105 kX12_least wm_X12_290 ⟨by decide, by decide⟩ rfl rfl (Nat.le_of_ble_eq_true rfl) (by decide) (by decide) c6 ?_
    obtain ⟨rfl, rfl⟩ := H7
    exact z_lret dX12_chance_108 rfl (by decide) (by decide)
  · have H8 := H.2 q
    refine z_iload 5 dX12_chance_48 rfl ?_
    obtain ⟨w9, c10, H11⟩ := H8
    refine z_stat (As := [.int x7]) (st := []) (r1 := (some (.int w9))) (h1 := (g, I, P)) dX12_chance_50 kX12_bitsOf wm_X12_382 ⟨by decide, by decide⟩ rfl rfl (Nat.le_of_ble_eq_true rfl) (by decide) (by decide) c10 ?_
    refine z_iload_n 0 dX12_chance_53 rfl ?_
    refine z_icmp_lt (t := 88) dX12_chance_54 (by decide) (fun q => ?_) (fun q => ?_)
    · have H12 := H11.1 q
      refine z_iinc (y := x7 + 1) (lv' := [(7, .int (x7 + 1)), (1, .int x1), (2, .int x2), (3, .int x3), (4, .int x4), (5, .long l5)]) 5 dX12_chance_88 rfl rfl (by decide) rfl (z_goto (t := 40) dX12_chance_91 (by decide) ?_)
      exact z_less [1, 2, 3, 4, 5, 0] rfl H12
    · have H13 := H11.2 q
      refine z_lload 4 dX12_chance_57 rfl (z_iload_n 2 dX12_chance_59 rfl (z_i2l dX12_chance_60 (z_iload 5 dX12_chance_61 rfl ?_)))
      obtain ⟨w14, c15, H16⟩ := H13
      refine z_stat (As := [.int x7]) (st := [.long x3.toInt64, .long l5]) (r1 := (some (.int w14))) (h1 := (g, I, P)) dX12_chance_63 kX12_bitsOf wm_X12_382 ⟨by decide, by decide⟩ rfl rfl (Nat.le_of_ble_eq_true rfl) (by decide) (by decide) c15 ?_
      obtain ⟨w17, c18, H19⟩ := H16
      refine z_stat (As := [.long x3.toInt64, .int w14]) (st := [.long l5]) (r1 := (some (.long w17))) (h1 := (g, I, P)) dX12_chance_66 kX12_power wm_X12_385 ⟨by decide, by decide⟩ rfl rfl (Nat.le_of_ble_eq_true rfl) (by decide) (by decide) c18 ?_
      refine z_bipush (w := 10) dX12_chance_69 (by decide) (z_iload_n 2 dX12_chance_71 rfl (z_isub dX12_chance_72 (z_i2l dX12_chance_73 (z_iload_n 1 dX12_chance_74 rfl (z_iload 5 dX12_chance_75 rfl ?_)))))
      obtain ⟨w20, c21, H22⟩ := H19
      refine z_stat (As := [.int x7]) (st := [.int x2, .long ((10 - x3).toInt64), .long w17, .long l5]) (r1 := (some (.int w20))) (h1 := (g, I, P)) dX12_chance_77 kX12_bitsOf wm_X12_382 ⟨by decide, by decide⟩ rfl rfl (Nat.le_of_ble_eq_true rfl) (by decide) (by decide) c21 ?_
      refine z_isub dX12_chance_80 ?_
      obtain ⟨w23, c24, H25⟩ := H22
      refine z_stat (As := [.long ((10 - x3).toInt64), .int (x2 - w20)]) (st := [.long w17, .long l5]) (r1 := (some (.long w23))) (h1 := (g, I, P)) dX12_chance_81 kX12_power wm_X12_385 ⟨by decide, by decide⟩ rfl rfl (Nat.le_of_ble_eq_true rfl) (by decide) (by decide) c24 ?_
      refine z_lmul dX12_chance_84 (z_ladd dX12_chance_85 (z_lstore (lv' := [(5, .long (l5 + (w17 * w23))), (1, .int x1), (2, .int x2), (3, .int x3), (4, .int x4), (7, .int x7)]) dX12_chance_86 (by decide) rfl (z_iinc (y := x7 + 1) (lv' := [(7, .int (x7 + 1)), (5, .long (l5 + (w17 * w23))), (1, .int x1), (2, .int x2), (3, .int x3), (4, .int x4)]) 5 dX12_chance_88 rfl rfl (by decide) rfl (z_goto (t := 40) dX12_chance_91 (by decide) ?_))))
      exact z_less [2, 3, 4, 5, 1, 0] rfl H25
theorem dX12_waits_0 : decode cX12_waits 0 = .ok (.iload_n 1, 1) := by decide +kernel
theorem dX12_waits_1 : decode cX12_waits 1 = .ok (.iconst 1, 1) := by decide +kernel
theorem dX12_waits_2 : decode cX12_waits 2 = .ok (.bipush 12, 2) := by decide +kernel
theorem dX12_waits_4 : decode cX12_waits 4 = .ok (.invokestatic 120, 3) := by decide +kernel
theorem dX12_waits_7 : decode cX12_waits 7 = .ok (.ifCond .eq 28, 3) := by decide +kernel
theorem dX12_waits_10 : decode cX12_waits 10 = .ok (.iload_n 2, 1) := by decide +kernel
theorem dX12_waits_11 : decode cX12_waits 11 = .ok (.iconst 1, 1) := by decide +kernel
theorem dX12_waits_12 : decode cX12_waits 12 = .ok (.bipush 10, 2) := by decide +kernel
theorem dX12_waits_14 : decode cX12_waits 14 = .ok (.invokestatic 120, 3) := by decide +kernel
theorem dX12_waits_17 : decode cX12_waits 17 = .ok (.ifCond .eq 18, 3) := by decide +kernel
theorem dX12_waits_20 : decode cX12_waits 20 = .ok (.ldc2_w 389, 3) := by decide +kernel
theorem dX12_waits_23 : decode cX12_waits 23 = .ok (.iload_n 1, 1) := by decide +kernel
theorem dX12_waits_24 : decode cX12_waits 24 = .ok (.i2l, 1) := by decide +kernel
theorem dX12_waits_25 : decode cX12_waits 25 = .ok (.lmul, 1) := by decide +kernel
theorem dX12_waits_26 : decode cX12_waits 26 = .ok (.iload_n 2, 1) := by decide +kernel
theorem dX12_waits_27 : decode cX12_waits 27 = .ok (.i2l, 1) := by decide +kernel
theorem dX12_waits_28 : decode cX12_waits 28 = .ok (.iload_n 3, 1) := by decide +kernel
theorem dX12_waits_29 : decode cX12_waits 29 = .ok (.invokestatic 290, 3) := by decide +kernel
theorem dX12_waits_32 : decode cX12_waits 32 = .ok (.goto 6, 3) := by decide +kernel
theorem dX12_waits_35 : decode cX12_waits 35 = .ok (.ldc2_w 285, 3) := by decide +kernel
theorem dX12_waits_38 : decode cX12_waits 38 = .ok (.lreturn, 1) := by decide +kernel
set_option maxRecDepth 10000 in
theorem wX12_waits_0 {g : zG} {I : Nat → Nat → Int32} {P : Nat → Nat → Option Nat} {r : Option Value} {h' : zH} {a0 : Nat} {x1 : Int32} {x2 : Int32} {x3 : Int32} (H : ∃ (w1 : Int32), Cl mX12_isIn [.int x1, .int 1, .int 12] (g, I, P) (some (.int w1)) (g, I, P) ∧ ((w1 = 0) → r = some (.long (-1)) ∧ h' = (g, I, P)) ∧ ((¬ w1 = 0) → ∃ (w6 : Int32), Cl mX12_isIn [.int x2, .int 1, .int 10] (g, I, P) (some (.int w6)) (g, I, P) ∧ ((w6 = 0) → r = some (.long (-1)) ∧ h' = (g, I, P)) ∧ ((¬ w6 = 0) → ∃ (w11 : Int64), Cl mX12_least [.long (10 * x1.toInt64), .long x2.toInt64, .int x3] (g, I, P) (some (.long w11)) (g, I, P) ∧ r = some (.long w11) ∧ h' = (g, I, P)))) : Zt none mX12_waits 0 0 0 [(0, .ref a0), (1, .int x1), (2, .int x2), (3, .int x3)] [] (g, I, P) r h' := by
  refine z_iload_n 1 dX12_waits_0 rfl (z_iconst (w := 1) dX12_waits_1 (by decide) (z_bipush (w := 12) dX12_waits_2 (by decide) ?_))
  obtain ⟨w1, c2, H3⟩ := H
  refine z_stat (As := [.int x1, .int 1, .int 12]) (st := []) (r1 := (some (.int w1))) (h1 := (g, I, P)) dX12_waits_4 kX12_isIn wm_X12_120 ⟨by decide, by decide⟩ rfl rfl (Nat.le_of_ble_eq_true rfl) (by decide) (by decide) c2 ?_
  refine z_if_eq (t := 35) dX12_waits_7 (by decide) (fun q => ?_) (fun q => ?_)
  · have H4 := H3.1 q
    refine z_ldc2 dX12_waits_35 wk_X12_285 ?_
    obtain ⟨rfl, rfl⟩ := H4
    exact z_lret dX12_waits_38 rfl (by decide) (by decide)
  · have H5 := H3.2 q
    refine z_iload_n 2 dX12_waits_10 rfl (z_iconst (w := 1) dX12_waits_11 (by decide) (z_bipush (w := 10) dX12_waits_12 (by decide) ?_))
    obtain ⟨w6, c7, H8⟩ := H5
    refine z_stat (As := [.int x2, .int 1, .int 10]) (st := []) (r1 := (some (.int w6))) (h1 := (g, I, P)) dX12_waits_14 kX12_isIn wm_X12_120 ⟨by decide, by decide⟩ rfl rfl (Nat.le_of_ble_eq_true rfl) (by decide) (by decide) c7 ?_
    refine z_if_eq (t := 35) dX12_waits_17 (by decide) (fun q => ?_) (fun q => ?_)
    · have H9 := H8.1 q
      refine z_ldc2 dX12_waits_35 wk_X12_285 ?_
      obtain ⟨rfl, rfl⟩ := H9
      exact z_lret dX12_waits_38 rfl (by decide) (by decide)
    · have H10 := H8.2 q
      refine z_ldc2 dX12_waits_20 wk_X12_389 (z_iload_n 1 dX12_waits_23 rfl (z_i2l dX12_waits_24 (z_lmul dX12_waits_25 (z_iload_n 2 dX12_waits_26 rfl (z_i2l dX12_waits_27 (z_iload_n 3 dX12_waits_28 rfl ?_))))))
      obtain ⟨w11, c12, H13⟩ := H10
      refine z_stat (As := [.long (10 * x1.toInt64), .long x2.toInt64, .int x3]) (st := []) (r1 := (some (.long w11))) (h1 := (g, I, P)) dX12_waits_29 kX12_least wm_X12_290 ⟨by decide, by decide⟩ rfl rfl (Nat.le_of_ble_eq_true rfl) (by decide) (by decide) c12 ?_
      refine z_goto (t := 38) dX12_waits_32 (by decide) ?_
      obtain ⟨rfl, rfl⟩ := H13
      exact z_lret dX12_waits_38 rfl (by decide) (by decide)
theorem eX12_waits {g : zG} {I : Nat → Nat → Int32} {P : Nat → Nat → Option Nat} {r : Option Value} {h' : zH} {a0 : Nat} {x1 : Int32} {x2 : Int32} {x3 : Int32} (H : Zt none mX12_waits 0 0 0 [(0, .ref a0), (1, .int x1), (2, .int x2), (3, .int x3)] [] (g, I, P) r h') : Cl mX12_waits [.ref a0, .int x1, .int x2, .int x3] (g, I, P) r h' := Cl.of (by decide) (Nat.le_of_ble_eq_true rfl) H
theorem dX12_below_0 : decode cX12_below 0 = .ok (.aload_n 0, 1) := by decide +kernel
theorem dX12_below_1 : decode cX12_below 1 = .ok (.aload_n 0, 1) := by decide +kernel
theorem dX12_below_2 : decode cX12_below 2 = .ok (.getfield 391, 3) := by decide +kernel
theorem dX12_below_5 : decode cX12_below 5 = .ok (.ldc_w 394, 3) := by decide +kernel
theorem dX12_below_8 : decode cX12_below 8 = .ok (.imul, 1) := by decide +kernel
theorem dX12_below_9 : decode cX12_below 9 = .ok (.sipush 12345, 3) := by decide +kernel
theorem dX12_below_12 : decode cX12_below 12 = .ok (.iadd, 1) := by decide +kernel
theorem dX12_below_13 : decode cX12_below 13 = .ok (.putfield 391, 3) := by decide +kernel
theorem dX12_below_16 : decode cX12_below 16 = .ok (.aload_n 0, 1) := by decide +kernel
theorem dX12_below_17 : decode cX12_below 17 = .ok (.getfield 391, 3) := by decide +kernel
theorem dX12_below_20 : decode cX12_below 20 = .ok (.bipush 16, 2) := by decide +kernel
theorem dX12_below_22 : decode cX12_below 22 = .ok (.iushr, 1) := by decide +kernel
theorem dX12_below_23 : decode cX12_below 23 = .ok (.iload_n 1, 1) := by decide +kernel
theorem dX12_below_24 : decode cX12_below 24 = .ok (.irem, 1) := by decide +kernel
theorem dX12_below_25 : decode cX12_below 25 = .ok (.ireturn, 1) := by decide +kernel
set_option maxRecDepth 10000 in
theorem wX12_below_0 {g : zG} {I : Nat → Nat → Int32} {P : Nat → Nat → Option Nat} {r : Option Value} {h' : zH} {a0 : Nat} {x1 : Int32} (H : zk g a0 12 ∧ zk g a0 12 ∧ zk g a0 12 ∧ (¬ x1 = 0) ∧ r = some (.int ((zus ((zU I a0 40 (((I a0 40) * 1103515245) + 12345)) a0 40) 16) - (zus ((zU I a0 40 (((I a0 40) * 1103515245) + 12345)) a0 40) 16) / x1 * x1)) ∧ h' = (g, zU I a0 40 (((I a0 40) * 1103515245) + 12345), P)) : Zt none mX12_below 0 0 0 [(0, .ref a0), (1, .int x1)] [] (g, I, P) r h' := by
  refine z_aload_n 0 dX12_below_0 rfl rfl (z_aload_n 0 dX12_below_1 rfl rfl (z_getI dX12_below_2 wf_X12_391 (by decide) (by decide) rfl H.1 (z_ldcw dX12_below_5 wk_X12_394 (z_imul dX12_below_8 (z_sipush (w := 12345) dX12_below_9 (by decide) (z_iadd dX12_below_12 (z_putI (g := g) (I := I) (Q := P) dX12_below_13 wf_X12_391 (by decide) (by decide) rfl (Or.inl rfl) (zfit_int rfl) H.2.1 (z_aload_n 0 dX12_below_16 rfl rfl (z_getI dX12_below_17 wf_X12_391 (by decide) (by decide) rfl H.2.2.1 (z_bipush (w := 16) dX12_below_20 (by decide) (z_iushr dX12_below_22 (z_iload_n 1 dX12_below_23 rfl (z_irem dX12_below_24 H.2.2.2.1 ?_)))))))))))))
  obtain ⟨rfl, rfl⟩ := H.2.2.2.2
  exact z_iret dX12_below_25 rfl (by decide) (by decide)
theorem eX12_below {g : zG} {I : Nat → Nat → Int32} {P : Nat → Nat → Option Nat} {r : Option Value} {h' : zH} {a0 : Nat} {x1 : Int32} (H : Zt none mX12_below 0 0 0 [(0, .ref a0), (1, .int x1)] [] (g, I, P) r h') : Cl mX12_below [.ref a0, .int x1] (g, I, P) r h' := Cl.of (by decide) (Nat.le_of_ble_eq_true rfl) H
theorem dX12_draws_0 : decode cX12_draws 0 = .ok (.aload_n 0, 1) := by decide +kernel
theorem dX12_draws_1 : decode cX12_draws 1 = .ok (.bipush 8, 2) := by decide +kernel
theorem dX12_draws_3 : decode cX12_draws 3 = .ok (.invokevirtual 395, 3) := by decide +kernel
theorem dX12_draws_6 : decode cX12_draws 6 = .ok (.istore_n 1, 1) := by decide +kernel
theorem dX12_draws_7 : decode cX12_draws 7 = .ok (.aload_n 0, 1) := by decide +kernel
theorem dX12_draws_8 : decode cX12_draws 8 = .ok (.aload_n 0, 1) := by decide +kernel
theorem dX12_draws_9 : decode cX12_draws 9 = .ok (.getfield 187, 3) := by decide +kernel
theorem dX12_draws_12 : decode cX12_draws 12 = .ok (.invokevirtual 395, 3) := by decide +kernel
theorem dX12_draws_15 : decode cX12_draws 15 = .ok (.istore_n 2, 1) := by decide +kernel
theorem dX12_draws_16 : decode cX12_draws 16 = .ok (.iload_n 1, 1) := by decide +kernel
theorem dX12_draws_17 : decode cX12_draws 17 = .ok (.iconst 5, 1) := by decide +kernel
theorem dX12_draws_18 : decode cX12_draws 18 = .ok (.if_icmp .ge 19, 3) := by decide +kernel
theorem dX12_draws_21 : decode cX12_draws 21 = .ok (.aload_n 0, 1) := by decide +kernel
theorem dX12_draws_22 : decode cX12_draws 22 = .ok (.iconst 0, 1) := by decide +kernel
theorem dX12_draws_23 : decode cX12_draws 23 = .ok (.iload_n 2, 1) := by decide +kernel
theorem dX12_draws_24 : decode cX12_draws 24 = .ok (.aload_n 0, 1) := by decide +kernel
theorem dX12_draws_25 : decode cX12_draws 25 = .ok (.bipush 6, 2) := by decide +kernel
theorem dX12_draws_27 : decode cX12_draws 27 = .ok (.invokevirtual 395, 3) := by decide +kernel
theorem dX12_draws_30 : decode cX12_draws 30 = .ok (.invokevirtual 254, 3) := by decide +kernel
theorem dX12_draws_33 : decode cX12_draws 33 = .ok (.pop, 1) := by decide +kernel
theorem dX12_draws_34 : decode cX12_draws 34 = .ok (.goto 49, 3) := by decide +kernel
theorem dX12_draws_37 : decode cX12_draws 37 = .ok (.iload_n 1, 1) := by decide +kernel
theorem dX12_draws_38 : decode cX12_draws 38 = .ok (.iconst 5, 1) := by decide +kernel
theorem dX12_draws_39 : decode cX12_draws 39 = .ok (.if_icmp .ne 14, 3) := by decide +kernel
theorem dX12_draws_42 : decode cX12_draws 42 = .ok (.aload_n 0, 1) := by decide +kernel
theorem dX12_draws_43 : decode cX12_draws 43 = .ok (.iconst 2, 1) := by decide +kernel
theorem dX12_draws_44 : decode cX12_draws 44 = .ok (.iload_n 2, 1) := by decide +kernel
theorem dX12_draws_45 : decode cX12_draws 45 = .ok (.iconst (-1), 1) := by decide +kernel
theorem dX12_draws_46 : decode cX12_draws 46 = .ok (.invokevirtual 254, 3) := by decide +kernel
theorem dX12_draws_49 : decode cX12_draws 49 = .ok (.pop, 1) := by decide +kernel
theorem dX12_draws_50 : decode cX12_draws 50 = .ok (.goto 33, 3) := by decide +kernel
theorem dX12_draws_53 : decode cX12_draws 53 = .ok (.iload_n 1, 1) := by decide +kernel
theorem dX12_draws_54 : decode cX12_draws 54 = .ok (.bipush 6, 2) := by decide +kernel
theorem dX12_draws_56 : decode cX12_draws 56 = .ok (.if_icmp .ne 19, 3) := by decide +kernel
theorem dX12_draws_59 : decode cX12_draws 59 = .ok (.aload_n 0, 1) := by decide +kernel
theorem dX12_draws_60 : decode cX12_draws 60 = .ok (.iconst 1, 1) := by decide +kernel
theorem dX12_draws_61 : decode cX12_draws 61 = .ok (.iload_n 2, 1) := by decide +kernel
theorem dX12_draws_62 : decode cX12_draws 62 = .ok (.aload_n 0, 1) := by decide +kernel
theorem dX12_draws_63 : decode cX12_draws 63 = .ok (.bipush 6, 2) := by decide +kernel
theorem dX12_draws_65 : decode cX12_draws 65 = .ok (.invokevirtual 395, 3) := by decide +kernel
theorem dX12_draws_68 : decode cX12_draws 68 = .ok (.invokevirtual 254, 3) := by decide +kernel
theorem dX12_draws_71 : decode cX12_draws 71 = .ok (.pop, 1) := by decide +kernel
theorem dX12_draws_72 : decode cX12_draws 72 = .ok (.goto 11, 3) := by decide +kernel
theorem dX12_draws_75 : decode cX12_draws 75 = .ok (.aload_n 0, 1) := by decide +kernel
theorem dX12_draws_76 : decode cX12_draws 76 = .ok (.iconst 3, 1) := by decide +kernel
theorem dX12_draws_77 : decode cX12_draws 77 = .ok (.iload_n 2, 1) := by decide +kernel
theorem dX12_draws_78 : decode cX12_draws 78 = .ok (.iconst (-1), 1) := by decide +kernel
theorem dX12_draws_79 : decode cX12_draws 79 = .ok (.invokevirtual 254, 3) := by decide +kernel
theorem dX12_draws_82 : decode cX12_draws 82 = .ok (.pop, 1) := by decide +kernel
theorem dX12_draws_83 : decode cX12_draws 83 = .ok (.return_, 1) := by decide +kernel
set_option maxRecDepth 10000 in
theorem wX12_draws_0 {g : zG} {I : Nat → Nat → Int32} {P : Nat → Nat → Option Nat} {r : Option Value} {h' : zH} {a0 : Nat} (H : zk g a0 12 ∧ ∃ (w1 : Int32) (I2 : Nat → Nat → Int32), Cl mX12_below [.ref a0, .int 8] (g, I, P) (some (.int w1)) (g, I2, P) ∧ zk g a0 12 ∧ zk g a0 12 ∧ ∃ (w5 : Int32) (I6 : Nat → Nat → Int32), Cl mX12_below [.ref a0, .int (I2 a0 14)] (g, I2, P) (some (.int w5)) (g, I6, P) ∧ ((5 ≤ w1) → ((¬ w1 = 5) → ((¬ w1 = 6) → zk g a0 12 ∧ ∃ (w12 : Int32) (I13 : Nat → Nat → Int32), Cl mX12_does [.ref a0, .int 3, .int w5, .int (-1)] (g, I6, P) (some (.int w12)) (g, I13, P) ∧ r = none ∧ h' = (g, I13, P)) ∧ ((w1 = 6) → zk g a0 12 ∧ ∃ (w17 : Int32) (I18 : Nat → Nat → Int32), Cl mX12_below [.ref a0, .int 6] (g, I6, P) (some (.int w17)) (g, I18, P) ∧ zk g a0 12 ∧ ∃ (w21 : Int32) (I22 : Nat → Nat → Int32), Cl mX12_does [.ref a0, .int 1, .int w5, .int w17] (g, I18, P) (some (.int w21)) (g, I22, P) ∧ r = none ∧ h' = (g, I22, P))) ∧ ((w1 = 5) → zk g a0 12 ∧ ∃ (w26 : Int32) (I27 : Nat → Nat → Int32), Cl mX12_does [.ref a0, .int 2, .int w5, .int (-1)] (g, I6, P) (some (.int w26)) (g, I27, P) ∧ r = none ∧ h' = (g, I27, P))) ∧ ((¬ 5 ≤ w1) → zk g a0 12 ∧ ∃ (w31 : Int32) (I32 : Nat → Nat → Int32), Cl mX12_below [.ref a0, .int 6] (g, I6, P) (some (.int w31)) (g, I32, P) ∧ zk g a0 12 ∧ ∃ (w35 : Int32) (I36 : Nat → Nat → Int32), Cl mX12_does [.ref a0, .int 0, .int w5, .int w31] (g, I32, P) (some (.int w35)) (g, I36, P) ∧ r = none ∧ h' = (g, I36, P))) : Zt none mX12_draws 0 0 0 [(0, .ref a0)] [] (g, I, P) r h' := by
  refine z_aload_n 0 dX12_draws_0 rfl rfl (z_bipush (w := 8) dX12_draws_1 (by decide) ?_)
  obtain ⟨oc3, w1, I2, c3, H4⟩ := H
  refine z_virt (As := [.int 8]) (st := []) (r1 := (some (.int w1))) (h1 := (g, I2, P)) dX12_draws_3 kX12_below wm_X12_395 ⟨by decide, by decide⟩ rfl rfl (Nat.le_of_ble_eq_true rfl) (by decide) (by decide) oc3 c3 ?_
  refine z_istore_n (lv' := [(1, .int w1), (0, .ref a0)]) dX12_draws_6 (by decide) rfl (z_aload_n 1 dX12_draws_7 rfl rfl (z_aload_n 1 dX12_draws_8 rfl rfl (z_getI dX12_draws_9 wf_X12_187 (by decide) (by decide) rfl H4.1 ?_)))
  obtain ⟨oc7, w5, I6, c7, H8⟩ := H4.2
  refine z_virt (As := [.int (I2 a0 14)]) (st := []) (r1 := (some (.int w5))) (h1 := (g, I6, P)) dX12_draws_12 kX12_below wm_X12_395 ⟨by decide, by decide⟩ rfl rfl (Nat.le_of_ble_eq_true rfl) (by decide) (by decide) oc7 c7 ?_
  refine z_istore_n (lv' := [(2, .int w5), (1, .int w1), (0, .ref a0)]) dX12_draws_15 (by decide) rfl (z_iload_n 1 dX12_draws_16 rfl (z_iconst (w := 5) dX12_draws_17 (by decide) ?_))
  refine z_icmp_ge (t := 37) dX12_draws_18 (by decide) (fun q => ?_) (fun q => ?_)
  · have H9 := H8.1 q
    refine z_iload_n 1 dX12_draws_37 rfl (z_iconst (w := 5) dX12_draws_38 (by decide) ?_)
    refine z_icmp_ne (t := 53) dX12_draws_39 (by decide) (fun q => ?_) (fun q => ?_)
    · have H10 := H9.1 q
      refine z_iload_n 1 dX12_draws_53 rfl (z_bipush (w := 6) dX12_draws_54 (by decide) ?_)
      refine z_icmp_ne (t := 75) dX12_draws_56 (by decide) (fun q => ?_) (fun q => ?_)
      · have H11 := H10.1 q
        refine z_aload_n 2 dX12_draws_75 rfl rfl (z_iconst (w := 3) dX12_draws_76 (by decide) (z_iload_n 0 dX12_draws_77 rfl (z_iconst (w := (-1)) dX12_draws_78 (by decide) ?_)))
        obtain ⟨oc14, w12, I13, c14, H15⟩ := H11
        refine z_virt (As := [.int 3, .int w5, .int (-1)]) (st := []) (r1 := (some (.int w12))) (h1 := (g, I13, P)) dX12_draws_79 kX12_does wm_X12_254 ⟨by decide, by decide⟩ rfl rfl (Nat.le_of_ble_eq_true rfl) (by decide) (by decide) oc14 c14 ?_
        refine z_pop dX12_draws_82 rfl ?_
        obtain ⟨rfl, rfl⟩ := H15
        exact z_vret dX12_draws_83 rfl (by decide) (by decide)
      · have H16 := H10.2 q
        refine z_aload_n 2 dX12_draws_59 rfl rfl (z_iconst (w := 1) dX12_draws_60 (by decide) (z_iload_n 0 dX12_draws_61 rfl (z_aload_n 2 dX12_draws_62 rfl rfl (z_bipush (w := 6) dX12_draws_63 (by decide) ?_))))
        obtain ⟨oc19, w17, I18, c19, H20⟩ := H16
        refine z_virt (As := [.int 6]) (st := [.int w5, .int 1, .ref a0]) (r1 := (some (.int w17))) (h1 := (g, I18, P)) dX12_draws_65 kX12_below wm_X12_395 ⟨by decide, by decide⟩ rfl rfl (Nat.le_of_ble_eq_true rfl) (by decide) (by decide) oc19 c19 ?_
        obtain ⟨oc23, w21, I22, c23, H24⟩ := H20
        refine z_virt (As := [.int 1, .int w5, .int w17]) (st := []) (r1 := (some (.int w21))) (h1 := (g, I22, P)) dX12_draws_68 kX12_does wm_X12_254 ⟨by decide, by decide⟩ rfl rfl (Nat.le_of_ble_eq_true rfl) (by decide) (by decide) oc23 c23 ?_
        refine z_pop dX12_draws_71 rfl (z_goto (t := 83) dX12_draws_72 (by decide) ?_)
        obtain ⟨rfl, rfl⟩ := H24
        exact z_vret dX12_draws_83 rfl (by decide) (by decide)
    · have H25 := H9.2 q
      refine z_aload_n 2 dX12_draws_42 rfl rfl (z_iconst (w := 2) dX12_draws_43 (by decide) (z_iload_n 0 dX12_draws_44 rfl (z_iconst (w := (-1)) dX12_draws_45 (by decide) ?_)))
      obtain ⟨oc28, w26, I27, c28, H29⟩ := H25
      refine z_virt (As := [.int 2, .int w5, .int (-1)]) (st := []) (r1 := (some (.int w26))) (h1 := (g, I27, P)) dX12_draws_46 kX12_does wm_X12_254 ⟨by decide, by decide⟩ rfl rfl (Nat.le_of_ble_eq_true rfl) (by decide) (by decide) oc28 c28 ?_
      refine z_pop dX12_draws_49 rfl (z_goto (t := 83) dX12_draws_50 (by decide) ?_)
      obtain ⟨rfl, rfl⟩ := H29
      exact z_vret dX12_draws_83 rfl (by decide) (by decide)
  · have H30 := H8.2 q
    refine z_aload_n 2 dX12_draws_21 rfl rfl (z_iconst (w := 0) dX12_draws_22 (by decide) (z_iload_n 0 dX12_draws_23 rfl (z_aload_n 2 dX12_draws_24 rfl rfl (z_bipush (w := 6) dX12_draws_25 (by decide) ?_))))
    obtain ⟨oc33, w31, I32, c33, H34⟩ := H30
    refine z_virt (As := [.int 6]) (st := [.int w5, .int 0, .ref a0]) (r1 := (some (.int w31))) (h1 := (g, I32, P)) dX12_draws_27 kX12_below wm_X12_395 ⟨by decide, by decide⟩ rfl rfl (Nat.le_of_ble_eq_true rfl) (by decide) (by decide) oc33 c33 ?_
    obtain ⟨oc37, w35, I36, c37, H38⟩ := H34
    refine z_virt (As := [.int 0, .int w5, .int w31]) (st := []) (r1 := (some (.int w35))) (h1 := (g, I36, P)) dX12_draws_30 kX12_does wm_X12_254 ⟨by decide, by decide⟩ rfl rfl (Nat.le_of_ble_eq_true rfl) (by decide) (by decide) oc37 c37 ?_
    refine z_pop dX12_draws_33 rfl (z_goto (t := 83) dX12_draws_34 (by decide) ?_)
    obtain ⟨rfl, rfl⟩ := H38
    exact z_vret dX12_draws_83 rfl (by decide) (by decide)
theorem eX12_draws {g : zG} {I : Nat → Nat → Int32} {P : Nat → Nat → Option Nat} {r : Option Value} {h' : zH} {a0 : Nat} (H : Zt none mX12_draws 0 0 0 [(0, .ref a0)] [] (g, I, P) r h') : Cl mX12_draws [.ref a0] (g, I, P) r h' := Cl.of (by decide) (Nat.le_of_ble_eq_true rfl) H
theorem dX12_drawn_0 : decode cX12_drawn 0 = .ok (.aload_n 0, 1) := by decide +kernel
theorem dX12_drawn_1 : decode cX12_drawn 1 = .ok (.iload_n 1, 1) := by decide +kernel
theorem dX12_drawn_2 : decode cX12_drawn 2 = .ok (.invokevirtual 196, 3) := by decide +kernel
theorem dX12_drawn_5 : decode cX12_drawn 5 = .ok (.ifCond .eq 18, 3) := by decide +kernel
theorem dX12_drawn_8 : decode cX12_drawn 8 = .ok (.iload_n 3, 1) := by decide +kernel
theorem dX12_drawn_9 : decode cX12_drawn 9 = .ok (.iconst 0, 1) := by decide +kernel
theorem dX12_drawn_10 : decode cX12_drawn 10 = .ok (.bipush 60, 2) := by decide +kernel
theorem dX12_drawn_12 : decode cX12_drawn 12 = .ok (.invokestatic 120, 3) := by decide +kernel
theorem dX12_drawn_15 : decode cX12_drawn 15 = .ok (.ifCond .eq 8, 3) := by decide +kernel
theorem dX12_drawn_18 : decode cX12_drawn 18 = .ok (.iload 4, 2) := by decide +kernel
theorem dX12_drawn_20 : decode cX12_drawn 20 = .ok (.ifCond .ge 6, 3) := by decide +kernel
theorem dX12_drawn_23 : decode cX12_drawn 23 = .ok (.bipush (-2), 2) := by decide +kernel
theorem dX12_drawn_25 : decode cX12_drawn 25 = .ok (.ireturn, 1) := by decide +kernel
theorem dX12_drawn_26 : decode cX12_drawn 26 = .ok (.aload_n 0, 1) := by decide +kernel
theorem dX12_drawn_27 : decode cX12_drawn 27 = .ok (.iload_n 2, 1) := by decide +kernel
theorem dX12_drawn_28 : decode cX12_drawn 28 = .ok (.putfield 391, 3) := by decide +kernel
theorem dX12_drawn_31 : decode cX12_drawn 31 = .ok (.aload_n 0, 1) := by decide +kernel
theorem dX12_drawn_32 : decode cX12_drawn 32 = .ok (.invokevirtual 251, 3) := by decide +kernel
theorem dX12_drawn_35 : decode cX12_drawn 35 = .ok (.iconst 0, 1) := by decide +kernel
theorem dX12_drawn_36 : decode cX12_drawn 36 = .ok (.istore 5, 2) := by decide +kernel
theorem dX12_drawn_38 : decode cX12_drawn 38 = .ok (.iload 5, 2) := by decide +kernel
theorem dX12_drawn_40 : decode cX12_drawn 40 = .ok (.iload_n 3, 1) := by decide +kernel
theorem dX12_drawn_41 : decode cX12_drawn 41 = .ok (.if_icmp .ge 13, 3) := by decide +kernel
theorem dX12_drawn_44 : decode cX12_drawn 44 = .ok (.aload_n 0, 1) := by decide +kernel
theorem dX12_drawn_45 : decode cX12_drawn 45 = .ok (.invokevirtual 398, 3) := by decide +kernel
theorem dX12_drawn_48 : decode cX12_drawn 48 = .ok (.iinc 5 1, 3) := by decide +kernel
theorem dX12_drawn_51 : decode cX12_drawn 51 = .ok (.goto (-13), 3) := by decide +kernel
theorem dX12_drawn_54 : decode cX12_drawn 54 = .ok (.aload_n 0, 1) := by decide +kernel
theorem dX12_drawn_55 : decode cX12_drawn 55 = .ok (.iload 4, 2) := by decide +kernel
theorem dX12_drawn_57 : decode cX12_drawn 57 = .ok (.invokevirtual 263, 3) := by decide +kernel
theorem dX12_drawn_60 : decode cX12_drawn 60 = .ok (.ireturn, 1) := by decide +kernel
set_option maxRecDepth 10000 in
theorem wX12_drawn_0 {g : zG} {I : Nat → Nat → Int32} {P : Nat → Nat → Option Nat} {r : Option Value} {h' : zH} {a0 : Nat} {x1 : Int32} {x2 : Int32} {x3 : Int32} {x4 : Int32} (H : zk g a0 12 ∧ ∃ (w1 : Int32) (I2 : Nat → Nat → Int32), Cl mX12_isHill [.ref a0, .int x1] (g, I, P) (some (.int w1)) (g, I2, P) ∧ ((w1 = 0) → r = some (.int (-2)) ∧ h' = (g, I2, P)) ∧ ((¬ w1 = 0) → ∃ (w7 : Int32), Cl mX12_isIn [.int x3, .int 0, .int 60] (g, I2, P) (some (.int w7)) (g, I2, P) ∧ ((w7 = 0) → r = some (.int (-2)) ∧ h' = (g, I2, P)) ∧ ((¬ w7 = 0) → ((0 ≤ x4) → zk g a0 12 ∧ zk g a0 12 ∧ ∃ (I13 : Nat → Nat → Int32), Cl mX12_begins [.ref a0] (g, zU I2 a0 40 x2, P) none (g, I13, P) ∧ Zt none mX12_drawn 0 0 38 [(0, .ref a0), (3, .int x3), (4, .int x4), (5, .int 0)] [] (g, I13, P) r h') ∧ ((¬ 0 ≤ x4) → r = some (.int (-2)) ∧ h' = (g, I2, P))))) : Zt none mX12_drawn 0 0 0 [(0, .ref a0), (1, .int x1), (2, .int x2), (3, .int x3), (4, .int x4)] [] (g, I, P) r h' := by
  refine z_aload_n 0 dX12_drawn_0 rfl rfl (z_iload_n 1 dX12_drawn_1 rfl ?_)
  obtain ⟨oc3, w1, I2, c3, H4⟩ := H
  refine z_virt (As := [.int x1]) (st := []) (r1 := (some (.int w1))) (h1 := (g, I2, P)) dX12_drawn_2 kX12_isHill wm_X12_196 ⟨by decide, by decide⟩ rfl rfl (Nat.le_of_ble_eq_true rfl) (by decide) (by decide) oc3 c3 ?_
  refine z_if_eq (t := 23) dX12_drawn_5 (by decide) (fun q => ?_) (fun q => ?_)
  · have H5 := H4.1 q
    refine z_bipush (w := (-2)) dX12_drawn_23 (by decide) ?_
    obtain ⟨rfl, rfl⟩ := H5
    exact z_iret dX12_drawn_25 rfl (by decide) (by decide)
  · have H6 := H4.2 q
    refine z_iload_n 3 dX12_drawn_8 rfl (z_iconst (w := 0) dX12_drawn_9 (by decide) (z_bipush (w := 60) dX12_drawn_10 (by decide) ?_))
    obtain ⟨w7, c8, H9⟩ := H6
    refine z_stat (As := [.int x3, .int 0, .int 60]) (st := []) (r1 := (some (.int w7))) (h1 := (g, I2, P)) dX12_drawn_12 kX12_isIn wm_X12_120 ⟨by decide, by decide⟩ rfl rfl (Nat.le_of_ble_eq_true rfl) (by decide) (by decide) c8 ?_
    refine z_if_eq (t := 23) dX12_drawn_15 (by decide) (fun q => ?_) (fun q => ?_)
    · have H10 := H9.1 q
      refine z_bipush (w := (-2)) dX12_drawn_23 (by decide) ?_
      obtain ⟨rfl, rfl⟩ := H10
      exact z_iret dX12_drawn_25 rfl (by decide) (by decide)
    · have H11 := H9.2 q
      refine z_iload 4 dX12_drawn_18 rfl ?_
      refine z_if_ge (t := 26) dX12_drawn_20 (by decide) (fun q => ?_) (fun q => ?_)
      · have H12 := H11.1 q
        refine z_aload_n 0 dX12_drawn_26 rfl rfl (z_iload_n 2 dX12_drawn_27 rfl (z_putI (g := g) (I := I2) (Q := P) dX12_drawn_28 wf_X12_391 (by decide) (by decide) rfl (Or.inl rfl) (zfit_int rfl) H12.1 (z_aload_n 0 dX12_drawn_31 rfl rfl ?_)))
        obtain ⟨oc14, I13, c14, H15⟩ := H12.2
        refine z_virt (As := []) (st := []) (r1 := none) (h1 := (g, I13, P)) dX12_drawn_32 kX12_begins wm_X12_251 ⟨by decide, by decide⟩ rfl rfl (Nat.le_of_ble_eq_true rfl) (by decide) (by decide) oc14 c14 ?_
        refine z_iconst (w := 0) dX12_drawn_35 (by decide) (z_istore (lv' := [(5, .int 0), (0, .ref a0), (1, .int x1), (2, .int x2), (3, .int x3), (4, .int x4)]) dX12_drawn_36 (by decide) rfl ?_)
        exact z_less [1, 4, 5, 0] rfl H15
      · have H16 := H11.2 q
        refine z_bipush (w := (-2)) dX12_drawn_23 (by decide) ?_
        obtain ⟨rfl, rfl⟩ := H16
        exact z_iret dX12_drawn_25 rfl (by decide) (by decide)
theorem eX12_drawn {g : zG} {I : Nat → Nat → Int32} {P : Nat → Nat → Option Nat} {r : Option Value} {h' : zH} {a0 : Nat} {x1 : Int32} {x2 : Int32} {x3 : Int32} {x4 : Int32} (H : Zt none mX12_drawn 0 0 0 [(0, .ref a0), (1, .int x1), (2, .int x2), (3, .int x3), (4, .int x4)] [] (g, I, P) r h') : Cl mX12_drawn [.ref a0, .int x1, .int x2, .int x3, .int x4] (g, I, P) r h' := Cl.of (by decide) (Nat.le_of_ble_eq_true rfl) H
set_option maxRecDepth 10000 in
theorem wX12_drawn_38 {g : zG} {I : Nat → Nat → Int32} {P : Nat → Nat → Option Nat} {r : Option Value} {h' : zH} {a0 : Nat} {x3 : Int32} {x4 : Int32} {x5 : Int32} (H : ((x3 ≤ x5) → zk g a0 12 ∧ ∃ (w2 : Int32), Cl mX12_nowOf [.ref a0, .int x4] (g, I, P) (some (.int w2)) (g, I, P) ∧ r = some (.int w2) ∧ h' = (g, I, P)) ∧ ((¬ x3 ≤ x5) → zk g a0 12 ∧ ∃ (I6 : Nat → Nat → Int32), Cl mX12_draws [.ref a0] (g, I, P) none (g, I6, P) ∧ Zt none mX12_drawn 0 0 38 [(0, .ref a0), (3, .int x3), (4, .int x4), (5, .int (x5 + 1))] [] (g, I6, P) r h')) : Zt none mX12_drawn 0 0 38 [(0, .ref a0), (3, .int x3), (4, .int x4), (5, .int x5)] [] (g, I, P) r h' := by
  refine z_iload 3 dX12_drawn_38 rfl (z_iload_n 1 dX12_drawn_40 rfl ?_)
  refine z_icmp_ge (t := 54) dX12_drawn_41 (by decide) (fun q => ?_) (fun q => ?_)
  · have H1 := H.1 q
    refine z_aload_n 0 dX12_drawn_54 rfl rfl (z_iload 2 dX12_drawn_55 rfl ?_)
    obtain ⟨oc3, w2, c3, H4⟩ := H1
    refine z_virt (As := [.int x4]) (st := []) (r1 := (some (.int w2))) (h1 := (g, I, P)) dX12_drawn_57 kX12_nowOf wm_X12_263 ⟨by decide, by decide⟩ rfl rfl (Nat.le_of_ble_eq_true rfl) (by decide) (by decide) oc3 c3 ?_
    obtain ⟨rfl, rfl⟩ := H4
    exact z_iret dX12_drawn_60 rfl (by decide) (by decide)
  · have H5 := H.2 q
    refine z_aload_n 0 dX12_drawn_44 rfl rfl ?_
    obtain ⟨oc7, I6, c7, H8⟩ := H5
    refine z_virt (As := []) (st := []) (r1 := none) (h1 := (g, I6, P)) dX12_drawn_45 kX12_draws wm_X12_398 ⟨by decide, by decide⟩ rfl rfl (Nat.le_of_ble_eq_true rfl) (by decide) (by decide) oc7 c7 ?_
    refine z_iinc (y := x5 + 1) (lv' := [(5, .int (x5 + 1)), (0, .ref a0), (3, .int x3), (4, .int x4)]) 3 dX12_drawn_48 rfl rfl (by decide) rfl (z_goto (t := 38) dX12_drawn_51 (by decide) ?_)
    exact z_less [1, 2, 3, 0] rfl H8
theorem dX12_count_0 : decode cX12_count 0 = .ok (.iload_n 1, 1) := by decide +kernel
theorem dX12_count_1 : decode cX12_count 1 = .ok (.iconst 0, 1) := by decide +kernel
theorem dX12_count_2 : decode cX12_count 2 = .ok (.iconst 3, 1) := by decide +kernel
theorem dX12_count_3 : decode cX12_count 3 = .ok (.invokestatic 120, 3) := by decide +kernel
theorem dX12_count_6 : decode cX12_count 6 = .ok (.ifCond .eq 12, 3) := by decide +kernel
theorem dX12_count_9 : decode cX12_count 9 = .ok (.aload_n 0, 1) := by decide +kernel
theorem dX12_count_10 : decode cX12_count 10 = .ok (.getfield 7, 3) := by decide +kernel
theorem dX12_count_13 : decode cX12_count 13 = .ok (.iload_n 1, 1) := by decide +kernel
theorem dX12_count_14 : decode cX12_count 14 = .ok (.iaload, 1) := by decide +kernel
theorem dX12_count_15 : decode cX12_count 15 = .ok (.goto 5, 3) := by decide +kernel
theorem dX12_count_18 : decode cX12_count 18 = .ok (.bipush (-2), 2) := by decide +kernel
theorem dX12_count_20 : decode cX12_count 20 = .ok (.ireturn, 1) := by decide +kernel
set_option maxRecDepth 10000 in
theorem wX12_count_0 {g : zG} {I : Nat → Nat → Int32} {P : Nat → Nat → Option Nat} {r : Option Value} {h' : zH} {a0 : Nat} {x1 : Int32} (H : ∃ (w1 : Int32), Cl mX12_isIn [.int x1, .int 0, .int 3] (g, I, P) (some (.int w1)) (g, I, P) ∧ ((w1 = 0) → r = some (.int (-2)) ∧ h' = (g, I, P)) ∧ ((¬ w1 = 0) → zk g a0 12 ∧ ∃ b6, P a0 0 = some b6 ∧ zk g b6 13 ∧ vp_in x1 (g.2.2 b6) ∧ r = some (.int (I b6 x1.toNatClampNeg)) ∧ h' = (g, I, P))) : Zt none mX12_count 0 0 0 [(0, .ref a0), (1, .int x1)] [] (g, I, P) r h' := by
  refine z_iload_n 1 dX12_count_0 rfl (z_iconst (w := 0) dX12_count_1 (by decide) (z_iconst (w := 3) dX12_count_2 (by decide) ?_))
  obtain ⟨w1, c2, H3⟩ := H
  refine z_stat (As := [.int x1, .int 0, .int 3]) (st := []) (r1 := (some (.int w1))) (h1 := (g, I, P)) dX12_count_3 kX12_isIn wm_X12_120 ⟨by decide, by decide⟩ rfl rfl (Nat.le_of_ble_eq_true rfl) (by decide) (by decide) c2 ?_
  refine z_if_eq (t := 18) dX12_count_6 (by decide) (fun q => ?_) (fun q => ?_)
  · have H4 := H3.1 q
    refine z_bipush (w := (-2)) dX12_count_18 (by decide) ?_
    obtain ⟨rfl, rfl⟩ := H4
    exact z_iret dX12_count_20 rfl (by decide) (by decide)
  · have H5 := H3.2 q
    refine z_aload_n 0 dX12_count_9 rfl rfl ?_
    obtain ⟨oe8, b6, e8, H7⟩ := H5
    refine z_getP dX12_count_10 wf_X12_7 (by decide) (by decide) rfl oe8 (fun q => (by cases q.symm.trans e8)) (fun j q => ?_)
    cases q.symm.trans e8
    refine z_iload_n 1 dX12_count_13 rfl (z_iald dX12_count_14 H7.1 H7.2.1 (z_goto (t := 20) dX12_count_15 (by decide) ?_))
    obtain ⟨rfl, rfl⟩ := H7.2.2
    exact z_iret dX12_count_20 rfl (by decide) (by decide)
theorem eX12_count {g : zG} {I : Nat → Nat → Int32} {P : Nat → Nat → Option Nat} {r : Option Value} {h' : zH} {a0 : Nat} {x1 : Int32} (H : Zt none mX12_count 0 0 0 [(0, .ref a0), (1, .int x1)] [] (g, I, P) r h') : Cl mX12_count [.ref a0, .int x1] (g, I, P) r h' := Cl.of (by decide) (Nat.le_of_ble_eq_true rfl) H
theorem dX12_image_0 : decode cX12_image 0 = .ok (.iload_n 1, 1) := by decide +kernel
theorem dX12_image_1 : decode cX12_image 1 = .ok (.iconst 0, 1) := by decide +kernel
theorem dX12_image_2 : decode cX12_image 2 = .ok (.iconst 2, 1) := by decide +kernel
theorem dX12_image_3 : decode cX12_image 3 = .ok (.invokestatic 120, 3) := by decide +kernel
theorem dX12_image_6 : decode cX12_image 6 = .ok (.ifCond .ne 5, 3) := by decide +kernel
theorem dX12_image_9 : decode cX12_image 9 = .ok (.iconst 0, 1) := by decide +kernel
theorem dX12_image_10 : decode cX12_image 10 = .ok (.ireturn, 1) := by decide +kernel
theorem dX12_image_11 : decode cX12_image 11 = .ok (.aload_n 0, 1) := by decide +kernel
theorem dX12_image_12 : decode cX12_image 12 = .ok (.getfield 13, 3) := by decide +kernel
theorem dX12_image_15 : decode cX12_image 15 = .ok (.iload_n 1, 1) := by decide +kernel
theorem dX12_image_16 : decode cX12_image 16 = .ok (.iconst 1, 1) := by decide +kernel
theorem dX12_image_17 : decode cX12_image 17 = .ok (.bastore, 1) := by decide +kernel
theorem dX12_image_18 : decode cX12_image 18 = .ok (.iconst 0, 1) := by decide +kernel
theorem dX12_image_19 : decode cX12_image 19 = .ok (.istore_n 2, 1) := by decide +kernel
theorem dX12_image_20 : decode cX12_image 20 = .ok (.iload_n 2, 1) := by decide +kernel
theorem dX12_image_21 : decode cX12_image 21 = .ok (.sipush 1242, 3) := by decide +kernel
theorem dX12_image_24 : decode cX12_image 24 = .ok (.if_icmp .ge 29, 3) := by decide +kernel
theorem dX12_image_27 : decode cX12_image 27 = .ok (.aload_n 0, 1) := by decide +kernel
theorem dX12_image_28 : decode cX12_image 28 = .ok (.getfield 7, 3) := by decide +kernel
theorem dX12_image_31 : decode cX12_image 31 = .ok (.sipush 1242, 3) := by decide +kernel
theorem dX12_image_34 : decode cX12_image 34 = .ok (.iload_n 1, 1) := by decide +kernel
theorem dX12_image_35 : decode cX12_image 35 = .ok (.iconst 1, 1) := by decide +kernel
theorem dX12_image_36 : decode cX12_image 36 = .ok (.iadd, 1) := by decide +kernel
theorem dX12_image_37 : decode cX12_image 37 = .ok (.imul, 1) := by decide +kernel
theorem dX12_image_38 : decode cX12_image 38 = .ok (.iload_n 2, 1) := by decide +kernel
theorem dX12_image_39 : decode cX12_image 39 = .ok (.iadd, 1) := by decide +kernel
theorem dX12_image_40 : decode cX12_image 40 = .ok (.aload_n 0, 1) := by decide +kernel
theorem dX12_image_41 : decode cX12_image 41 = .ok (.getfield 7, 3) := by decide +kernel
theorem dX12_image_44 : decode cX12_image 44 = .ok (.iload_n 2, 1) := by decide +kernel
theorem dX12_image_45 : decode cX12_image 45 = .ok (.iaload, 1) := by decide +kernel
theorem dX12_image_46 : decode cX12_image 46 = .ok (.iastore, 1) := by decide +kernel
theorem dX12_image_47 : decode cX12_image 47 = .ok (.iinc 2 1, 3) := by decide +kernel
theorem dX12_image_50 : decode cX12_image 50 = .ok (.goto (-30), 3) := by decide +kernel
theorem dX12_image_53 : decode cX12_image 53 = .ok (.iconst 1, 1) := by decide +kernel
theorem dX12_image_54 : decode cX12_image 54 = .ok (.ireturn, 1) := by decide +kernel
set_option maxRecDepth 10000 in
theorem wX12_image_0 {g : zG} {I : Nat → Nat → Int32} {P : Nat → Nat → Option Nat} {r : Option Value} {h' : zH} {a0 : Nat} {x1 : Int32} (H : ∃ (w1 : Int32), Cl mX12_isIn [.int x1, .int 0, .int 2] (g, I, P) (some (.int w1)) (g, I, P) ∧ ((¬ w1 = 0) → zk g a0 12 ∧ ∃ b5, P a0 1 = some b5 ∧ zk g b5 14 ∧ vp_in x1 (g.2.2 b5) ∧ Zt none mX12_image 0 0 20 [(0, .ref a0), (1, .int x1), (2, .int 0)] [] (g, zU I b5 x1.toNatClampNeg 1, P) r h') ∧ ((w1 = 0) → r = some (.int 0) ∧ h' = (g, I, P))) : Zt none mX12_image 0 0 0 [(0, .ref a0), (1, .int x1)] [] (g, I, P) r h' := by
  refine z_iload_n 1 dX12_image_0 rfl (z_iconst (w := 0) dX12_image_1 (by decide) (z_iconst (w := 2) dX12_image_2 (by decide) ?_))
  obtain ⟨w1, c2, H3⟩ := H
  refine z_stat (As := [.int x1, .int 0, .int 2]) (st := []) (r1 := (some (.int w1))) (h1 := (g, I, P)) dX12_image_3 kX12_isIn wm_X12_120 ⟨by decide, by decide⟩ rfl rfl (Nat.le_of_ble_eq_true rfl) (by decide) (by decide) c2 ?_
  refine z_if_ne (t := 11) dX12_image_6 (by decide) (fun q => ?_) (fun q => ?_)
  · have H4 := H3.1 q
    refine z_aload_n 0 dX12_image_11 rfl rfl ?_
    obtain ⟨oe7, b5, e7, H6⟩ := H4
    refine z_getP dX12_image_12 wf_X12_13 (by decide) (by decide) rfl oe7 (fun q => (by cases q.symm.trans e7)) (fun j q => ?_)
    cases q.symm.trans e7
    refine z_iload_n 1 dX12_image_15 rfl (z_iconst (w := 1) dX12_image_16 (by decide) (z_zast (g := g) (I := I) (Q := P) dX12_image_17 H6.1 H6.2.1 (Or.inr rfl) (z_iconst (w := 0) dX12_image_18 (by decide) (z_istore_n (lv' := [(2, .int 0), (0, .ref a0), (1, .int x1)]) dX12_image_19 (by decide) rfl ?_))))
    exact z_less [1, 2, 0] rfl H6.2.2
  · have H8 := H3.2 q
    refine z_iconst (w := 0) dX12_image_9 (by decide) ?_
    obtain ⟨rfl, rfl⟩ := H8
    exact z_zret dX12_image_10 rfl (Or.inl rfl) (by decide) (by decide)
theorem eX12_image {g : zG} {I : Nat → Nat → Int32} {P : Nat → Nat → Option Nat} {r : Option Value} {h' : zH} {a0 : Nat} {x1 : Int32} (H : Zt none mX12_image 0 0 0 [(0, .ref a0), (1, .int x1)] [] (g, I, P) r h') : Cl mX12_image [.ref a0, .int x1] (g, I, P) r h' := Cl.of (by decide) (Nat.le_of_ble_eq_true rfl) H
set_option maxRecDepth 10000 in
theorem wX12_image_20 {g : zG} {I : Nat → Nat → Int32} {P : Nat → Nat → Option Nat} {r : Option Value} {h' : zH} {a0 : Nat} {x1 : Int32} {x2 : Int32} (H : ((1242 ≤ x2) → r = some (.int 1) ∧ h' = (g, I, P)) ∧ ((¬ 1242 ≤ x2) → zk g a0 12 ∧ ∃ b3, P a0 0 = some b3 ∧ zk g a0 12 ∧ ∃ b6, P a0 0 = some b6 ∧ zk g b6 13 ∧ vp_in x2 (g.2.2 b6) ∧ zk g b3 13 ∧ vp_in ((1242 * (x1 + 1)) + x2) (g.2.2 b3) ∧ Zt none mX12_image 0 0 20 [(0, .ref a0), (1, .int x1), (2, .int (x2 + 1))] [] (g, zU I b3 ((1242 * (x1 + 1)) + x2).toNatClampNeg (I b6 x2.toNatClampNeg), P) r h')) : Zt none mX12_image 0 0 20 [(0, .ref a0), (1, .int x1), (2, .int x2)] [] (g, I, P) r h' := by
  refine z_iload_n 2 dX12_image_20 rfl (z_sipush (w := 1242) dX12_image_21 (by decide) ?_)
  refine z_icmp_ge (t := 53) dX12_image_24 (by decide) (fun q => ?_) (fun q => ?_)
  · have H1 := H.1 q
    refine z_iconst (w := 1) dX12_image_53 (by decide) ?_
    obtain ⟨rfl, rfl⟩ := H1
    exact z_zret dX12_image_54 rfl (Or.inr rfl) (by decide) (by decide)
  · have H2 := H.2 q
    refine z_aload_n 0 dX12_image_27 rfl rfl ?_
    obtain ⟨oe5, b3, e5, H4⟩ := H2
    refine z_getP dX12_image_28 wf_X12_7 (by decide) (by decide) rfl oe5 (fun q => (by cases q.symm.trans e5)) (fun j q => ?_)
    cases q.symm.trans e5
    refine z_sipush (w := 1242) dX12_image_31 (by decide) (z_iload_n 1 dX12_image_34 rfl (z_iconst (w := 1) dX12_image_35 (by decide) (z_iadd dX12_image_36 (z_imul dX12_image_37 (z_iload_n 2 dX12_image_38 rfl (z_iadd dX12_image_39 (z_aload_n 0 dX12_image_40 rfl rfl ?_)))))))
    obtain ⟨oe8, b6, e8, H7⟩ := H4
    refine z_getP dX12_image_41 wf_X12_7 (by decide) (by decide) rfl oe8 (fun q => (by cases q.symm.trans e8)) (fun j q => ?_)
    cases q.symm.trans e8
    refine z_iload_n 2 dX12_image_44 rfl (z_iald dX12_image_45 H7.1 H7.2.1 (z_iast (g := g) (I := I) (Q := P) dX12_image_46 H7.2.2.1 H7.2.2.2.1 (z_iinc (y := x2 + 1) (lv' := [(2, .int (x2 + 1)), (0, .ref a0), (1, .int x1)]) 2 dX12_image_47 rfl rfl (by decide) rfl (z_goto (t := 20) dX12_image_50 (by decide) ?_))))
    exact z_less [1, 2, 0] rfl H7.2.2.2.2
theorem dX12_again_0 : decode cX12_again 0 = .ok (.iload_n 1, 1) := by decide +kernel
theorem dX12_again_1 : decode cX12_again 1 = .ok (.iconst 0, 1) := by decide +kernel
theorem dX12_again_2 : decode cX12_again 2 = .ok (.iconst 2, 1) := by decide +kernel
theorem dX12_again_3 : decode cX12_again 3 = .ok (.invokestatic 120, 3) := by decide +kernel
theorem dX12_again_6 : decode cX12_again 6 = .ok (.ifCond .eq 12, 3) := by decide +kernel
theorem dX12_again_9 : decode cX12_again 9 = .ok (.aload_n 0, 1) := by decide +kernel
theorem dX12_again_10 : decode cX12_again 10 = .ok (.getfield 13, 3) := by decide +kernel
theorem dX12_again_13 : decode cX12_again 13 = .ok (.iload_n 1, 1) := by decide +kernel
theorem dX12_again_14 : decode cX12_again 14 = .ok (.baload, 1) := by decide +kernel
theorem dX12_again_15 : decode cX12_again 15 = .ok (.ifCond .ne 5, 3) := by decide +kernel
theorem dX12_again_18 : decode cX12_again 18 = .ok (.iconst 0, 1) := by decide +kernel
theorem dX12_again_19 : decode cX12_again 19 = .ok (.ireturn, 1) := by decide +kernel
theorem dX12_again_20 : decode cX12_again 20 = .ok (.iconst 0, 1) := by decide +kernel
theorem dX12_again_21 : decode cX12_again 21 = .ok (.istore_n 2, 1) := by decide +kernel
theorem dX12_again_22 : decode cX12_again 22 = .ok (.iload_n 2, 1) := by decide +kernel
theorem dX12_again_23 : decode cX12_again 23 = .ok (.sipush 1242, 3) := by decide +kernel
theorem dX12_again_26 : decode cX12_again 26 = .ok (.if_icmp .ge 29, 3) := by decide +kernel
theorem dX12_again_29 : decode cX12_again 29 = .ok (.aload_n 0, 1) := by decide +kernel
theorem dX12_again_30 : decode cX12_again 30 = .ok (.getfield 7, 3) := by decide +kernel
theorem dX12_again_33 : decode cX12_again 33 = .ok (.iload_n 2, 1) := by decide +kernel
theorem dX12_again_34 : decode cX12_again 34 = .ok (.aload_n 0, 1) := by decide +kernel
theorem dX12_again_35 : decode cX12_again 35 = .ok (.getfield 7, 3) := by decide +kernel
theorem dX12_again_38 : decode cX12_again 38 = .ok (.sipush 1242, 3) := by decide +kernel
theorem dX12_again_41 : decode cX12_again 41 = .ok (.iload_n 1, 1) := by decide +kernel
theorem dX12_again_42 : decode cX12_again 42 = .ok (.iconst 1, 1) := by decide +kernel
theorem dX12_again_43 : decode cX12_again 43 = .ok (.iadd, 1) := by decide +kernel
theorem dX12_again_44 : decode cX12_again 44 = .ok (.imul, 1) := by decide +kernel
theorem dX12_again_45 : decode cX12_again 45 = .ok (.iload_n 2, 1) := by decide +kernel
theorem dX12_again_46 : decode cX12_again 46 = .ok (.iadd, 1) := by decide +kernel
theorem dX12_again_47 : decode cX12_again 47 = .ok (.iaload, 1) := by decide +kernel
theorem dX12_again_48 : decode cX12_again 48 = .ok (.iastore, 1) := by decide +kernel
theorem dX12_again_49 : decode cX12_again 49 = .ok (.iinc 2 1, 3) := by decide +kernel
theorem dX12_again_52 : decode cX12_again 52 = .ok (.goto (-30), 3) := by decide +kernel
theorem dX12_again_55 : decode cX12_again 55 = .ok (.iconst 1, 1) := by decide +kernel
theorem dX12_again_56 : decode cX12_again 56 = .ok (.ireturn, 1) := by decide +kernel
set_option maxRecDepth 10000 in
theorem wX12_again_0 {g : zG} {I : Nat → Nat → Int32} {P : Nat → Nat → Option Nat} {r : Option Value} {h' : zH} {a0 : Nat} {x1 : Int32} (H : ∃ (w1 : Int32), Cl mX12_isIn [.int x1, .int 0, .int 2] (g, I, P) (some (.int w1)) (g, I, P) ∧ ((w1 = 0) → r = some (.int 0) ∧ h' = (g, I, P)) ∧ ((¬ w1 = 0) → zk g a0 12 ∧ ∃ b6, P a0 1 = some b6 ∧ zk g b6 14 ∧ vp_in x1 (g.2.2 b6) ∧ ((¬ I b6 x1.toNatClampNeg = 0) → Zt none mX12_again 0 0 22 [(0, .ref a0), (1, .int x1), (2, .int 0)] [] (g, I, P) r h') ∧ ((I b6 x1.toNatClampNeg = 0) → r = some (.int 0) ∧ h' = (g, I, P)))) : Zt none mX12_again 0 0 0 [(0, .ref a0), (1, .int x1)] [] (g, I, P) r h' := by
  refine z_iload_n 1 dX12_again_0 rfl (z_iconst (w := 0) dX12_again_1 (by decide) (z_iconst (w := 2) dX12_again_2 (by decide) ?_))
  obtain ⟨w1, c2, H3⟩ := H
  refine z_stat (As := [.int x1, .int 0, .int 2]) (st := []) (r1 := (some (.int w1))) (h1 := (g, I, P)) dX12_again_3 kX12_isIn wm_X12_120 ⟨by decide, by decide⟩ rfl rfl (Nat.le_of_ble_eq_true rfl) (by decide) (by decide) c2 ?_
  refine z_if_eq (t := 18) dX12_again_6 (by decide) (fun q => ?_) (fun q => ?_)
  · have H4 := H3.1 q
    refine z_iconst (w := 0) dX12_again_18 (by decide) ?_
    obtain ⟨rfl, rfl⟩ := H4
    exact z_zret dX12_again_19 rfl (Or.inl rfl) (by decide) (by decide)
  · have H5 := H3.2 q
    refine z_aload_n 0 dX12_again_9 rfl rfl ?_
    obtain ⟨oe8, b6, e8, H7⟩ := H5
    refine z_getP dX12_again_10 wf_X12_13 (by decide) (by decide) rfl oe8 (fun q => (by cases q.symm.trans e8)) (fun j q => ?_)
    cases q.symm.trans e8
    refine z_iload_n 1 dX12_again_13 rfl (z_zald dX12_again_14 H7.1 H7.2.1 ?_)
    refine z_if_ne (t := 20) dX12_again_15 (by decide) (fun q => ?_) (fun q => ?_)
    · have H9 := H7.2.2.1 q
      refine z_iconst (w := 0) dX12_again_20 (by decide) (z_istore_n (lv' := [(2, .int 0), (0, .ref a0), (1, .int x1)]) dX12_again_21 (by decide) rfl ?_)
      exact z_less [1, 2, 0] rfl H9
    · have H10 := H7.2.2.2 q
      refine z_iconst (w := 0) dX12_again_18 (by decide) ?_
      obtain ⟨rfl, rfl⟩ := H10
      exact z_zret dX12_again_19 rfl (Or.inl rfl) (by decide) (by decide)
theorem eX12_again {g : zG} {I : Nat → Nat → Int32} {P : Nat → Nat → Option Nat} {r : Option Value} {h' : zH} {a0 : Nat} {x1 : Int32} (H : Zt none mX12_again 0 0 0 [(0, .ref a0), (1, .int x1)] [] (g, I, P) r h') : Cl mX12_again [.ref a0, .int x1] (g, I, P) r h' := Cl.of (by decide) (Nat.le_of_ble_eq_true rfl) H
set_option maxRecDepth 10000 in
theorem wX12_again_22 {g : zG} {I : Nat → Nat → Int32} {P : Nat → Nat → Option Nat} {r : Option Value} {h' : zH} {a0 : Nat} {x1 : Int32} {x2 : Int32} (H : ((1242 ≤ x2) → r = some (.int 1) ∧ h' = (g, I, P)) ∧ ((¬ 1242 ≤ x2) → zk g a0 12 ∧ ∃ b3, P a0 0 = some b3 ∧ zk g a0 12 ∧ ∃ b6, P a0 0 = some b6 ∧ zk g b6 13 ∧ vp_in ((1242 * (x1 + 1)) + x2) (g.2.2 b6) ∧ zk g b3 13 ∧ vp_in x2 (g.2.2 b3) ∧ Zt none mX12_again 0 0 22 [(0, .ref a0), (1, .int x1), (2, .int (x2 + 1))] [] (g, zU I b3 x2.toNatClampNeg (I b6 ((1242 * (x1 + 1)) + x2).toNatClampNeg), P) r h')) : Zt none mX12_again 0 0 22 [(0, .ref a0), (1, .int x1), (2, .int x2)] [] (g, I, P) r h' := by
  refine z_iload_n 2 dX12_again_22 rfl (z_sipush (w := 1242) dX12_again_23 (by decide) ?_)
  refine z_icmp_ge (t := 55) dX12_again_26 (by decide) (fun q => ?_) (fun q => ?_)
  · have H1 := H.1 q
    refine z_iconst (w := 1) dX12_again_55 (by decide) ?_
    obtain ⟨rfl, rfl⟩ := H1
    exact z_zret dX12_again_56 rfl (Or.inr rfl) (by decide) (by decide)
  · have H2 := H.2 q
    refine z_aload_n 0 dX12_again_29 rfl rfl ?_
    obtain ⟨oe5, b3, e5, H4⟩ := H2
    refine z_getP dX12_again_30 wf_X12_7 (by decide) (by decide) rfl oe5 (fun q => (by cases q.symm.trans e5)) (fun j q => ?_)
    cases q.symm.trans e5
    refine z_iload_n 2 dX12_again_33 rfl (z_aload_n 0 dX12_again_34 rfl rfl ?_)
    obtain ⟨oe8, b6, e8, H7⟩ := H4
    refine z_getP dX12_again_35 wf_X12_7 (by decide) (by decide) rfl oe8 (fun q => (by cases q.symm.trans e8)) (fun j q => ?_)
    cases q.symm.trans e8
    refine z_sipush (w := 1242) dX12_again_38 (by decide) (z_iload_n 1 dX12_again_41 rfl (z_iconst (w := 1) dX12_again_42 (by decide) (z_iadd dX12_again_43 (z_imul dX12_again_44 (z_iload_n 2 dX12_again_45 rfl (z_iadd dX12_again_46 (z_iald dX12_again_47 H7.1 H7.2.1 (z_iast (g := g) (I := I) (Q := P) dX12_again_48 H7.2.2.1 H7.2.2.2.1 (z_iinc (y := x2 + 1) (lv' := [(2, .int (x2 + 1)), (0, .ref a0), (1, .int x1)]) 2 dX12_again_49 rfl rfl (by decide) rfl (z_goto (t := 22) dX12_again_52 (by decide) ?_))))))))))
    exact z_less [1, 2, 0] rfl H7.2.2.2.2
