/-! ===== the reference's constructor; the heap when the law's loop begins ===== -/
def iRefR (q : Nat) (h : zH) : zH := zAf q 37 14 70 (zAf q 35 13 600 (zAf q 34 13 10240 (zAf q 33 13 169 (zAf q 30 13 12 (zAf q 29 13 12 (zAf q 28 13 143 (zAf q 24 13 4 (zAf q 23 13 4 (zAf q 22 13 4 (zAf q 21 13 4 (zAf q 20 14 48 (zAf q 19 13 48 (zAf q 18 13 48 (zAf q 11 13 12 (zAf q 10 13 121 (zAf q 1 14 3 (zAf q 0 13 4968 h)))))))))))))))))
def iRef (q : Nat) (h : zH) : zH := zPI h.1.1 6 (-1) (iRefR q h)
theorem zAf_P {h : zH} {q k c n j : Nat} (hj : j ≠ k) (hq : q < h.1.1) : (zAf q k c n h).2.2 q j = h.2.2 q j := by
  have : ¬ q = h.1.1 := by omega
  simp [zAf, zU, hj, zNew, this]
theorem Fr.refR (q : Nat) (h : zH) : Fr q h (iRefR q h) := (((((((((((((((((Fr.af q 0 13 4968 h).tr (Fr.af q 1 14 3 _)).tr (Fr.af q 10 13 121 _)).tr (Fr.af q 11 13 12 _)).tr (Fr.af q 18 13 48 _)).tr (Fr.af q 19 13 48 _)).tr (Fr.af q 20 14 48 _)).tr (Fr.af q 21 13 4 _)).tr (Fr.af q 22 13 4 _)).tr (Fr.af q 23 13 4 _)).tr (Fr.af q 24 13 4 _)).tr (Fr.af q 28 13 143 _)).tr (Fr.af q 29 13 12 _)).tr (Fr.af q 30 13 12 _)).tr (Fr.af q 33 13 169 _)).tr (Fr.af q 34 13 10240 _)).tr (Fr.af q 35 13 600 _)).tr (Fr.af q 37 14 70 _)
theorem i_ref {h : zH} {q : Nat} (H : zk h.1 q 12) : Cl mX12_init [.ref q] h none (iRef q h) := by
  obtain ⟨g, I, P⟩ := h
  have hP0 : (zAf q 0 13 4968 (g, I, P)).2.2 q 0 = some g.1 := by simp [zAf, zU]
  have ha0 : zk (zAf q 0 13 4968 (g, I, P)).1 g.1 13 := zk_top
  have hl0 : (zAf q 0 13 4968 (g, I, P)).1.2.2 g.1 = 4968 := by simp [zAf, zNew]
  refine eX12_init (wX12_init_0 ?_)
  intro a0 e; subst e
  have k0 : zk (zAf q 0 13 4968 (g, I, P)).1 q 12 := zk_new H
  refine ⟨k0, ?_⟩
  intro b0 e; obtain rfl : b0 = (zAf q 0 13 4968 (g, I, P)) := e
  have KK : iRef q (g, I, P) = zPI g.1 6 (-1) (zAf q 37 14 70 (zAf q 35 13 600 (zAf q 34 13 10240 (zAf q 33 13 169 (zAf q 30 13 12 (zAf q 29 13 12 (zAf q 28 13 143 (zAf q 24 13 4 (zAf q 23 13 4 (zAf q 22 13 4 (zAf q 21 13 4 (zAf q 20 14 48 (zAf q 19 13 48 (zAf q 18 13 48 (zAf q 11 13 12 (zAf q 10 13 121 (zAf q 1 14 3 (zAf q 0 13 4968 (g, I, P))))))))))))))))))) := rfl
  rw [KK]; clear KK
  have hq0 : q < (zAf q 0 13 4968 (g, I, P)).1.1 := k0.1
  generalize (zAf q 0 13 4968 (g, I, P)) = h0 at *
  intro a1 e; subst e
  have k1 : zk (zAf q 1 14 3 h0).1 q 12 := zk_new k0
  refine ⟨k1, ?_⟩
  intro b1 e; obtain rfl : b1 = (zAf q 1 14 3 h0) := e
  have p1 : (zAf q 1 14 3 h0).2.2 q 0 = some g.1 := (zAf_P (by decide) hq0).trans hP0
  have z1 : zk (zAf q 1 14 3 h0).1 g.1 13 := zk_new ha0
  have l1 : (zAf q 1 14 3 h0).1.2.2 g.1 = 4968 := ((Fr.af q 1 14 3 h0).2.1 g.1 ha0.1).2.trans hl0
  have hq1 : q < (zAf q 1 14 3 h0).1.1 := k1.1
  generalize (zAf q 1 14 3 h0) = h1 at *
  intro a2 e; subst e
  have k2 : zk (zAf q 10 13 121 h1).1 q 12 := zk_new k1
  refine ⟨k2, ?_⟩
  intro b2 e; obtain rfl : b2 = (zAf q 10 13 121 h1) := e
  have p2 : (zAf q 10 13 121 h1).2.2 q 0 = some g.1 := (zAf_P (by decide) hq1).trans p1
  have z2 : zk (zAf q 10 13 121 h1).1 g.1 13 := zk_new z1
  have l2 : (zAf q 10 13 121 h1).1.2.2 g.1 = 4968 := ((Fr.af q 10 13 121 h1).2.1 g.1 z1.1).2.trans l1
  have hq2 : q < (zAf q 10 13 121 h1).1.1 := k2.1
  generalize (zAf q 10 13 121 h1) = h2 at *
  intro a3 e; subst e
  have k3 : zk (zAf q 11 13 12 h2).1 q 12 := zk_new k2
  refine ⟨k3, ?_⟩
  intro b3 e; obtain rfl : b3 = (zAf q 11 13 12 h2) := e
  have p3 : (zAf q 11 13 12 h2).2.2 q 0 = some g.1 := (zAf_P (by decide) hq2).trans p2
  have z3 : zk (zAf q 11 13 12 h2).1 g.1 13 := zk_new z2
  have l3 : (zAf q 11 13 12 h2).1.2.2 g.1 = 4968 := ((Fr.af q 11 13 12 h2).2.1 g.1 z2.1).2.trans l2
  have hq3 : q < (zAf q 11 13 12 h2).1.1 := k3.1
  generalize (zAf q 11 13 12 h2) = h3 at *
  intro a4 e; subst e
  have k4 : zk (zAf q 18 13 48 h3).1 q 12 := zk_new k3
  refine ⟨k4, ?_⟩
  intro b4 e; obtain rfl : b4 = (zAf q 18 13 48 h3) := e
  have p4 : (zAf q 18 13 48 h3).2.2 q 0 = some g.1 := (zAf_P (by decide) hq3).trans p3
  have z4 : zk (zAf q 18 13 48 h3).1 g.1 13 := zk_new z3
  have l4 : (zAf q 18 13 48 h3).1.2.2 g.1 = 4968 := ((Fr.af q 18 13 48 h3).2.1 g.1 z3.1).2.trans l3
  have hq4 : q < (zAf q 18 13 48 h3).1.1 := k4.1
  generalize (zAf q 18 13 48 h3) = h4 at *
  intro a5 e; subst e
  have k5 : zk (zAf q 19 13 48 h4).1 q 12 := zk_new k4
  refine ⟨k5, ?_⟩
  intro b5 e; obtain rfl : b5 = (zAf q 19 13 48 h4) := e
  have p5 : (zAf q 19 13 48 h4).2.2 q 0 = some g.1 := (zAf_P (by decide) hq4).trans p4
  have z5 : zk (zAf q 19 13 48 h4).1 g.1 13 := zk_new z4
  have l5 : (zAf q 19 13 48 h4).1.2.2 g.1 = 4968 := ((Fr.af q 19 13 48 h4).2.1 g.1 z4.1).2.trans l4
  have hq5 : q < (zAf q 19 13 48 h4).1.1 := k5.1
  generalize (zAf q 19 13 48 h4) = h5 at *
  intro a6 e; subst e
  have k6 : zk (zAf q 20 14 48 h5).1 q 12 := zk_new k5
  refine ⟨k6, ?_⟩
  intro b6 e; obtain rfl : b6 = (zAf q 20 14 48 h5) := e
  have p6 : (zAf q 20 14 48 h5).2.2 q 0 = some g.1 := (zAf_P (by decide) hq5).trans p5
  have z6 : zk (zAf q 20 14 48 h5).1 g.1 13 := zk_new z5
  have l6 : (zAf q 20 14 48 h5).1.2.2 g.1 = 4968 := ((Fr.af q 20 14 48 h5).2.1 g.1 z5.1).2.trans l5
  have hq6 : q < (zAf q 20 14 48 h5).1.1 := k6.1
  generalize (zAf q 20 14 48 h5) = h6 at *
  intro a7 e; subst e
  have k7 : zk (zAf q 21 13 4 h6).1 q 12 := zk_new k6
  refine ⟨k7, ?_⟩
  intro b7 e; obtain rfl : b7 = (zAf q 21 13 4 h6) := e
  have p7 : (zAf q 21 13 4 h6).2.2 q 0 = some g.1 := (zAf_P (by decide) hq6).trans p6
  have z7 : zk (zAf q 21 13 4 h6).1 g.1 13 := zk_new z6
  have l7 : (zAf q 21 13 4 h6).1.2.2 g.1 = 4968 := ((Fr.af q 21 13 4 h6).2.1 g.1 z6.1).2.trans l6
  have hq7 : q < (zAf q 21 13 4 h6).1.1 := k7.1
  generalize (zAf q 21 13 4 h6) = h7 at *
  intro a8 e; subst e
  have k8 : zk (zAf q 22 13 4 h7).1 q 12 := zk_new k7
  refine ⟨k8, ?_⟩
  intro b8 e; obtain rfl : b8 = (zAf q 22 13 4 h7) := e
  have p8 : (zAf q 22 13 4 h7).2.2 q 0 = some g.1 := (zAf_P (by decide) hq7).trans p7
  have z8 : zk (zAf q 22 13 4 h7).1 g.1 13 := zk_new z7
  have l8 : (zAf q 22 13 4 h7).1.2.2 g.1 = 4968 := ((Fr.af q 22 13 4 h7).2.1 g.1 z7.1).2.trans l7
  have hq8 : q < (zAf q 22 13 4 h7).1.1 := k8.1
  generalize (zAf q 22 13 4 h7) = h8 at *
  intro a9 e; subst e
  have k9 : zk (zAf q 23 13 4 h8).1 q 12 := zk_new k8
  refine ⟨k9, ?_⟩
  intro b9 e; obtain rfl : b9 = (zAf q 23 13 4 h8) := e
  have p9 : (zAf q 23 13 4 h8).2.2 q 0 = some g.1 := (zAf_P (by decide) hq8).trans p8
  have z9 : zk (zAf q 23 13 4 h8).1 g.1 13 := zk_new z8
  have l9 : (zAf q 23 13 4 h8).1.2.2 g.1 = 4968 := ((Fr.af q 23 13 4 h8).2.1 g.1 z8.1).2.trans l8
  have hq9 : q < (zAf q 23 13 4 h8).1.1 := k9.1
  generalize (zAf q 23 13 4 h8) = h9 at *
  intro a10 e; subst e
  have k10 : zk (zAf q 24 13 4 h9).1 q 12 := zk_new k9
  refine ⟨k10, ?_⟩
  intro b10 e; obtain rfl : b10 = (zAf q 24 13 4 h9) := e
  have p10 : (zAf q 24 13 4 h9).2.2 q 0 = some g.1 := (zAf_P (by decide) hq9).trans p9
  have z10 : zk (zAf q 24 13 4 h9).1 g.1 13 := zk_new z9
  have l10 : (zAf q 24 13 4 h9).1.2.2 g.1 = 4968 := ((Fr.af q 24 13 4 h9).2.1 g.1 z9.1).2.trans l9
  have hq10 : q < (zAf q 24 13 4 h9).1.1 := k10.1
  generalize (zAf q 24 13 4 h9) = h10 at *
  intro a11 e; subst e
  have k11 : zk (zAf q 28 13 143 h10).1 q 12 := zk_new k10
  refine ⟨k11, ?_⟩
  intro b11 e; obtain rfl : b11 = (zAf q 28 13 143 h10) := e
  have p11 : (zAf q 28 13 143 h10).2.2 q 0 = some g.1 := (zAf_P (by decide) hq10).trans p10
  have z11 : zk (zAf q 28 13 143 h10).1 g.1 13 := zk_new z10
  have l11 : (zAf q 28 13 143 h10).1.2.2 g.1 = 4968 := ((Fr.af q 28 13 143 h10).2.1 g.1 z10.1).2.trans l10
  have hq11 : q < (zAf q 28 13 143 h10).1.1 := k11.1
  generalize (zAf q 28 13 143 h10) = h11 at *
  intro a12 e; subst e
  have k12 : zk (zAf q 29 13 12 h11).1 q 12 := zk_new k11
  refine ⟨k12, ?_⟩
  intro b12 e; obtain rfl : b12 = (zAf q 29 13 12 h11) := e
  have p12 : (zAf q 29 13 12 h11).2.2 q 0 = some g.1 := (zAf_P (by decide) hq11).trans p11
  have z12 : zk (zAf q 29 13 12 h11).1 g.1 13 := zk_new z11
  have l12 : (zAf q 29 13 12 h11).1.2.2 g.1 = 4968 := ((Fr.af q 29 13 12 h11).2.1 g.1 z11.1).2.trans l11
  have hq12 : q < (zAf q 29 13 12 h11).1.1 := k12.1
  generalize (zAf q 29 13 12 h11) = h12 at *
  intro a13 e; subst e
  have k13 : zk (zAf q 30 13 12 h12).1 q 12 := zk_new k12
  refine ⟨k13, ?_⟩
  intro b13 e; obtain rfl : b13 = (zAf q 30 13 12 h12) := e
  have p13 : (zAf q 30 13 12 h12).2.2 q 0 = some g.1 := (zAf_P (by decide) hq12).trans p12
  have z13 : zk (zAf q 30 13 12 h12).1 g.1 13 := zk_new z12
  have l13 : (zAf q 30 13 12 h12).1.2.2 g.1 = 4968 := ((Fr.af q 30 13 12 h12).2.1 g.1 z12.1).2.trans l12
  have hq13 : q < (zAf q 30 13 12 h12).1.1 := k13.1
  generalize (zAf q 30 13 12 h12) = h13 at *
  intro a14 e; subst e
  have k14 : zk (zAf q 33 13 169 h13).1 q 12 := zk_new k13
  refine ⟨k14, ?_⟩
  intro b14 e; obtain rfl : b14 = (zAf q 33 13 169 h13) := e
  have p14 : (zAf q 33 13 169 h13).2.2 q 0 = some g.1 := (zAf_P (by decide) hq13).trans p13
  have z14 : zk (zAf q 33 13 169 h13).1 g.1 13 := zk_new z13
  have l14 : (zAf q 33 13 169 h13).1.2.2 g.1 = 4968 := ((Fr.af q 33 13 169 h13).2.1 g.1 z13.1).2.trans l13
  have hq14 : q < (zAf q 33 13 169 h13).1.1 := k14.1
  generalize (zAf q 33 13 169 h13) = h14 at *
  intro a15 e; subst e
  have k15 : zk (zAf q 34 13 10240 h14).1 q 12 := zk_new k14
  refine ⟨k15, ?_⟩
  intro b15 e; obtain rfl : b15 = (zAf q 34 13 10240 h14) := e
  have p15 : (zAf q 34 13 10240 h14).2.2 q 0 = some g.1 := (zAf_P (by decide) hq14).trans p14
  have z15 : zk (zAf q 34 13 10240 h14).1 g.1 13 := zk_new z14
  have l15 : (zAf q 34 13 10240 h14).1.2.2 g.1 = 4968 := ((Fr.af q 34 13 10240 h14).2.1 g.1 z14.1).2.trans l14
  have hq15 : q < (zAf q 34 13 10240 h14).1.1 := k15.1
  generalize (zAf q 34 13 10240 h14) = h15 at *
  intro a16 e; subst e
  have k16 : zk (zAf q 35 13 600 h15).1 q 12 := zk_new k15
  refine ⟨k16, ?_⟩
  intro b16 e; obtain rfl : b16 = (zAf q 35 13 600 h15) := e
  have p16 : (zAf q 35 13 600 h15).2.2 q 0 = some g.1 := (zAf_P (by decide) hq15).trans p15
  have z16 : zk (zAf q 35 13 600 h15).1 g.1 13 := zk_new z15
  have l16 : (zAf q 35 13 600 h15).1.2.2 g.1 = 4968 := ((Fr.af q 35 13 600 h15).2.1 g.1 z15.1).2.trans l15
  have hq16 : q < (zAf q 35 13 600 h15).1.1 := k16.1
  generalize (zAf q 35 13 600 h15) = h16 at *
  intro a17 e; subst e
  have k17 : zk (zAf q 37 14 70 h16).1 q 12 := zk_new k16
  refine ⟨k17, ?_⟩
  intro b17 e; obtain rfl : b17 = (zAf q 37 14 70 h16) := e
  have p17 : (zAf q 37 14 70 h16).2.2 q 0 = some g.1 := (zAf_P (by decide) hq16).trans p16
  have z17 : zk (zAf q 37 14 70 h16).1 g.1 13 := zk_new z16
  have l17 : (zAf q 37 14 70 h16).1.2.2 g.1 = 4968 := ((Fr.af q 37 14 70 h16).2.1 g.1 z16.1).2.trans l16
  have hq17 : q < (zAf q 37 14 70 h16).1.1 := k17.1
  generalize (zAf q 37 14 70 h16) = h17 at *
  refine ⟨k17, g.1, p17, z17, ?_, rfl, rfl⟩
  rw [l17]; exact vp_in_nI (n := 6) (N := 4968) (by decide) (by decide)
/-- the heap when the law's loop begins -/
def zh1 : zH := iFR 0 (zNew zh0 11 0)
def zh2 : zH := iRef 95 (zNew zh1 12 0)
theorem zh1_size : zh1.1.1 = 95 := by decide +kernel
theorem zh2_size : zh2.1.1 = 114 := by decide +kernel
/-- the kinds and lengths of the cells that the constructors make; the references among them that never change -/
def tgT : List Nat := [11, 9, 13, 13, 16, 15, 17, 18, 3, 13, 13, 13, 13, 13, 0, 13, 13, 13, 4, 13, 13, 5, 13, 13, 3, 13, 13, 13, 13, 13, 0, 13, 13, 13, 4, 13, 13, 5, 13, 13, 19, 6, 3, 13, 13, 13, 13, 13, 0, 13, 13, 13, 4, 13, 13, 5, 13, 13, 8, 2, 3, 13, 13, 13, 13, 13, 13, 13, 13, 13, 13, 13, 13, 1, 3, 13, 13, 13, 13, 13, 13, 13, 13, 10, 13, 13, 13, 13, 7, 5, 13, 13, 13, 13, 13, 12, 13, 14, 13, 13, 13, 13, 14, 13, 13, 13, 13, 13, 13, 13, 13, 13, 13, 14]
def lnT : List Nat := [0, 0, 600, 4, 2, 2, 2, 2, 0, 10, 10, 10, 60, 6, 0, 40, 40, 40, 0, 6, 72, 0, 8, 8, 0, 10, 10, 10, 60, 6, 0, 40, 40, 40, 0, 6, 72, 0, 8, 8, 3, 0, 0, 10, 10, 10, 60, 6, 0, 40, 40, 40, 0, 6, 72, 0, 8, 8, 0, 0, 0, 10, 10, 10, 60, 6, 4, 4, 4, 4, 48, 48, 48, 0, 0, 10, 10, 10, 60, 6, 12, 130, 13, 0, 10, 10, 1024, 600, 0, 0, 8, 8, 10, 810, 810, 0, 4968, 3, 121, 12, 48, 48, 48, 4, 4, 4, 4, 143, 12, 12, 169, 10240, 600, 70]
def pT : List (Nat × Nat × Nat) := [(1, 0, 2), (1, 4, 3), (1, 5, 4), (1, 6, 5), (1, 7, 6), (1, 8, 7), (8, 4, 9), (8, 5, 10), (8, 6, 11), (8, 7, 12), (8, 8, 13), (4, 0, 8), (14, 1, 15), (14, 2, 16), (14, 3, 17), (5, 0, 14), (18, 1, 19), (18, 2, 20), (6, 0, 18), (21, 1, 22), (21, 2, 23), (7, 0, 21), (24, 4, 25), (24, 5, 26), (24, 6, 27), (24, 7, 28), (24, 8, 29), (4, 1, 24), (30, 1, 31), (30, 2, 32), (30, 3, 33), (5, 1, 30), (34, 1, 35), (34, 2, 36), (6, 1, 34), (37, 1, 38), (37, 2, 39), (7, 1, 37), (0, 0, 1), (0, 1, 40), (42, 4, 43), (42, 5, 44), (42, 6, 45), (42, 7, 46), (42, 8, 47), (41, 0, 42), (48, 1, 49), (48, 2, 50), (48, 3, 51), (41, 1, 48), (52, 1, 53), (52, 2, 54), (41, 2, 52), (55, 1, 56), (55, 2, 57), (41, 3, 55), (41, 6, 58), (0, 2, 41), (60, 4, 61), (60, 5, 62), (60, 6, 63), (60, 7, 64), (60, 8, 65), (59, 4, 66), (59, 5, 67), (59, 6, 68), (59, 7, 69), (59, 8, 70), (59, 9, 71), (59, 10, 72), (0, 3, 59), (74, 4, 75), (74, 5, 76), (74, 6, 77), (74, 7, 78), (74, 8, 79), (73, 2, 80), (73, 3, 81), (73, 4, 82), (0, 4, 73), (83, 0, 84), (83, 1, 85), (83, 2, 86), (83, 3, 87), (0, 5, 83), (89, 1, 90), (89, 2, 91), (88, 3, 92), (88, 4, 93), (88, 5, 94), (0, 6, 88), (95, 0, 96), (95, 1, 97), (95, 10, 98), (95, 11, 99), (95, 18, 100), (95, 19, 101), (95, 20, 102), (95, 21, 103), (95, 22, 104), (95, 23, 105), (95, 24, 106), (95, 28, 107), (95, 29, 108), (95, 30, 109), (95, 33, 110), (95, 34, 111), (95, 35, 112), (95, 37, 113)]
def pM : List (Nat × Nat × Nat) := [(59, 0, 60), (73, 0, 74), (88, 0, 89)]
theorem zh2_tag : ∀ i, i < 114 → zh2.1.2.1 i = tgT.getD i 0 := by decide +kernel
theorem zh2_len : ∀ i, i < 114 → zh2.1.2.2 i = lnT.getD i 0 := by decide +kernel
theorem zh2_P : ∀ q ∈ pT ++ pM, zh2.2.2 q.1 q.2.1 = some q.2.2 := by decide +kernel
theorem zh2_im : ∀ k, k < 3 → zh2.2.2 40 k = none := by decide +kernel
theorem zh2_I : zh2.2.1 1 1 = 0 ∧ zh2.2.1 1 2 = 0 ∧ zh2.2.1 1 3 = -1 ∧ (∀ k, k < 4 → zh2.2.1 3 k = 0) ∧ (∀ k, k < 6 → zh2.2.1 96 k = 0) ∧ zh2.2.1 96 6 = -1 ∧ (∀ k, k < 3 → zh2.2.1 97 k = 0) := by decide +kernel
