/-! ===== what the constructors make ===== -/
def zAf (a k c n : Nat) (h : zH) : zH := ((zNew h c n).1, (zNew h c n).2.1, zU (zNew h c n).2.2 a k (some h.1.1))
def zPI (a k : Nat) (x : Int32) (h : zH) : zH := (h.1, zU h.2.1 a k x, h.2.2)
def zPP (a k j : Nat) (h : zH) : zH := (h.1, h.2.1, zU h.2.2 a k (some j))
def zOb (a k c : Nat) (f : Nat → zH → zH) (h : zH) : zH := zPP a k h.1.1 (f h.1.1 (zNew h c 0))
def iHill (q : Nat) (h : zH) : zH := zAf q 8 13 6 (zAf q 7 13 60 (zAf q 6 13 10 (zAf q 5 13 10 (zAf q 4 13 10 (zPI q 0 2 h)))))
def iCent (q : Nat) (h : zH) : zH := zAf q 3 13 40 (zAf q 2 13 40 (zAf q 1 13 40 h))
def iLins (q : Nat) (h : zH) : zH := zAf q 2 13 72 (zAf q 1 13 6 h)
def iLog (q : Nat) (h : zH) : zH := zAf q 2 13 8 (zAf q 1 13 8 h)
def iRead (q : Nat) (h : zH) : zH := zOb q 6 8 (fun _ h => h) (zOb q 3 5 iLog (zOb q 2 4 iLins (zOb q 1 0 iCent (zOb q 0 3 iHill h))))
def iGrnd (q : Nat) (h : zH) : zH := zAf q 10 13 48 (zAf q 9 13 48 (zAf q 8 13 48 (zAf q 7 13 4 (zAf q 6 13 4 (zAf q 5 13 4 (zAf q 4 13 4 (zOb q 0 3 iHill h)))))))
def iEar (q : Nat) (h : zH) : zH := zAf q 4 13 13 (zAf q 3 13 130 (zAf q 2 13 12 (zOb q 0 3 iHill h)))
def iYard (q : Nat) (h : zH) : zH := zAf q 3 13 600 (zAf q 2 13 1024 (zAf q 1 13 10 (zAf q 0 13 10 h)))
def iRule (q : Nat) (h : zH) : zH := zAf q 5 13 810 (zAf q 4 13 810 (zAf q 3 13 10 (zOb q 0 5 iLog h)))
theorem zk_new {h : zH} {c n x k : Nat} (H : zk h.1 x k) : zk (zNew h c n).1 x k := by
  obtain ⟨h1, h2⟩ := H
  have : ¬ x = h.1.1 := by omega
  exact ⟨by show x < h.1.1 + 1; omega, by simp [zNew, this, h2]⟩
theorem zk_top {h : zH} {c n : Nat} : zk (zNew h c n).1 h.1.1 c := ⟨by show h.1.1 < h.1.1 + 1; omega, by simp [zNew]⟩
theorem zk_af {h : zH} {a j c n x k : Nat} (H : zk h.1 x k) : zk (zAf a j c n h).1 x k := zk_new H
theorem zk_hill {h : zH} {q x k : Nat} (H : zk h.1 x k) : zk (iHill q h).1 x k := zk_af (zk_af (zk_af (zk_af (zk_af H))))
theorem zk_cent {h : zH} {q x k : Nat} (H : zk h.1 x k) : zk (iCent q h).1 x k := zk_af (zk_af (zk_af H))
theorem zk_lins {h : zH} {q x k : Nat} (H : zk h.1 x k) : zk (iLins q h).1 x k := zk_af (zk_af H)
theorem zk_log {h : zH} {q x k : Nat} (H : zk h.1 x k) : zk (iLog q h).1 x k := zk_af (zk_af H)
theorem i_hill {h : zH} {q : Nat} (H : zk h.1 q 3) : Cl mX3_init [.ref q] h none (iHill q h) := by
  obtain ⟨g, I, P⟩ := h
  refine eX3_init (wX3_init_0 ?_)
  refine ⟨H, ?_⟩
  rintro _ rfl _ rfl
  refine ⟨zk_new H, ?_⟩
  rintro _ rfl _ rfl
  refine ⟨zk_new (zk_new H), ?_⟩
  rintro _ rfl _ rfl
  refine ⟨zk_new (zk_new (zk_new H)), ?_⟩
  rintro _ rfl _ rfl
  refine ⟨zk_new (zk_new (zk_new (zk_new H))), ?_⟩
  rintro _ rfl _ rfl
  refine ⟨zk_new (zk_new (zk_new (zk_new (zk_new H)))), ?_⟩
  rintro _ rfl
  exact ⟨rfl, rfl⟩
theorem i_cent {h : zH} {q : Nat} (H : zk h.1 q 0) : Cl mX0_init [.ref q] h none (iCent q h) := by
  obtain ⟨g, I, P⟩ := h
  refine eX0_init (wX0_init_0 ?_)
  rintro _ rfl
  refine ⟨zk_new H, ?_⟩
  rintro _ rfl _ rfl
  refine ⟨zk_new (zk_new H), ?_⟩
  rintro _ rfl _ rfl
  refine ⟨zk_new (zk_new (zk_new H)), ?_⟩
  rintro _ rfl
  exact ⟨rfl, rfl⟩
theorem i_lins {h : zH} {q : Nat} (H : zk h.1 q 4) : Cl mX4_init [.ref q] h none (iLins q h) := by
  obtain ⟨g, I, P⟩ := h
  refine eX4_init (wX4_init_0 ?_)
  rintro _ rfl
  refine ⟨zk_new H, ?_⟩
  rintro _ rfl _ rfl
  refine ⟨zk_new (zk_new H), ?_⟩
  rintro _ rfl
  exact ⟨rfl, rfl⟩
theorem i_log {h : zH} {q : Nat} (H : zk h.1 q 5) : Cl mX5_init [.ref q] h none (iLog q h) := by
  obtain ⟨g, I, P⟩ := h
  refine eX5_init (wX5_init_0 ?_)
  rintro _ rfl
  refine ⟨zk_new H, ?_⟩
  rintro _ rfl _ rfl
  refine ⟨zk_new (zk_new H), ?_⟩
  rintro _ rfl
  exact ⟨rfl, rfl⟩
theorem i_toks {h : zH} {q : Nat} : Cl mX8_init [.ref q] h none h := by
  obtain ⟨g, I, P⟩ := h
  exact eX8_init (wX8_init_0 ⟨rfl, rfl⟩)
theorem i_yard {h : zH} {q : Nat} (H : zk h.1 q 10) : Cl mX10_init [.ref q] h none (iYard q h) := by
  obtain ⟨g, I, P⟩ := h
  refine eX10_init (wX10_init_0 ?_)
  rintro _ rfl
  refine ⟨zk_new H, ?_⟩
  rintro _ rfl _ rfl
  refine ⟨zk_new (zk_new H), ?_⟩
  rintro _ rfl _ rfl
  refine ⟨zk_new (zk_new (zk_new H)), ?_⟩
  rintro _ rfl _ rfl
  refine ⟨zk_new (zk_new (zk_new (zk_new H))), ?_⟩
  rintro _ rfl
  exact ⟨rfl, rfl⟩
theorem i_read {h : zH} {q : Nat} (H : zk h.1 q 6) : Cl mX6_init [.ref q] h none (iRead q h) := by
  obtain ⟨g, I, P⟩ := h
  refine eX6_init (wX6_init_0 ?_)
  intro a1 e; subst e
  have k1 : zk (zOb q 0 3 iHill (g, I, P)).1 q 6 := zk_hill (zk_new H)
  refine ⟨_, i_hill zk_top, k1, ?_⟩
  intro b1 e; obtain rfl : b1 = (zOb q 0 3 iHill (g, I, P)) := e
  intro a2 e; subst e
  have k2 : zk (zOb q 1 0 iCent (zOb q 0 3 iHill (g, I, P))).1 q 6 := zk_cent (zk_new k1)
  refine ⟨_, i_cent zk_top, k2, ?_⟩
  intro b2 e; obtain rfl : b2 = (zOb q 1 0 iCent (zOb q 0 3 iHill (g, I, P))) := e
  intro a3 e; subst e
  have k3 : zk (zOb q 2 4 iLins (zOb q 1 0 iCent (zOb q 0 3 iHill (g, I, P)))).1 q 6 := zk_lins (zk_new k2)
  refine ⟨_, i_lins zk_top, k3, ?_⟩
  intro b3 e; obtain rfl : b3 = (zOb q 2 4 iLins (zOb q 1 0 iCent (zOb q 0 3 iHill (g, I, P)))) := e
  intro a4 e; subst e
  have k4 : zk (zOb q 3 5 iLog (zOb q 2 4 iLins (zOb q 1 0 iCent (zOb q 0 3 iHill (g, I, P))))).1 q 6 := zk_log (zk_new k3)
  refine ⟨_, i_log zk_top, k4, ?_⟩
  intro b4 e; obtain rfl : b4 = (zOb q 3 5 iLog (zOb q 2 4 iLins (zOb q 1 0 iCent (zOb q 0 3 iHill (g, I, P))))) := e
  intro a5 e; subst e
  have k5 : zk (zOb q 6 8 (fun _ h => h) (zOb q 3 5 iLog (zOb q 2 4 iLins (zOb q 1 0 iCent (zOb q 0 3 iHill (g, I, P)))))).1 q 6 := zk_new k4
  refine ⟨i_toks, k5, ?_⟩
  intro b5 e; obtain rfl : b5 = (zOb q 6 8 (fun _ h => h) (zOb q 3 5 iLog (zOb q 2 4 iLins (zOb q 1 0 iCent (zOb q 0 3 iHill (g, I, P)))))) := e
  exact ⟨rfl, rfl⟩
theorem i_grnd {h : zH} {q : Nat} (H : zk h.1 q 2) : Cl mX2_init [.ref q] h none (iGrnd q h) := by
  obtain ⟨g, I, P⟩ := h
  refine eX2_init (wX2_init_0 ?_)
  intro a1 e; subst e
  have k1 : zk (zOb q 0 3 iHill (g, I, P)).1 q 2 := zk_hill (zk_new H)
  refine ⟨_, i_hill zk_top, k1, ?_⟩
  intro b1 e; obtain rfl : b1 = (zOb q 0 3 iHill (g, I, P)) := e
  intro a2 e; subst e
  have k2 : zk (zAf q 4 13 4 (zOb q 0 3 iHill (g, I, P))).1 q 2 := zk_new k1
  refine ⟨k2, ?_⟩
  intro b2 e; obtain rfl : b2 = (zAf q 4 13 4 (zOb q 0 3 iHill (g, I, P))) := e
  intro a3 e; subst e
  have k3 : zk (zAf q 5 13 4 (zAf q 4 13 4 (zOb q 0 3 iHill (g, I, P)))).1 q 2 := zk_new k2
  refine ⟨k3, ?_⟩
  intro b3 e; obtain rfl : b3 = (zAf q 5 13 4 (zAf q 4 13 4 (zOb q 0 3 iHill (g, I, P)))) := e
  intro a4 e; subst e
  have k4 : zk (zAf q 6 13 4 (zAf q 5 13 4 (zAf q 4 13 4 (zOb q 0 3 iHill (g, I, P))))).1 q 2 := zk_new k3
  refine ⟨k4, ?_⟩
  intro b4 e; obtain rfl : b4 = (zAf q 6 13 4 (zAf q 5 13 4 (zAf q 4 13 4 (zOb q 0 3 iHill (g, I, P))))) := e
  intro a5 e; subst e
  have k5 : zk (zAf q 7 13 4 (zAf q 6 13 4 (zAf q 5 13 4 (zAf q 4 13 4 (zOb q 0 3 iHill (g, I, P)))))).1 q 2 := zk_new k4
  refine ⟨k5, ?_⟩
  intro b5 e; obtain rfl : b5 = (zAf q 7 13 4 (zAf q 6 13 4 (zAf q 5 13 4 (zAf q 4 13 4 (zOb q 0 3 iHill (g, I, P)))))) := e
  intro a6 e; subst e
  have k6 : zk (zAf q 8 13 48 (zAf q 7 13 4 (zAf q 6 13 4 (zAf q 5 13 4 (zAf q 4 13 4 (zOb q 0 3 iHill (g, I, P))))))).1 q 2 := zk_new k5
  refine ⟨k6, ?_⟩
  intro b6 e; obtain rfl : b6 = (zAf q 8 13 48 (zAf q 7 13 4 (zAf q 6 13 4 (zAf q 5 13 4 (zAf q 4 13 4 (zOb q 0 3 iHill (g, I, P))))))) := e
  intro a7 e; subst e
  have k7 : zk (zAf q 9 13 48 (zAf q 8 13 48 (zAf q 7 13 4 (zAf q 6 13 4 (zAf q 5 13 4 (zAf q 4 13 4 (zOb q 0 3 iHill (g, I, P)))))))).1 q 2 := zk_new k6
  refine ⟨k7, ?_⟩
  intro b7 e; obtain rfl : b7 = (zAf q 9 13 48 (zAf q 8 13 48 (zAf q 7 13 4 (zAf q 6 13 4 (zAf q 5 13 4 (zAf q 4 13 4 (zOb q 0 3 iHill (g, I, P)))))))) := e
  intro a8 e; subst e
  have k8 : zk (zAf q 10 13 48 (zAf q 9 13 48 (zAf q 8 13 48 (zAf q 7 13 4 (zAf q 6 13 4 (zAf q 5 13 4 (zAf q 4 13 4 (zOb q 0 3 iHill (g, I, P))))))))).1 q 2 := zk_new k7
  refine ⟨k8, ?_⟩
  intro b8 e; obtain rfl : b8 = (zAf q 10 13 48 (zAf q 9 13 48 (zAf q 8 13 48 (zAf q 7 13 4 (zAf q 6 13 4 (zAf q 5 13 4 (zAf q 4 13 4 (zOb q 0 3 iHill (g, I, P))))))))) := e
  exact ⟨rfl, rfl⟩
theorem i_ear {h : zH} {q : Nat} (H : zk h.1 q 1) : Cl mX1_init [.ref q] h none (iEar q h) := by
  obtain ⟨g, I, P⟩ := h
  refine eX1_init (wX1_init_0 ?_)
  intro a1 e; subst e
  have k1 : zk (zOb q 0 3 iHill (g, I, P)).1 q 1 := zk_hill (zk_new H)
  refine ⟨_, i_hill zk_top, k1, ?_⟩
  intro b1 e; obtain rfl : b1 = (zOb q 0 3 iHill (g, I, P)) := e
  intro a2 e; subst e
  have k2 : zk (zAf q 2 13 12 (zOb q 0 3 iHill (g, I, P))).1 q 1 := zk_new k1
  refine ⟨k2, ?_⟩
  intro b2 e; obtain rfl : b2 = (zAf q 2 13 12 (zOb q 0 3 iHill (g, I, P))) := e
  intro a3 e; subst e
  have k3 : zk (zAf q 3 13 130 (zAf q 2 13 12 (zOb q 0 3 iHill (g, I, P)))).1 q 1 := zk_new k2
  refine ⟨k3, ?_⟩
  intro b3 e; obtain rfl : b3 = (zAf q 3 13 130 (zAf q 2 13 12 (zOb q 0 3 iHill (g, I, P)))) := e
  intro a4 e; subst e
  have k4 : zk (zAf q 4 13 13 (zAf q 3 13 130 (zAf q 2 13 12 (zOb q 0 3 iHill (g, I, P))))).1 q 1 := zk_new k3
  refine ⟨k4, ?_⟩
  intro b4 e; obtain rfl : b4 = (zAf q 4 13 13 (zAf q 3 13 130 (zAf q 2 13 12 (zOb q 0 3 iHill (g, I, P))))) := e
  exact ⟨rfl, rfl⟩
theorem i_rule {h : zH} {q : Nat} (H : zk h.1 q 7) : Cl mX7_init [.ref q] h none (iRule q h) := by
  obtain ⟨g, I, P⟩ := h
  refine eX7_init (wX7_init_0 ?_)
  intro a1 e; subst e
  have k1 : zk (zOb q 0 5 iLog (g, I, P)).1 q 7 := zk_log (zk_new H)
  refine ⟨_, i_log zk_top, k1, ?_⟩
  intro b1 e; obtain rfl : b1 = (zOb q 0 5 iLog (g, I, P)) := e
  intro a2 e; subst e
  have k2 : zk (zAf q 3 13 10 (zOb q 0 5 iLog (g, I, P))).1 q 7 := zk_new k1
  refine ⟨k2, ?_⟩
  intro b2 e; obtain rfl : b2 = (zAf q 3 13 10 (zOb q 0 5 iLog (g, I, P))) := e
  intro a3 e; subst e
  have k3 : zk (zAf q 4 13 810 (zAf q 3 13 10 (zOb q 0 5 iLog (g, I, P)))).1 q 7 := zk_new k2
  refine ⟨k3, ?_⟩
  intro b3 e; obtain rfl : b3 = (zAf q 4 13 810 (zAf q 3 13 10 (zOb q 0 5 iLog (g, I, P)))) := e
  intro a4 e; subst e
  have k4 : zk (zAf q 5 13 810 (zAf q 4 13 810 (zAf q 3 13 10 (zOb q 0 5 iLog (g, I, P))))).1 q 7 := zk_new k3
  refine ⟨k4, ?_⟩
  intro b4 e; obtain rfl : b4 = (zAf q 5 13 810 (zAf q 4 13 810 (zAf q 3 13 10 (zOb q 0 5 iLog (g, I, P))))) := e
  exact ⟨rfl, rfl⟩
theorem zk_ob {h : zH} {a j c x k : Nat} {f : Nat → zH → zH} (hf : ∀ (q : Nat) (h : zH) (x k : Nat), zk h.1 x k → zk (f q h).1 x k) (H : zk h.1 x k) : zk (zOb a j c f h).1 x k := hf _ _ _ _ (zk_new H)
theorem zk_hillf : ∀ (q : Nat) (h : zH) (x k : Nat), zk h.1 x k → zk (iHill q h).1 x k := fun _ _ _ _ H => zk_hill H
theorem zk_centf : ∀ (q : Nat) (h : zH) (x k : Nat), zk h.1 x k → zk (iCent q h).1 x k := fun _ _ _ _ H => zk_cent H
theorem zk_linsf : ∀ (q : Nat) (h : zH) (x k : Nat), zk h.1 x k → zk (iLins q h).1 x k := fun _ _ _ _ H => zk_lins H
theorem zk_logf : ∀ (q : Nat) (h : zH) (x k : Nat), zk h.1 x k → zk (iLog q h).1 x k := fun _ _ _ _ H => zk_log H
theorem zk_read {h : zH} {q x k : Nat} (H : zk h.1 x k) : zk (iRead q h).1 x k := zk_ob (fun _ _ _ _ H => H) (zk_ob zk_logf (zk_ob zk_linsf (zk_ob zk_centf (zk_ob zk_hillf H))))
theorem zk_grnd {h : zH} {q x k : Nat} (H : zk h.1 x k) : zk (iGrnd q h).1 x k := zk_af (zk_af (zk_af (zk_af (zk_af (zk_af (zk_af (zk_ob zk_hillf H)))))))
theorem zk_ear {h : zH} {q x k : Nat} (H : zk h.1 x k) : zk (iEar q h).1 x k := zk_af (zk_af (zk_af (zk_ob zk_hillf H)))
theorem zk_yard {h : zH} {q x k : Nat} (H : zk h.1 x k) : zk (iYard q h).1 x k := zk_af (zk_af (zk_af (zk_af H)))
theorem zk_rule {h : zH} {q x k : Nat} (H : zk h.1 x k) : zk (iRule q h).1 x k := zk_af (zk_af (zk_af (zk_ob zk_logf H)))
/-- item i of the row b of references: a new object -/
def zIt (b i c : Nat) (f : Nat → zH → zH) (h : zH) : zH := zPP b i h.1.1 (f h.1.1 (zNew h c 0))
/-- a round of Told's constructor: the rows lie at t, t + 1, t + 2, t + 3 -/
def iHalf (t i : Nat) (h : zH) : zH := zIt (t + 3) i 5 iLog (zIt (t + 2) i 4 iLins (zIt (t + 1) i 0 iCent (zIt t i 3 iHill h)))
def iRows (q : Nat) (h : zH) : zH := zAf q 8 18 2 (zAf q 7 17 2 (zAf q 6 15 2 (zAf q 5 16 2 (zAf q 4 13 4 (zPI q 3 (-1) (zAf q 0 13 600 h))))))
def iTold (q : Nat) (h : zH) : zH := iHalf (h.1.1 + 2) 1 (iHalf (h.1.1 + 2) 0 (iRows q h))
theorem zk_it {h : zH} {b i c x k : Nat} {f : Nat → zH → zH} (hf : ∀ (q : Nat) (h : zH) (x k : Nat), zk h.1 x k → zk (f q h).1 x k) (H : zk h.1 x k) : zk (zIt b i c f h).1 x k := hf _ _ _ _ (zk_new H)
theorem zk_half {h : zH} {t i x k : Nat} (H : zk h.1 x k) : zk (iHalf t i h).1 x k := zk_it zk_logf (zk_it zk_linsf (zk_it zk_centf (zk_it zk_hillf H)))
theorem zk_rows {h : zH} {q x k : Nat} (H : zk h.1 x k) : zk (iRows q h).1 x k := zk_af (zk_af (zk_af (zk_af (zk_af (zk_new H)))))
theorem zk_told {h : zH} {q x k : Nat} (H : zk h.1 x k) : zk (iTold q h).1 x k := zk_half (zk_half (zk_rows H))
