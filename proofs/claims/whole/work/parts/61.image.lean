/-! ===== image: a new Told's shape ===== -/
section IMAGE
theorem HlS.fr {h h' : zH} {a q : Nat} (H : HlS h.1 h.2.2 a) (F : Fr q h h') (hq : q ≠ a) (ha : a + 6 ≤ h.1.1) : HlS h'.1 h'.2.2 a := by
  obtain ⟨h1, ⟨k1, k2, k3, k4, k5⟩, ⟨l1, l2, l3, l4, l5⟩, hp⟩ := H
  refine ⟨zk_fr F h1, ⟨zk_fr F k1, zk_fr F k2, zk_fr F k3, zk_fr F k4, zk_fr F k5⟩, ⟨(F.2.1 _ (by omega)).2.trans l1, (F.2.1 _ (by omega)).2.trans l2, (F.2.1 _ (by omega)).2.trans l3, (F.2.1 _ (by omega)).2.trans l4, (F.2.1 _ (by omega)).2.trans l5⟩, ?_⟩
  rw [(F.2.2 a (by omega) (fun e => hq e.symm)).2]; exact hp
theorem CnS.fr {h h' : zH} {a q : Nat} (H : CnS h.1 h.2.2 a) (F : Fr q h h') (hq : q ≠ a) (ha : a + 4 ≤ h.1.1) : CnS h'.1 h'.2.2 a := by
  obtain ⟨h1, ⟨k1, k2, k3⟩, ⟨l1, l2, l3⟩, hp⟩ := H
  refine ⟨zk_fr F h1, ⟨zk_fr F k1, zk_fr F k2, zk_fr F k3⟩, ⟨(F.2.1 _ (by omega)).2.trans l1, (F.2.1 _ (by omega)).2.trans l2, (F.2.1 _ (by omega)).2.trans l3⟩, ?_⟩
  rw [(F.2.2 a (by omega) (fun e => hq e.symm)).2]; exact hp
theorem LnS.fr {h h' : zH} {a q : Nat} (H : LnS h.1 h.2.2 a) (F : Fr q h h') (hq : q ≠ a) (ha : a + 3 ≤ h.1.1) : LnS h'.1 h'.2.2 a := by
  obtain ⟨h1, ⟨k1, k2⟩, ⟨l1, l2⟩, hp⟩ := H
  refine ⟨zk_fr F h1, ⟨zk_fr F k1, zk_fr F k2⟩, ⟨(F.2.1 _ (by omega)).2.trans l1, (F.2.1 _ (by omega)).2.trans l2⟩, ?_⟩
  rw [(F.2.2 a (by omega) (fun e => hq e.symm)).2]; exact hp
theorem LgS.fr {h h' : zH} {a q : Nat} (H : LgS h.1 h.2.2 a) (F : Fr q h h') (hq : q ≠ a) (ha : a + 3 ≤ h.1.1) : LgS h'.1 h'.2.2 a := by
  obtain ⟨h1, ⟨k1, k2⟩, ⟨l1, l2⟩, hp⟩ := H
  refine ⟨zk_fr F h1, ⟨zk_fr F k1, zk_fr F k2⟩, ⟨(F.2.1 _ (by omega)).2.trans l1, (F.2.1 _ (by omega)).2.trans l2⟩, ?_⟩
  rw [(F.2.2 a (by omega) (fun e => hq e.symm)).2]; exact hp
/-- zIt writes one place of its row -/
theorem zIt_o {b i c j : Nat} {f : Nat → zH → zH} (hf : ∀ q h, Fr q h (f q h)) (h : zH) (hb : b < h.1.1) (hj : j ≠ i) : (zIt b i c f h).2.2 b j = h.2.2 b j := by
  show zU (f h.1.1 (zNew h c 0)).2.2 b i (some h.1.1) b j = _
  rw [zU_k _ _ hj, ((hf h.1.1 (zNew h c 0)).2.2 b (by show b < h.1.1 + 1; omega) (by omega)).2, ((Fr.nw h.1.1 h c 0).2.2 b hb (by omega)).2]
theorem zIt_i {b i c : Nat} {f : Nat → zH → zH} (h : zH) : (zIt b i c f h).2.2 b i = some h.1.1 := zU_s _ _ _ _
theorem sh_hill (h : zH) (q : Nat) (hq : zk h.1 q 3) (hl : q + 1 = h.1.1) : HlS (iHill q h).1 (iHill q h).2.2 q ∧ (iHill q h).1.1 = h.1.1 + 5 := by
  obtain ⟨g, I, P⟩ := h
  obtain ⟨n, tg, ln⟩ := g
  obtain ⟨h1, h2⟩ := hq
  have hl : q + 1 = n := hl
  subst hl
  have h2 : tg q = 3 := h2
  refine ⟨⟨⟨?_, ?_⟩, ⟨⟨?_, ?_⟩, ⟨?_, ?_⟩, ⟨?_, ?_⟩, ⟨?_, ?_⟩, ⟨?_, ?_⟩⟩, ⟨?_, ?_, ?_, ?_, ?_⟩, ?_, ?_, ?_, ?_, ?_⟩, ?_⟩ <;> simp [iHill, zAf, zPI, zNew, zU, h2] <;> first | omega | (repeat' split) <;> omega
theorem sh_cent (h : zH) (q : Nat) (hq : zk h.1 q 0) (hl : q + 1 = h.1.1) : CnS (iCent q h).1 (iCent q h).2.2 q ∧ (iCent q h).1.1 = h.1.1 + 3 := by
  obtain ⟨g, I, P⟩ := h
  obtain ⟨n, tg, ln⟩ := g
  obtain ⟨h1, h2⟩ := hq
  have hl : q + 1 = n := hl
  subst hl
  have h2 : tg q = 0 := h2
  refine ⟨⟨⟨?_, ?_⟩, ⟨⟨?_, ?_⟩, ⟨?_, ?_⟩, ⟨?_, ?_⟩⟩, ⟨?_, ?_, ?_⟩, ?_, ?_, ?_⟩, ?_⟩ <;> simp [iCent, zAf, zPI, zNew, zU, h2] <;> first | omega | (repeat' split) <;> omega
theorem sh_lins (h : zH) (q : Nat) (hq : zk h.1 q 4) (hl : q + 1 = h.1.1) : LnS (iLins q h).1 (iLins q h).2.2 q ∧ (iLins q h).1.1 = h.1.1 + 2 := by
  obtain ⟨g, I, P⟩ := h
  obtain ⟨n, tg, ln⟩ := g
  obtain ⟨h1, h2⟩ := hq
  have hl : q + 1 = n := hl
  subst hl
  have h2 : tg q = 4 := h2
  refine ⟨⟨⟨?_, ?_⟩, ⟨⟨?_, ?_⟩, ⟨?_, ?_⟩⟩, ⟨?_, ?_⟩, ?_, ?_⟩, ?_⟩ <;> simp [iLins, zAf, zPI, zNew, zU, h2] <;> first | omega | (repeat' split) <;> omega
theorem sh_log (h : zH) (q : Nat) (hq : zk h.1 q 5) (hl : q + 1 = h.1.1) : LgS (iLog q h).1 (iLog q h).2.2 q ∧ (iLog q h).1.1 = h.1.1 + 2 := by
  obtain ⟨g, I, P⟩ := h
  obtain ⟨n, tg, ln⟩ := g
  obtain ⟨h1, h2⟩ := hq
  have hl : q + 1 = n := hl
  subst hl
  have h2 : tg q = 5 := h2
  refine ⟨⟨⟨?_, ?_⟩, ⟨⟨?_, ?_⟩, ⟨?_, ?_⟩⟩, ⟨?_, ?_⟩, ?_, ?_⟩, ?_⟩ <;> simp [iLog, zAf, zPI, zNew, zU, h2] <;> first | omega | (repeat' split) <;> omega
/-- an item of Told's rows -/
def hfS (h : zH) (t i o : Nat) : Prop := (h.2.2 t i = some o ∧ HlS h.1 h.2.2 o) ∧ (h.2.2 (t + 1) i = some (o + 6) ∧ CnS h.1 h.2.2 (o + 6)) ∧ (h.2.2 (t + 2) i = some (o + 10) ∧ LnS h.1 h.2.2 (o + 10)) ∧ (h.2.2 (t + 3) i = some (o + 13) ∧ LgS h.1 h.2.2 (o + 13))
theorem sh_half (h : zH) (t i : Nat) (ht : t + 4 ≤ h.1.1) : hfS (iHalf t i h) t i h.1.1 ∧ (iHalf t i h).1.1 = h.1.1 + 16 := by
  obtain ⟨h1, e1⟩ : ∃ h1, h1 = zIt t i 3 iHill h := ⟨_, rfl⟩
  obtain ⟨h2, e2⟩ : ∃ h2, h2 = zIt (t + 1) i 0 iCent h1 := ⟨_, rfl⟩
  obtain ⟨h3, e3⟩ : ∃ h3, h3 = zIt (t + 2) i 4 iLins h2 := ⟨_, rfl⟩
  obtain ⟨h4, e4⟩ : ∃ h4, h4 = zIt (t + 3) i 5 iLog h3 := ⟨_, rfl⟩
  have eh : iHalf t i h = h4 := by rw [e4, e3, e2, e1]; rfl
  have a1 : HlS h1.1 h1.2.2 h.1.1 ∧ h1.1.1 = h.1.1 + 6 := by
    have s := sh_hill (zNew h 3 0) h.1.1 zk_top rfl
    rw [e1]
    refine ⟨s.1.fr (h' := zIt t i 3 iHill h) (Fr.pp t i h.1.1 _) (by omega) (by rw [s.2]; show h.1.1 + 6 ≤ h.1.1 + 1 + 5; omega), ?_⟩
    show (iHill h.1.1 (zNew h 3 0)).1.1 = _
    rw [s.2]; show h.1.1 + 1 + 5 = _; omega
  have a2 : CnS h2.1 h2.2.2 h1.1.1 ∧ h2.1.1 = h1.1.1 + 4 := by
    have s := sh_cent (zNew h1 0 0) h1.1.1 zk_top rfl
    rw [e2]
    refine ⟨s.1.fr (h' := zIt (t + 1) i 0 iCent h1) (Fr.pp (t + 1) i h1.1.1 _) (by omega) (by rw [s.2]; show h1.1.1 + 4 ≤ h1.1.1 + 1 + 3; omega), ?_⟩
    show (iCent h1.1.1 (zNew h1 0 0)).1.1 = _
    rw [s.2]; show h1.1.1 + 1 + 3 = _; omega
  have a3 : LnS h3.1 h3.2.2 h2.1.1 ∧ h3.1.1 = h2.1.1 + 3 := by
    have s := sh_lins (zNew h2 4 0) h2.1.1 zk_top rfl
    rw [e3]
    refine ⟨s.1.fr (h' := zIt (t + 2) i 4 iLins h2) (Fr.pp (t + 2) i h2.1.1 _) (by omega) (by rw [s.2]; show h2.1.1 + 3 ≤ h2.1.1 + 1 + 2; omega), ?_⟩
    show (iLins h2.1.1 (zNew h2 4 0)).1.1 = _
    rw [s.2]; show h2.1.1 + 1 + 2 = _; omega
  have a4 : LgS h4.1 h4.2.2 h3.1.1 ∧ h4.1.1 = h3.1.1 + 3 := by
    have s := sh_log (zNew h3 5 0) h3.1.1 zk_top rfl
    rw [e4]
    refine ⟨s.1.fr (h' := zIt (t + 3) i 5 iLog h3) (Fr.pp (t + 3) i h3.1.1 _) (by omega) (by rw [s.2]; show h3.1.1 + 3 ≤ h3.1.1 + 1 + 2; omega), ?_⟩
    show (iLog h3.1.1 (zNew h3 5 0)).1.1 = _
    rw [s.2]; show h3.1.1 + 1 + 2 = _; omega
  have f2 : Fr (t + 1) h1 h2 := by rw [e2]; exact Fr.it Fr.cent _
  have f3 : Fr (t + 2) h2 h3 := by rw [e3]; exact Fr.it Fr.lins _
  have f4 : Fr (t + 3) h3 h4 := by rw [e4]; exact Fr.it Fr.log _
  have p1 : h1.2.2 t i = some h.1.1 := by rw [e1]; exact zIt_i h
  have p2 : h2.2.2 (t + 1) i = some h1.1.1 := by rw [e2]; exact zIt_i h1
  have p3 : h3.2.2 (t + 2) i = some h2.1.1 := by rw [e3]; exact zIt_i h2
  have p4 : h4.2.2 (t + 3) i = some h3.1.1 := by rw [e4]; exact zIt_i h3
  rw [eh]
  refine ⟨⟨⟨?_, ?_⟩, ⟨?_, ?_⟩, ⟨?_, ?_⟩, ?_, ?_⟩, by omega⟩
  · rw [(f4.2.2 t (by omega) (by omega)).2, (f3.2.2 t (by omega) (by omega)).2, (f2.2.2 t (by omega) (by omega)).2, p1]
  · exact ((a1.1.fr f2 (by omega) (by omega)).fr f3 (by omega) (by omega)).fr f4 (by omega) (by omega)
  · rw [(f4.2.2 (t + 1) (by omega) (by omega)).2, (f3.2.2 (t + 1) (by omega) (by omega)).2, p2, a1.2]
  · rw [show h.1.1 + 6 = h1.1.1 by omega]
    exact (a2.1.fr f3 (by omega) (by omega)).fr f4 (by omega) (by omega)
  · rw [(f4.2.2 (t + 2) (by omega) (by omega)).2, p3, show h.1.1 + 10 = h2.1.1 by omega]
  · rw [show h.1.1 + 10 = h2.1.1 by omega]
    exact a3.1.fr f4 (by omega) (by omega)
  · rw [p4, show h.1.1 + 13 = h3.1.1 by omega]
  · rw [show h.1.1 + 13 = h3.1.1 by omega]
    exact a4.1
/-- a round of the constructor leaves what lies elsewhere -/
theorem half_o (h : zH) (t i : Nat) (ht : t + 4 ≤ h.1.1) : h.1.1 ≤ (iHalf t i h).1.1 ∧ (∀ x, x < h.1.1 → (iHalf t i h).1.2.1 x = h.1.2.1 x ∧ (iHalf t i h).1.2.2 x = h.1.2.2 x) ∧ (∀ x, x < h.1.1 → (x < t ∨ t + 4 ≤ x) → (iHalf t i h).2.1 x = h.2.1 x ∧ (iHalf t i h).2.2 x = h.2.2 x) ∧ ∀ x j, t ≤ x → x < t + 4 → j ≠ i → (iHalf t i h).2.2 x j = h.2.2 x j := by
  obtain ⟨h1, e1⟩ : ∃ h1, h1 = zIt t i 3 iHill h := ⟨_, rfl⟩
  obtain ⟨h2, e2⟩ : ∃ h2, h2 = zIt (t + 1) i 0 iCent h1 := ⟨_, rfl⟩
  obtain ⟨h3, e3⟩ : ∃ h3, h3 = zIt (t + 2) i 4 iLins h2 := ⟨_, rfl⟩
  obtain ⟨h4, e4⟩ : ∃ h4, h4 = zIt (t + 3) i 5 iLog h3 := ⟨_, rfl⟩
  have eh : iHalf t i h = h4 := by rw [e4, e3, e2, e1]; rfl
  have f1 : Fr t h h1 := by rw [e1]; exact Fr.it Fr.hill _
  have f2 : Fr (t + 1) h1 h2 := by rw [e2]; exact Fr.it Fr.cent _
  have f3 : Fr (t + 2) h2 h3 := by rw [e3]; exact Fr.it Fr.lins _
  have f4 : Fr (t + 3) h3 h4 := by rw [e4]; exact Fr.it Fr.log _
  have s1 := f1.1
  have s2 := f2.1
  have s3 := f3.1
  have s4 := f4.1
  rw [eh]
  refine ⟨by omega, fun x hx => ?_, fun x hx hq => ?_, fun x j h5 h6 hj => ?_⟩
  · have b1 := f1.2.1 x hx
    have b2 := f2.2.1 x (by omega)
    have b3 := f3.2.1 x (by omega)
    have b4 := f4.2.1 x (by omega)
    exact ⟨b4.1.trans (b3.1.trans (b2.1.trans b1.1)), b4.2.trans (b3.2.trans (b2.2.trans b1.2))⟩
  · have b1 := f1.2.2 x hx (by omega)
    have b2 := f2.2.2 x (by omega) (by omega)
    have b3 := f3.2.2 x (by omega) (by omega)
    have b4 := f4.2.2 x (by omega) (by omega)
    exact ⟨b4.1.trans (b3.1.trans (b2.1.trans b1.1)), b4.2.trans (b3.2.trans (b2.2.trans b1.2))⟩
  · have o1 : ∀ (h : zH), t < h.1.1 → (zIt t i 3 iHill h).2.2 t j = h.2.2 t j := fun h hb => zIt_o Fr.hill h hb hj
    have o2 : ∀ (h : zH), t + 1 < h.1.1 → (zIt (t + 1) i 0 iCent h).2.2 (t + 1) j = h.2.2 (t + 1) j := fun h hb => zIt_o Fr.cent h hb hj
    have o3 : ∀ (h : zH), t + 2 < h.1.1 → (zIt (t + 2) i 4 iLins h).2.2 (t + 2) j = h.2.2 (t + 2) j := fun h hb => zIt_o Fr.lins h hb hj
    have o4 : ∀ (h : zH), t + 3 < h.1.1 → (zIt (t + 3) i 5 iLog h).2.2 (t + 3) j = h.2.2 (t + 3) j := fun h hb => zIt_o Fr.log h hb hj
    rcases (show x = t ∨ x = t + 1 ∨ x = t + 2 ∨ x = t + 3 by omega) with rfl | rfl | rfl | rfl
    · rw [(f4.2.2 x (by omega) (by omega)).2, (f3.2.2 x (by omega) (by omega)).2, (f2.2.2 x (by omega) (by omega)).2, e1]; exact o1 h (by omega)
    · rw [(f4.2.2 (t + 1) (by omega) (by omega)).2, (f3.2.2 (t + 1) (by omega) (by omega)).2, e2, o2 h1 (by omega), (f1.2.2 (t + 1) (by omega) (by omega)).2]
    · rw [(f4.2.2 (t + 2) (by omega) (by omega)).2, e3, o3 h2 (by omega), (f2.2.2 (t + 2) (by omega) (by omega)).2, (f1.2.2 (t + 2) (by omega) (by omega)).2]
    · rw [e4, o4 h3 (by omega), (f3.2.2 (t + 3) (by omega) (by omega)).2, (f2.2.2 (t + 3) (by omega) (by omega)).2, (f1.2.2 (t + 3) (by omega) (by omega)).2]
theorem hfS.o {h h' : zH} {t i o : Nat} (H : hfS h t i o) (ht : t + 4 ≤ o) (ho : o + 16 ≤ h.1.1) (s : h.1.1 ≤ h'.1.1) (a : ∀ x, x < h.1.1 → h'.1.2.1 x = h.1.2.1 x ∧ h'.1.2.2 x = h.1.2.2 x) (b : ∀ x, x < h.1.1 → (x < t ∨ t + 4 ≤ x) → h'.2.1 x = h.2.1 x ∧ h'.2.2 x = h.2.2 x) (c : ∀ x, t ≤ x → x < t + 4 → h'.2.2 x i = h.2.2 x i) : hfS h' t i o := by
  obtain ⟨⟨p1, q1⟩, ⟨p2, q2⟩, ⟨p3, q3⟩, p4, q4⟩ := H
  have zz : ∀ {x k : Nat}, zk h.1 x k → zk h'.1 x k := fun {x k} z => ⟨Nat.lt_of_lt_of_le z.1 s, (a x z.1).1.trans z.2⟩
  refine ⟨⟨(c _ (by omega) (by omega)).trans p1, ?_⟩, ⟨(c _ (by omega) (by omega)).trans p2, ?_⟩, ⟨(c _ (by omega) (by omega)).trans p3, ?_⟩, (c _ (by omega) (by omega)).trans p4, ?_⟩
  · obtain ⟨h1, ⟨k1, k2, k3, k4, k5⟩, ⟨l1, l2, l3, l4, l5⟩, hp⟩ := q1
    refine ⟨zz h1, ⟨zz k1, zz k2, zz k3, zz k4, zz k5⟩, ⟨(a _ (by omega)).2.trans l1, (a _ (by omega)).2.trans l2, (a _ (by omega)).2.trans l3, (a _ (by omega)).2.trans l4, (a _ (by omega)).2.trans l5⟩, ?_⟩
    rw [(b o (by omega) (by omega)).2]; exact hp
  · obtain ⟨h1, ⟨k1, k2, k3⟩, ⟨l1, l2, l3⟩, hp⟩ := q2
    refine ⟨zz h1, ⟨zz k1, zz k2, zz k3⟩, ⟨(a _ (by omega)).2.trans l1, (a _ (by omega)).2.trans l2, (a _ (by omega)).2.trans l3⟩, ?_⟩
    rw [(b (o + 6) (by omega) (by omega)).2]; exact hp
  · obtain ⟨h1, ⟨k1, k2⟩, ⟨l1, l2⟩, hp⟩ := q3
    refine ⟨zz h1, ⟨zz k1, zz k2⟩, ⟨(a _ (by omega)).2.trans l1, (a _ (by omega)).2.trans l2⟩, ?_⟩
    rw [(b (o + 10) (by omega) (by omega)).2]; exact hp
  · obtain ⟨h1, ⟨k1, k2⟩, ⟨l1, l2⟩, hp⟩ := q4
    refine ⟨zz h1, ⟨zz k1, zz k2⟩, ⟨(a _ (by omega)).2.trans l1, (a _ (by omega)).2.trans l2⟩, ?_⟩
    rw [(b (o + 13) (by omega) (by omega)).2]; exact hp
/-- the rows of a new Told at q -/
theorem sh_rows (h : zH) (q : Nat) (hq : zk h.1 q 9) (hl : q + 1 = h.1.1) : (iRows q h).1.1 = q + 7 ∧ (zk (iRows q h).1 q 9 ∧ zk (iRows q h).1 (q + 1) 13 ∧ zk (iRows q h).1 (q + 2) 13 ∧ zk (iRows q h).1 (q + 3) 16 ∧ zk (iRows q h).1 (q + 4) 15 ∧ zk (iRows q h).1 (q + 5) 17 ∧ zk (iRows q h).1 (q + 6) 18) ∧ ((iRows q h).1.2.2 (q + 1) = 600 ∧ (iRows q h).1.2.2 (q + 2) = 4 ∧ (iRows q h).1.2.2 (q + 3) = 2 ∧ (iRows q h).1.2.2 (q + 4) = 2 ∧ (iRows q h).1.2.2 (q + 5) = 2 ∧ (iRows q h).1.2.2 (q + 6) = 2) ∧ ((iRows q h).2.2 q 0 = some (q + 1) ∧ (iRows q h).2.2 q 4 = some (q + 2) ∧ (iRows q h).2.2 q 5 = some (q + 3) ∧ (iRows q h).2.2 q 6 = some (q + 4) ∧ (iRows q h).2.2 q 7 = some (q + 5) ∧ (iRows q h).2.2 q 8 = some (q + 6)) := by
  obtain ⟨g, I, P⟩ := h
  obtain ⟨n, tg, ln⟩ := g
  obtain ⟨h1, h2⟩ := hq
  have hl : q + 1 = n := hl
  subst hl
  have h2 : tg q = 9 := h2
  refine ⟨?_, ⟨⟨?_, ?_⟩, ⟨?_, ?_⟩, ⟨?_, ?_⟩, ⟨?_, ?_⟩, ⟨?_, ?_⟩, ⟨?_, ?_⟩, ?_, ?_⟩, ⟨?_, ?_, ?_, ?_, ?_, ?_⟩, ?_, ?_, ?_, ?_, ?_, ?_⟩ <;> simp [iRows, zAf, zPI, zNew, zU, h2] <;> first | omega | (repeat' split) <;> omega
theorem rows_o (h : zH) (q : Nat) : Fr q h (iRows q h) := ((((((Fr.af q 0 13 600 h).tr (Fr.pi q 3 (-1) _)).tr (Fr.af q 4 13 4 _)).tr (Fr.af q 5 16 2 _)).tr (Fr.af q 6 15 2 _)).tr (Fr.af q 7 17 2 _)).tr (Fr.af q 8 18 2 _)
theorem sh_told (h : zH) (q : Nat) (hq : zk h.1 q 9) (hl : q + 1 = h.1.1) : TlS (iTold q h).1 (iTold q h).2.2 q ∧ (iTold q h).1.1 = q + 39 ∧ (∀ x, x < q → (iTold q h).1.2.1 x = h.1.2.1 x ∧ (iTold q h).1.2.2 x = h.1.2.2 x) ∧ ∀ x, x < q → (iTold q h).2.1 x = h.2.1 x ∧ (iTold q h).2.2 x = h.2.2 x := by
  obtain ⟨h1, e1⟩ : ∃ h1, h1 = iRows q h := ⟨_, rfl⟩
  obtain ⟨h2, e2⟩ : ∃ h2, h2 = iHalf (q + 3) 0 h1 := ⟨_, rfl⟩
  obtain ⟨h3, e3⟩ : ∃ h3, h3 = iHalf (q + 3) 1 h2 := ⟨_, rfl⟩
  have eh : iTold q h = h3 := by rw [e3, e2, e1, show q + 3 = h.1.1 + 2 by omega]; rfl
  have f1 : Fr q h h1 := by rw [e1]; exact rows_o h q
  obtain ⟨r0, ⟨r1, r2, r3, r4, r5, r6, r7⟩, ⟨l1, l2, l3, l4, l5, l6⟩, p1, p2, p3, p4, p5, p6⟩ := sh_rows h q hq hl
  rw [← e1] at r0 r1 r2 r3 r4 r5 r6 r7 l1 l2 l3 l4 l5 l6 p1 p2 p3 p4 p5 p6
  obtain ⟨s1, s2⟩ := sh_half h1 (q + 3) 0 (by omega)
  obtain ⟨o1, o2, o3, o4⟩ := half_o h1 (q + 3) 0 (by omega)
  rw [← e2] at s1 s2 o1 o2 o3 o4
  obtain ⟨u1, u2⟩ := sh_half h2 (q + 3) 1 (by omega)
  obtain ⟨v1, v2, v3, v4⟩ := half_o h2 (q + 3) 1 (by omega)
  rw [← e3] at u1 u2 v1 v2 v3 v4
  have w1 := s1.o (h' := h3) (by omega) (by omega) v1 v2 v3 (fun x a b => v4 x 0 a b (by decide))
  have zz : ∀ {x k : Nat}, x < h1.1.1 → zk h1.1 x k → zk h3.1 x k := fun {x k} hx z => ⟨by have := z.1; omega, (v2 x (by omega)).1.trans ((o2 x hx).1.trans z.2)⟩
  have ll : ∀ {x n : Nat}, x < h1.1.1 → h1.1.2.2 x = n → h3.1.2.2 x = n := fun {x n} hx z => (v2 x (by omega)).2.trans ((o2 x hx).2.trans z)
  have pp : h3.2.2 q = h1.2.2 q := (v3 q (by omega) (by omega)).2.trans (o3 q (by omega) (by omega)).2
  rw [eh]
  refine ⟨⟨zz (by omega) r1, ⟨zz (by omega) r2, zz (by omega) r3, zz (by omega) r4, zz (by omega) r5, zz (by omega) r6, zz (by omega) r7⟩, ⟨ll (by omega) l1, ll (by omega) l2, ll (by omega) l3, ll (by omega) l4, ll (by omega) l5, ll (by omega) l6⟩, ?_, fun i hi => ?_⟩, by omega, fun x hx => ?_, fun x hx => ?_⟩
  · rw [pp]; exact ⟨p1, p2, p3, p4, p5, p6⟩
  · rcases (show i = 0 ∨ i = 1 by omega) with rfl | rfl
    · rw [r0] at w1; exact w1
    · rw [show h2.1.1 = q + 23 by omega] at u1; exact u1
  · have b1 := f1.2.1 x (by omega)
    have b2 := o2 x (by omega)
    have b3 := v2 x (by omega)
    exact ⟨b3.1.trans (b2.1.trans b1.1), b3.2.trans (b2.2.trans b1.2)⟩
  · have b1 := f1.2.2 x (by omega) (by omega)
    have b2 := o3 x (by omega) (by omega)
    have b3 := v3 x (by omega) (by omega)
    exact ⟨b3.1.trans (b2.1.trans b1.1), b3.2.trans (b2.2.trans b1.2)⟩
variable {g : zG} {I : Nat → Nat → Int32} {P : Nat → Nat → Option Nat} {t : TD} {im : Nat → Option TD}
theorem r_image {k : Nat} (S : Sg g) (Q : Sp P) (hk : k < 3) : ∃ J, Zt none mX12_image 0 0 20 [(0, .ref 95), (1, .int (nI k)), (2, .int (nI 0))] [] (g, I, P) (some (.int 1)) (g, J, P) ∧ (∀ i, i < 1242 → J 96 (1242 * (k + 1) + i) = I 96 i) ∧ (∀ i, (i < 1242 * (k + 1) ∨ 1242 * (k + 1) + 1242 ≤ i) → J 96 i = I 96 i) ∧ ∀ c, c ≠ 96 → J c = I c := by
  have key : ∀ m i (K : Nat → Nat → Int32), i + m = 1242 → ∃ J, Zt none mX12_image 0 0 20 [(0, .ref 95), (1, .int (nI k)), (2, .int (nI i))] [] (g, K, P) (some (.int 1)) (g, J, P) ∧ (∀ j, i ≤ j → j < 1242 → J 96 (1242 * (k + 1) + j) = K 96 j) ∧ (∀ j, (j < 1242 * (k + 1) + i ∨ 1242 * (k + 1) + 1242 ≤ j) → J 96 j = K 96 j) ∧ ∀ c, c ≠ 96 → J c = K c := by
    intro m
    induction m with
    | zero =>
      intro i K hi
      obtain rfl : i = 1242 := hi
      exact ⟨K, wX12_image_20 ⟨fun _ => ⟨rfl, rfl⟩, fun q => absurd (Int32.le_refl _) q⟩, fun j h1 h2 => absurd h2 (by omega), fun _ _ => rfl, fun _ _ => rfl⟩
    | succ m ih =>
      intro i K hi
      obtain ⟨J, z, a1, a2, a3⟩ := ih (i + 1) (zU K 96 (1242 * (k + 1) + i) (K 96 i)) (by omega)
      have x1 := ix96 S (n1242 k i) (by omega)
      have x2 := ix96 S (rfl : nI i = nI i) (by omega)
      refine ⟨J, wX12_image_20 ⟨fun q => absurd q (nI_ge (b := 1242) (by omega) (by decide)), fun _ => ⟨S.k 95 12 (by decide), 96, Q.p 95 0 96 (by decide), S.k 95 12 (by decide), 96, Q.p 95 0 96 (by decide), S.k 96 13 (by decide), x2.1, S.k 96 13 (by decide), x1.1, ?_⟩⟩, fun j h1 h2 => ?_, fun j h1 => ?_, fun c hc => ?_⟩
      · rw [x1.2, x2.2, nI_1]; exact z
      · by_cases hj : j = i
        · subst hj
          rw [a2 _ (by omega), zU_s]
        · rw [a1 j (by omega) h2, zU_k _ _ (by omega)]
      · rw [a2 j (by omega), zU_k _ _ (by omega)]
      · rw [a3 c hc]; funext j; rw [zU_a _ _ hc]
  obtain ⟨J, z, a1, a2, a3⟩ := key 1242 0 I (by omega)
  exact ⟨J, z, fun i hi => a1 i (by omega) hi, fun i hi => a2 i (by omega), a3⟩
theorem TlS.mv {g2 : zG} {P2 : Nat → Nat → Option Nat} {a : Nat} (A : TlS g P a) (s : g.1 ≤ g2.1) (ha : a + 39 ≤ g.1) (k : ∀ x, x < g.1 → g2.2.1 x = g.2.1 x ∧ g2.2.2 x = g.2.2 x) (e : ∀ x, a ≤ x → x < a + 39 → P2 x = P x) : TlS g2 P2 a := by
  have zz : ∀ {x k : Nat}, zk g x k → zk g2 x k := fun {x c} z => ⟨Nat.lt_of_lt_of_le z.1 s, (k x z.1).1.trans z.2⟩
  have ll : ∀ {x n : Nat}, x < g.1 → g.2.2 x = n → g2.2.2 x = n := fun {x n} hx z => (k x hx).2.trans z
  obtain ⟨h1, ⟨k1, k2, k3, k4, k5, k6⟩, ⟨l1, l2, l3, l4, l5, l6⟩, hp, hi⟩ := A
  refine TlS.keep (P := P) ⟨zz h1, ⟨zz k1, zz k2, zz k3, zz k4, zz k5, zz k6⟩, ⟨ll (by omega) l1, ll (by omega) l2, ll (by omega) l3, ll (by omega) l4, ll (by omega) l5, ll (by omega) l6⟩, hp, fun i h2 => ?_⟩ (fun j hj => e _ (by omega) (by omega))
  obtain ⟨⟨a1, q1⟩, ⟨a2, q2⟩, ⟨a3, q3⟩, a4, q4⟩ := hi i h2
  refine ⟨⟨a1, ?_⟩, ⟨a2, ?_⟩, ⟨a3, ?_⟩, a4, ?_⟩
  · obtain ⟨h1, ⟨k1, k2, k3, k4, k5⟩, ⟨l1, l2, l3, l4, l5⟩, hp⟩ := q1
    exact ⟨zz h1, ⟨zz k1, zz k2, zz k3, zz k4, zz k5⟩, ⟨ll (by omega) l1, ll (by omega) l2, ll (by omega) l3, ll (by omega) l4, ll (by omega) l5⟩, hp⟩
  · obtain ⟨h1, ⟨k1, k2, k3⟩, ⟨l1, l2, l3⟩, hp⟩ := q2
    exact ⟨zz h1, ⟨zz k1, zz k2, zz k3⟩, ⟨ll (by omega) l1, ll (by omega) l2, ll (by omega) l3⟩, hp⟩
  · obtain ⟨h1, ⟨k1, k2⟩, ⟨l1, l2⟩, hp⟩ := q3
    exact ⟨zz h1, ⟨zz k1, zz k2⟩, ⟨ll (by omega) l1, ll (by omega) l2⟩, hp⟩
  · obtain ⟨h1, ⟨k1, k2⟩, ⟨l1, l2⟩, hp⟩ := q4
    exact ⟨zz h1, ⟨zz k1, zz k2⟩, ⟨ll (by omega) l1, ll (by omega) l2⟩, hp⟩
theorem pT_40 : ∀ q ∈ pT, q.1 < 114 ∧ q.1 ≠ 40 := by decide
theorem im_end {g2 : zG} {I2 : Nat → Nat → Int32} {P2 : Nat → Nat → Option Nat} {a k : Nat} (L : LI g I P t im) (hk : k < 3) (hg : g.1 ≤ g2.1) (hgk : ∀ x, x < g.1 → g2.2.1 x = g.2.1 x ∧ g2.2.2 x = g.2.2 x) (hI : ∀ x, x < g.1 → I2 x = I x) (hP : ∀ x, x < g.1 → x ≠ 40 → P2 x = P x) (hP40 : ∀ j, j ≠ k → P2 40 j = P 40 j) (hPk : P2 40 k = some a) (ha : 114 ≤ a) (ha2 : a + 39 ≤ g2.1) (A : TlS g2 P2 a) (hd : ∀ j b, j < 3 → j ≠ k → P 40 j = some b → a + 39 ≤ b ∨ b + 39 ≤ a) : ∃ J1 J, Sg g2 ∧ Sp P2 ∧ Cl mX9_copy [.ref a, .ref 1] (g2, I2, P2) none (g2, J1, P2) ∧ Cl mX12_image [.ref 95, .int (nI k)] (g2, J1, P2) (some (.int 1)) (g2, J, P2) ∧ LI g2 J P2 t (fun j => if j = k then some t else im j) := by
  obtain ⟨S0, Q0, W, D, M, hC, hM, hB⟩ := L
  have s114 := S0.1
  have S : Sg g2 := ⟨Nat.le_trans S0.1 hg, fun i hi => (hgk i (by omega)).1.trans (S0.2.1 i hi), fun i hi => (hgk i (by omega)).2.trans (S0.2.2 i hi)⟩
  have Q : Sp P2 := fun q hq => by
    have := pT_40 q hq
    rw [hP q.1 (by omega) this.2]; exact Q0 q hq
  obtain ⟨J1, z1, c1, k1⟩ := c_toldCopy (I := I2) (TlS_1 S Q) A (by omega) (by rw [hI (1 + 7) (by omega), hI (1 + 23) (by omega)]; exact hB.1)
  obtain ⟨J, z2, r1, r2, r3⟩ := r_image (I := zU J1 97 k 1) S Q hk
  have e0 : (nI k).toNatClampNeg = k := nI_clamp (by omega)
  have v97 : vp_in (nI k) (g2.2.2 97) := by rw [S.l 97 3 (by decide)]; exact vp_in_nI (by omega) (by decide)
  have hJ : ∀ c, c ≠ 96 → c ≠ 97 → J c = J1 c := fun c q1 q2 => by rw [r3 c q1]; funext j; rw [zU_a _ _ q2]
  have hJI : ∀ c, c ≠ 96 → c ≠ 97 → c < g.1 → (c < a ∨ a + 39 ≤ c) → J c = I c := fun c q1 q2 q3 q4 => by rw [hJ c q1 q2, k1 c q4, hI c q3]
  have h96 : ∀ i, (i < 1242 * (k + 1) ∨ 1242 * (k + 1) + 1242 ≤ i) → J 96 i = I 96 i := fun i hi => by rw [r2 i hi, zU_a _ _ (by decide), k1 96 (by omega), hI 96 (by omega)]
  have h96k : ∀ i, i < 1242 → J 96 (1242 * (k + 1) + i) = I 96 i := fun i hi => by rw [r1 i hi, zU_a _ _ (by decide), k1 96 (by omega), hI 96 (by omega)]
  have D1 : TlD I2 1 t := D.keep W (fun j hj => hI _ (by omega))
  refine ⟨J1, J, S, Q, z1, eX12_image (wX12_image_0 ⟨_, r_isIn, fun _ => ⟨S.k 95 12 (by decide), 97, Q.p 95 1 97 (by decide), S.k 97 14 (by decide), v97, ?_⟩, fun q => ?_⟩), S, Q, W, D.keep W (fun j hj => hJI _ (by omega) (by omega) (by omega) (by omega)), M.keep2 W (fun i q1 q2 => h96 i (by omega)), ⟨fun j hj hn => ?_, fun j t1 hj ht => ?_, fun i j x y hi hj hij hx hy => ?_⟩, fun j hj => ⟨?_, fun t1 ht => ?_⟩, ?_, fun j x hj hx => ?_⟩
  · rw [e0]; exact z2
  · rw [zb_eq, decide_eq_false_iff_not] at q
    exact absurd ⟨nI_pos (by omega), nI_nlt (a := 2) (by omega) (by decide)⟩ q
  · have hn : (if j = k then some t else im j) = none := hn
    by_cases h : j = k
    · rw [if_pos h] at hn; cases hn
    · rw [if_neg h] at hn
      rw [hP40 j h]; exact hC.1 j hj hn
  · have ht : (if j = k then some t else im j) = some t1 := ht
    by_cases h : j = k
    · rw [if_pos h] at ht; cases ht
      subst h
      exact ⟨a, hPk, ha, ha2, A, (c1.d W D1).keep W (fun i hi => hJ _ (by omega) (by omega)), W⟩
    · rw [if_neg h] at ht
      obtain ⟨x, x1, x2, x3, x4, x5, x6⟩ := hC.2.1 j t1 hj ht
      have hx := hd j x hj h x1
      exact ⟨x, by rw [hP40 j h]; exact x1, x2, by omega, x4.mv hg x3 hgk (fun y y1 y2 => hP y (by omega) (by omega)), x5.keep x6 (fun i hi => hJI _ (by omega) (by omega) (by omega) (by omega)), x6⟩
  · by_cases h1 : i = k
    · have h2 : j ≠ k := by omega
      rw [h1, hPk] at hx; cases hx
      rw [hP40 j h2] at hy
      have := hd j y hj h2 hy
      omega
    · rw [hP40 i h1] at hx
      by_cases h2 : j = k
      · rw [h2, hPk] at hy; cases hy
        have := hd i x hi h1 hx
        omega
      · rw [hP40 j h2] at hy
        exact hC.2.2 i j x y hi hj hij hx hy
  · rw [r3 97 (by decide)]
    by_cases h : j = k
    · rw [h, zU_s]; simp [zb]
    · rw [zU_k _ _ h, k1 97 (by omega), hI 97 (by omega), (hM j hj).1]; simp [h]
  · have ht : (if j = k then some t else im j) = some t1 := ht
    by_cases h : j = k
    · rw [if_pos h] at ht; cases ht
      subst h
      exact M.sh W (fun i hi => by rw [Nat.zero_add]; exact h96k i hi)
    · rw [if_neg h] at ht
      obtain ⟨x, -, -, -, -, -, x6⟩ := hC.2.1 j t1 hj ht
      exact ((hM j hj).2 t1 ht).keep2 x6 (fun i q1 q2 => h96 i (by omega))
  · rw [hJI 8 (by decide) (by decide) (by omega) (by omega), hJI 24 (by decide) (by decide) (by omega) (by omega)]; exact hB.1
  · by_cases h : j = k
    · rw [h, hPk] at hx; cases hx
      rw [hJ (a + 7) (by omega) (by omega), hJ (a + 23) (by omega) (by omega), show J1 (a + 7) 2 = I2 8 2 from c1.2.2.2.1.1.1 2 (by decide), show J1 (a + 23) 2 = I2 24 2 from c1.2.2.2.2.1.1 2 (by decide), hI 8 (by omega), hI 24 (by omega)]
      exact hB.1
    · rw [hP40 j h] at hx
      obtain ⟨_, _, g1, g2, _⟩ := hC.at hj hx
      have := hd j x hj h hx
      rw [hJI (x + 7) (by omega) (by omega) (by omega) (by omega), hJI (x + 23) (by omega) (by omega) (by omega) (by omega)]
      exact hB.2 j x hj hx
theorem b_image (L : LI g I P t im) (x1 : Int32) : ∃ (w : Int32) (h1 : zH) (J : Nat → Nat → Int32) (im' : Nat → Option TD), Cl mX11_image [.ref 0, .int x1] (g, I, P) (some (.int w)) h1 ∧ Cl mX12_image [.ref 95, .int x1] (h1.1, h1.2.1, h1.2.2) (some (.int w)) (h1.1, J, h1.2.2) ∧ LI h1.1 J h1.2.2 t im' := by
  have L0 := L
  obtain ⟨S, Q, W, D, M, hC, hM, hB⟩ := L
  have s114 := S.1
  by_cases h : ¬ x1 < 0 ∧ ¬ (2 : Int32) < x1
  · obtain ⟨k, -, hk, rfl⟩ := inN (lo := 0) (hi := 2) (by decide) (by decide) h.1 h.2
    have hk : k < 3 := by omega
    have e0 : (nI k).toNatClampNeg = k := nI_clamp (by omega)
    have v40 : vp_in (nI k) (g.2.2 40) := by rw [S.l 40 3 (by decide)]; exact vp_in_nI (by omega) (by decide)
    have lt40 : nI k < Int32.ofNat (g.2.2 40) := by rw [S.l 40 3 (by decide)]; exact nI_lt (b := 3) hk (by decide)
    cases hi : im k with
    | none =>
      have hp := hC.1 k hk hi
      obtain ⟨A, a1, a2, a3⟩ := sh_told (zNew (g, I, P) 9 0) g.1 zk_top rfl
      have b2 : ∀ x, x < g.1 → (iTold g.1 (zNew (g, I, P) 9 0)).1.2.1 x = g.2.1 x ∧ (iTold g.1 (zNew (g, I, P) 9 0)).1.2.2 x = g.2.2 x := fun x hx => by
        have f := (Fr.nw 0 (g, I, P) 9 0).2.1 x hx
        exact ⟨(a2 x hx).1.trans f.1, (a2 x hx).2.trans f.2⟩
      have b3 : ∀ x, x < g.1 → (iTold g.1 (zNew (g, I, P) 9 0)).2.1 x = I x ∧ (iTold g.1 (zNew (g, I, P) 9 0)).2.2 x = P x := fun x hx => by
        have f := (Fr.nw g.1 (g, I, P) 9 0).2.2 x hx (by omega)
        exact ⟨(a3 x hx).1.trans f.1, (a3 x hx).2.trans f.2⟩
      have hz : Cl mX9_init [.ref g.1] (zNew (g, I, P) 9 0) none (iTold g.1 (zNew (g, I, P) 9 0)) := i_told zk_top
      obtain ⟨h14, e14⟩ : ∃ h14, h14 = iTold g.1 (zNew (g, I, P) 9 0) := ⟨_, rfl⟩
      rw [← e14] at A a1 b2 b3 hz
      clear a2 a3 e14
      obtain ⟨J1, J, S2, Q2, z1, z2, L2⟩ := im_end (g2 := h14.1) (I2 := h14.2.1) (P2 := zU h14.2.2 40 k (some g.1)) (a := g.1) L0 hk (by omega) b2 (fun x hx => (b3 x hx).1) (fun x hx hn => by funext j; rw [zU_a _ _ hn, (b3 x hx).2]) (fun j hj => by rw [zU_k _ _ hj, (b3 40 (by omega)).2]) (zU_s _ _ _ _) s114 (by omega) (A.keep (fun j hj => by funext i; rw [zU_a _ _ (by omega)])) (fun j b hj hjk hb => by
        obtain ⟨_, _, _, y, _⟩ := hC.at hj hb
        omega)
      refine ⟨1, (h14.1, J1, zU h14.2.2 40 k (some g.1)), J, _, eX11_image (wX11_image_0 ⟨fun q => absurd q h.1, fun _ => ⟨S.k 0 11 (by decide), 40, Q.p 0 1 40 (by decide), S.k 40 19 (by decide), fun _ => ⟨S.k 0 11 (by decide), 40, Q.p 0 1 40 (by decide), S.k 40 19 (by decide), v40, ?_⟩, fun q => absurd lt40 q⟩⟩), z2, L2⟩
      rw [e0]
      refine ⟨fun _ => ?_, fun b q => by rw [hp] at q; cases q⟩
      rintro _ rfl
      refine ⟨h14, hz, S2.k 0 11 (by decide), 40, ?_, S2.k 40 19 (by decide), A.1, ?_, ?_⟩
      · rw [(b3 0 (by omega)).2]; exact Q.p 0 1 40 (by decide)
      · rw [(b2 40 (by omega)).2]; exact v40
      · rintro _ rfl
        exact ⟨S2.k 0 11 (by decide), 1, Q2.p 0 0 1 (by decide), A.1, J1, z1, rfl, rfl⟩
    | some t1 =>
      obtain ⟨a, hp, a1, a2, a3, a4, a5⟩ := hC.2.1 k t1 hk hi
      obtain ⟨J1, J, S2, Q2, z1, z2, L2⟩ := im_end (g2 := g) (I2 := I) (P2 := P) (a := a) L0 hk (Nat.le_refl _) (fun _ _ => ⟨rfl, rfl⟩) (fun _ _ => rfl) (fun _ _ _ => rfl) (fun _ _ => rfl) hp a1 a2 a3 (fun j b hj hjk hb => by
        have := hC.2.2 j k b a hj hk hjk hb hp
        omega)
      refine ⟨1, (g, J1, P), J, _, eX11_image (wX11_image_0 ⟨fun q => absurd q h.1, fun _ => ⟨S.k 0 11 (by decide), 40, Q.p 0 1 40 (by decide), S.k 40 19 (by decide), fun _ => ⟨S.k 0 11 (by decide), 40, Q.p 0 1 40 (by decide), S.k 40 19 (by decide), v40, ?_⟩, fun q => absurd lt40 q⟩⟩), z2, L2⟩
      rw [e0]
      refine ⟨fun q => (by rw [hp] at q; cases q), fun b q => ?_⟩
      rw [hp] at q; cases q
      exact ⟨S.k 0 11 (by decide), 1, Q.p 0 0 1 (by decide), a3.1, J1, z1, rfl, rfl⟩
  · refine ⟨0, (g, I, P), I, im, eX11_image (wX11_image_0 ⟨fun _ => ⟨rfl, rfl⟩, fun q => ⟨S.k 0 11 (by decide), 40, Q.p 0 1 40 (by decide), S.k 40 19 (by decide), fun q2 => ?_, fun _ => ⟨rfl, rfl⟩⟩⟩), eX12_image (wX12_image_0 ⟨_, r_isIn, fun q => ?_, fun _ => ⟨rfl, rfl⟩⟩), L0⟩
    · exfalso
      obtain ⟨j, hj, rfl⟩ := nI_of q
      rw [S.l 40 3 (by decide)] at q2
      have q2 : nI j < nI 3 := q2
      rw [nI_ltI hj (by decide)] at q2
      exact h ⟨q, nI_nlt (a := 2) (by omega) (by decide)⟩
    · rw [← ne_eq, zb_ne, decide_eq_true_eq] at q; exact absurd q h
end IMAGE
