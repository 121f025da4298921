/-! ===== Told's constructor; FrostReplies', the reference's ===== -/
/-- from h to h' nothing that was there has changed but the cell q; kinds and lengths stay; cells came -/
def Fr (q : Nat) (h h' : zH) : Prop := h.1.1 ≤ h'.1.1 ∧ (∀ x, x < h.1.1 → h'.1.2.1 x = h.1.2.1 x ∧ h'.1.2.2 x = h.1.2.2 x) ∧ ∀ x, x < h.1.1 → x ≠ q → h'.2.1 x = h.2.1 x ∧ h'.2.2 x = h.2.2 x
theorem Fr.rf (q : Nat) (h : zH) : Fr q h h := ⟨Nat.le_refl _, fun _ _ => ⟨rfl, rfl⟩, fun _ _ _ => ⟨rfl, rfl⟩⟩
theorem Fr.tr {q : Nat} {h h1 h2 : zH} (a : Fr q h h1) (b : Fr q h1 h2) : Fr q h h2 := by
  refine ⟨Nat.le_trans a.1 b.1, fun x hx => ?_, fun x hx hq => ?_⟩
  · have h1 := a.2.1 x hx
    have h2 := b.2.1 x (Nat.lt_of_lt_of_le hx a.1)
    exact ⟨h2.1.trans h1.1, h2.2.trans h1.2⟩
  · have h1 := a.2.2 x hx hq
    have h2 := b.2.2 x (Nat.lt_of_lt_of_le hx a.1) hq
    exact ⟨h2.1.trans h1.1, h2.2.trans h1.2⟩
theorem Fr.nw (q : Nat) (h : zH) (c n : Nat) : Fr q h (zNew h c n) := by
  refine ⟨by show h.1.1 ≤ h.1.1 + 1; omega, fun x hx => ?_, fun x hx _ => ?_⟩
  · have : ¬ x = h.1.1 := by omega
    simp [zNew, this]
  · have : ¬ x = h.1.1 := by omega
    exact ⟨by funext k; simp [zNew, this], by funext k; simp [zNew, this]⟩
theorem Fr.pp (q k j : Nat) (h : zH) : Fr q h (zPP q k j h) := ⟨Nat.le_refl _, fun _ _ => ⟨rfl, rfl⟩, fun x _ hq => ⟨rfl, by funext k'; exact zU_a h.2.2 _ hq⟩⟩
theorem Fr.pi (q k : Nat) (x : Int32) (h : zH) : Fr q h (zPI q k x h) := ⟨Nat.le_refl _, fun _ _ => ⟨rfl, rfl⟩, fun x _ hq => ⟨by funext k'; exact zU_a h.2.1 _ hq, rfl⟩⟩
theorem Fr.af (q k c n : Nat) (h : zH) : Fr q h (zAf q k c n h) := (Fr.nw q h c n).tr (Fr.pp q k h.1.1 (zNew h c n))
/-- a change of a new cell is none of an old one -/
theorem Fr.newer {q b : Nat} {h h1 h2 : zH} (a : Fr b h h1) (c : Fr q h1 h2) (hq : h.1.1 ≤ q) : Fr b h h2 := by
  refine ⟨Nat.le_trans a.1 c.1, fun x hx => ?_, fun x hx hb => ?_⟩
  · have h1 := a.2.1 x hx
    have h2 := c.2.1 x (Nat.lt_of_lt_of_le hx a.1)
    exact ⟨h2.1.trans h1.1, h2.2.trans h1.2⟩
  · have h1 := a.2.2 x hx hb
    have h2 := c.2.2 x (Nat.lt_of_lt_of_le hx a.1) (by omega)
    exact ⟨h2.1.trans h1.1, h2.2.trans h1.2⟩
theorem Fr.hill (q : Nat) (h : zH) : Fr q h (iHill q h) := ((((((Fr.pi q 0 2 h).tr (Fr.af q 4 13 10 _)).tr (Fr.af q 5 13 10 _)).tr (Fr.af q 6 13 10 _)).tr (Fr.af q 7 13 60 _)).tr (Fr.af q 8 13 6 _))
theorem Fr.cent (q : Nat) (h : zH) : Fr q h (iCent q h) := ((Fr.af q 1 13 40 h).tr (Fr.af q 2 13 40 _)).tr (Fr.af q 3 13 40 _)
theorem Fr.lins (q : Nat) (h : zH) : Fr q h (iLins q h) := (Fr.af q 1 13 6 h).tr (Fr.af q 2 13 72 _)
theorem Fr.log (q : Nat) (h : zH) : Fr q h (iLog q h) := (Fr.af q 1 13 8 h).tr (Fr.af q 2 13 8 _)
theorem Fr.it {b i c : Nat} {f : Nat → zH → zH} (hf : ∀ q h, Fr q h (f q h)) (h : zH) : Fr b h (zIt b i c f h) := ((Fr.nw b h c 0).newer (hf h.1.1 (zNew h c 0)) (Nat.le_refl _)).tr (Fr.pp b i h.1.1 _)
theorem zk_fr {q x k : Nat} {h h' : zH} (F : Fr q h h') (H : zk h.1 x k) : zk h'.1 x k := ⟨Nat.lt_of_lt_of_le H.1 F.1, (F.2.1 x H.1).1.trans H.2⟩
/-- what Told's constructor needs in its rounds -/
def TI (h : zH) (a t : Nat) : Prop := zk h.1 a 9 ∧ (a < t ∧ t + 4 ≤ h.1.1) ∧ (h.2.2 a 5 = some t ∧ h.2.2 a 6 = some (t + 1) ∧ h.2.2 a 7 = some (t + 2) ∧ h.2.2 a 8 = some (t + 3)) ∧ (zk h.1 t 16 ∧ zk h.1 (t + 1) 15 ∧ zk h.1 (t + 2) 17 ∧ zk h.1 (t + 3) 18) ∧ (h.1.2.2 t = 2 ∧ h.1.2.2 (t + 1) = 2 ∧ h.1.2.2 (t + 2) = 2 ∧ h.1.2.2 (t + 3) = 2)
theorem TI.fr {h h' : zH} {a t b : Nat} (T : TI h a t) (F : Fr b h h') (hb : b ≠ a) : TI h' a t := by
  obtain ⟨h1, h2, h3, h4, h5⟩ := T
  have hP : h'.2.2 a = h.2.2 a := (F.2.2 a (by omega) (fun e => hb e.symm)).2
  refine ⟨zk_fr F h1, ⟨h2.1, Nat.le_trans h2.2 F.1⟩, ?_, ⟨zk_fr F h4.1, zk_fr F h4.2.1, zk_fr F h4.2.2.1, zk_fr F h4.2.2.2⟩, ?_⟩
  · rw [hP]; exact h3
  · exact ⟨(F.2.1 t (by omega)).2.trans h5.1, (F.2.1 (t + 1) (by omega)).2.trans h5.2.1, (F.2.1 (t + 2) (by omega)).2.trans h5.2.2.1, (F.2.1 (t + 3) (by omega)).2.trans h5.2.2.2⟩
theorem Fr.half1 {t i : Nat} (h : zH) : Fr t h (zIt t i 3 iHill h) := Fr.it Fr.hill h
theorem i_half {h : zH} {a t i u v : Nat} {r : Option Value} {h' : zH} (hi : i < 2) (T : TI h a t) (hu : u + 16 ≤ 38) (hv : v + 329 ≤ 1270) (K : Zt none mX9_init (u + 16) (v + 329) 59 [(0, .ref a), (1, .int (nI (i + 1)))] [] (iHalf t i h) r h') : Zt none mX9_init u v 59 [(0, .ref a), (1, .int (nI i))] [] h r h' := by
  unfold iHalf at K
  obtain ⟨g, I, P⟩ := h
  have e0 : (nI i).toNatClampNeg = i := nI_clamp (by omega)
  have tne : ∀ j, t + j ≠ a := fun j => by have := T.2.1.1; omega
  have hin : ∀ {n : Nat}, n = 2 → vp_in (nI i) n := fun hn => by rw [hn]; exact vp_in_nI hi (by decide)
  refine wX9_init_59 ⟨fun q => absurd q (nI_ge (b := 2) hi (by decide)), fun _ => ?_⟩
  rw [e0]
  refine ⟨T.1, t, T.2.2.1.1, by omega, by omega, ?_⟩
  intro h1 e; subst e
  have F1 : Fr t (g, I, P) (iHill g.1 (zNew (g, I, P) 3 0)) := (Fr.nw t (g, I, P) 3 0).newer (Fr.hill g.1 _) (Nat.le_refl _)
  have T1 := T.fr F1 (tne 0)
  refine ⟨by omega, by omega, _, i_hill zk_top, T1.2.2.2.1.1, zk_fr (Fr.hill g.1 _) zk_top, hin T1.2.2.2.2.1, ?_⟩
  intro h2 e; obtain rfl : h2 = zIt t i 3 iHill (g, I, P) := e
  have T2 : TI (zIt t i 3 iHill (g, I, P)) a t := T.fr (Fr.it Fr.hill _) (tne 0)
  generalize zIt t i 3 iHill (g, I, P) = hh at T2 K ⊢
  refine ⟨T2.1, t + 1, T2.2.2.1.2.1, by omega, by omega, ?_⟩
  intro h3 e; subst e
  have F2 : Fr (t + 1) hh (iCent hh.1.1 (zNew hh 0 0)) := (Fr.nw (t + 1) hh 0 0).newer (Fr.cent hh.1.1 _) (Nat.le_refl _)
  have T3 := T2.fr F2 (tne 1)
  refine ⟨by omega, by omega, _, i_cent zk_top, T3.2.2.2.1.2.1, zk_fr (Fr.cent hh.1.1 _) zk_top, hin T3.2.2.2.2.2.1, ?_⟩
  intro h4 e; obtain rfl : h4 = zIt (t + 1) i 0 iCent hh := e
  have T4 : TI (zIt (t + 1) i 0 iCent hh) a t := T2.fr (Fr.it Fr.cent _) (tne 1)
  generalize zIt (t + 1) i 0 iCent hh = hk at T4 K ⊢
  refine ⟨T4.1, t + 2, T4.2.2.1.2.2.1, by omega, by omega, ?_⟩
  intro h5 e; subst e
  have F3 : Fr (t + 2) hk (iLins hk.1.1 (zNew hk 4 0)) := (Fr.nw (t + 2) hk 4 0).newer (Fr.lins hk.1.1 _) (Nat.le_refl _)
  have T5 := T4.fr F3 (tne 2)
  refine ⟨by omega, by omega, _, i_lins zk_top, T5.2.2.2.1.2.2.1, zk_fr (Fr.lins hk.1.1 _) zk_top, hin T5.2.2.2.2.2.2.1, ?_⟩
  intro h6 e; obtain rfl : h6 = zIt (t + 2) i 4 iLins hk := e
  have T6 : TI (zIt (t + 2) i 4 iLins hk) a t := T4.fr (Fr.it Fr.lins _) (tne 2)
  generalize zIt (t + 2) i 4 iLins hk = hl at T6 K ⊢
  refine ⟨T6.1, t + 3, T6.2.2.1.2.2.2, by omega, by omega, ?_⟩
  intro h7 e; subst e
  have F4 : Fr (t + 3) hl (iLog hl.1.1 (zNew hl 5 0)) := (Fr.nw (t + 3) hl 5 0).newer (Fr.log hl.1.1 _) (Nat.le_refl _)
  have T7 := T6.fr F4 (tne 3)
  refine ⟨by omega, by omega, _, i_log zk_top, T7.2.2.2.1.2.2.2, zk_fr (Fr.log hl.1.1 _) zk_top, hin T7.2.2.2.2.2.2.2, ?_⟩
  intro h8 e; obtain rfl : h8 = zIt (t + 3) i 5 iLog hl := e
  rw [nI_1]
  exact K
theorem TI.half {h : zH} {a t i : Nat} (T : TI h a t) : TI (iHalf t i h) a t := by
  have tne : ∀ j, t + j ≠ a := fun j => by have := T.2.1.1; omega
  exact (((T.fr (Fr.it (i := i) Fr.hill _) (tne 0)).fr (Fr.it (i := i) Fr.cent _) (tne 1)).fr (Fr.it (i := i) Fr.lins _) (tne 2)).fr (Fr.it (i := i) Fr.log _) (tne 3)
theorem TI.rows {h : zH} {a : Nat} (H : zk h.1 a 9) : TI (iRows a h) a (h.1.1 + 2) := by
  have hlt := H.1
  have n1 : ∀ j, ¬ a = h.1.1 + j := fun j => by omega
  have n2 : ¬ a = h.1.1 := by omega
  refine ⟨zk_rows H, ⟨by omega, by show h.1.1 + 2 + 4 ≤ h.1.1 + 1 + 1 + 1 + 1 + 1 + 1; omega⟩, ⟨?_, ?_, ?_, ?_⟩, ⟨⟨?_, ?_⟩, ⟨?_, ?_⟩, ⟨?_, ?_⟩, ⟨?_, ?_⟩⟩, ?_, ?_, ?_, ?_⟩ <;> simp [iRows, zAf, zPI, zNew, zU, n1, n2] <;> omega
theorem i_told {h : zH} {a : Nat} (H : zk h.1 a 9) : Cl mX9_init [.ref a] h none (iTold a h) := by
  have T0 := TI.rows H
  have K0 : Zt none mX9_init 6 612 59 [(0, .ref a), (1, .int (nI 0))] [] (iRows a h) none (iTold a h) := by
    refine i_half (by decide) T0 (by decide) (by decide) (i_half (by decide) T0.half (by decide) (by decide) ?_)
    exact wX9_init_59 ⟨fun _ => ⟨by decide, by decide, rfl, rfl⟩, fun q => absurd (Int32.le_refl _) q⟩
  obtain ⟨g, I, P⟩ := h
  refine eX9_init (wX9_init_0 ?_)
  intro h1 e; subst e
  have k1 : zk (zAf a 0 13 600 (g, I, P)).1 a 9 := zk_new H
  refine ⟨k1, ?_⟩
  intro h2 e; obtain rfl : h2 = zAf a 0 13 600 (g, I, P) := e
  refine ⟨k1, ?_⟩
  intro h3 e; obtain rfl : h3 = zPI a 3 (-1) (zAf a 0 13 600 (g, I, P)) := e
  intro h4 e; subst e
  have k2 : zk (zAf a 4 13 4 (zPI a 3 (-1) (zAf a 0 13 600 (g, I, P)))).1 a 9 := zk_new k1
  refine ⟨k2, ?_⟩
  intro h5 e; obtain rfl : h5 = zAf a 4 13 4 (zPI a 3 (-1) (zAf a 0 13 600 (g, I, P))) := e
  intro h6 e; subst e
  have k3 : zk (zAf a 5 16 2 (zAf a 4 13 4 (zPI a 3 (-1) (zAf a 0 13 600 (g, I, P))))).1 a 9 := zk_new k2
  refine ⟨k3, ?_⟩
  intro h7 e; obtain rfl : h7 = zAf a 5 16 2 (zAf a 4 13 4 (zPI a 3 (-1) (zAf a 0 13 600 (g, I, P)))) := e
  intro h8 e; subst e
  have k4 : zk (zAf a 6 15 2 (zAf a 5 16 2 (zAf a 4 13 4 (zPI a 3 (-1) (zAf a 0 13 600 (g, I, P)))))).1 a 9 := zk_new k3
  refine ⟨k4, ?_⟩
  intro h9 e; obtain rfl : h9 = zAf a 6 15 2 (zAf a 5 16 2 (zAf a 4 13 4 (zPI a 3 (-1) (zAf a 0 13 600 (g, I, P))))) := e
  intro h10 e; subst e
  have k5 : zk (zAf a 7 17 2 (zAf a 6 15 2 (zAf a 5 16 2 (zAf a 4 13 4 (zPI a 3 (-1) (zAf a 0 13 600 (g, I, P))))))).1 a 9 := zk_new k4
  refine ⟨k5, ?_⟩
  intro h11 e; obtain rfl : h11 = zAf a 7 17 2 (zAf a 6 15 2 (zAf a 5 16 2 (zAf a 4 13 4 (zPI a 3 (-1) (zAf a 0 13 600 (g, I, P)))))) := e
  intro h12 e; subst e
  refine ⟨zk_new k5, ?_⟩
  intro h13 e; obtain rfl : h13 = iRows a (g, I, P) := e
  exact K0
def iFR (a : Nat) (h : zH) : zH := zOb a 6 7 iRule (zOb a 5 10 iYard (zOb a 4 1 iEar (zOb a 3 2 iGrnd (zOb a 2 6 iRead (zAf a 1 19 3 (zOb a 0 9 iTold h))))))
theorem i_fr {h : zH} {a : Nat} (H : zk h.1 a 11) : Cl mX11_init [.ref a] h none (iFR a h) := by
  obtain ⟨g, I, P⟩ := h
  refine eX11_init (wX11_init_0 ?_)
  intro a1 e; subst e
  have k1 : zk (zOb a 0 9 iTold (g, I, P)).1 a 11 := zk_told (zk_new H)
  refine ⟨_, i_told zk_top, k1, ?_⟩
  intro b1 e; obtain rfl : b1 = zOb a 0 9 iTold (g, I, P) := e
  have K : ∀ h : zH, h = zOb a 0 9 iTold (g, I, P) → iFR a (g, I, P) = zOb a 6 7 iRule (zOb a 5 10 iYard (zOb a 4 1 iEar (zOb a 3 2 iGrnd (zOb a 2 6 iRead (zAf a 1 19 3 h))))) := fun h e => by rw [e]; rfl
  have K := K _ rfl
  rw [K]
  clear K
  generalize zOb a 0 9 iTold (g, I, P) = hh at k1 ⊢
  intro a2 e; subst e
  have k2 : zk (zAf a 1 19 3 hh).1 a 11 := zk_new k1
  refine ⟨k2, ?_⟩
  intro b2 e; obtain rfl : b2 = zAf a 1 19 3 hh := e
  generalize zAf a 1 19 3 hh = hi at k2 ⊢
  intro a3 e; subst e
  have k3 : zk (zOb a 2 6 iRead hi).1 a 11 := zk_read (zk_new k2)
  refine ⟨_, i_read zk_top, k3, ?_⟩
  intro b3 e; obtain rfl : b3 = zOb a 2 6 iRead hi := e
  generalize zOb a 2 6 iRead hi = hj at k3 ⊢
  intro a4 e; subst e
  have k4 : zk (zOb a 3 2 iGrnd hj).1 a 11 := zk_grnd (zk_new k3)
  refine ⟨_, i_grnd zk_top, k4, ?_⟩
  intro b4 e; obtain rfl : b4 = zOb a 3 2 iGrnd hj := e
  generalize zOb a 3 2 iGrnd hj = hk at k4 ⊢
  intro a5 e; subst e
  have k5 : zk (zOb a 4 1 iEar hk).1 a 11 := zk_ear (zk_new k4)
  refine ⟨_, i_ear zk_top, k5, ?_⟩
  intro b5 e; obtain rfl : b5 = zOb a 4 1 iEar hk := e
  generalize zOb a 4 1 iEar hk = hl at k5 ⊢
  intro a6 e; subst e
  have k6 : zk (zOb a 5 10 iYard hl).1 a 11 := zk_yard (zk_new k5)
  refine ⟨_, i_yard zk_top, k6, ?_⟩
  intro b6 e; obtain rfl : b6 = zOb a 5 10 iYard hl := e
  generalize zOb a 5 10 iYard hl = hm at k6 ⊢
  intro a7 e; subst e
  refine ⟨_, i_rule zk_top, zk_rule (zk_new k6), ?_⟩
  intro b7 e; obtain rfl : b7 = zOb a 6 7 iRule hm := e
  exact ⟨rfl, rfl⟩
