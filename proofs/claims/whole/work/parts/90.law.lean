/-! ===== the law's loop ===== -/
theorem lg_self (x : Int64) : lg_cmp x x = 0 := by
  unfold lg_cmp
  have h : ¬ x > x := Int64.lt_irrefl
  rw [if_neg h, if_pos rfl]
/-- what the loop hands on -/
def IHl (Ls : Nat) (xs : Nat → Int32) (i u v : Nat) : Prop := ∀ (u' v' : Nat) (g : zG) (I : Nat → Nat → Int32) (P : Nat → Nat → Option Nat) (t : TD) (im : Nat → Option TD), u' ≤ u + 39 → v' ≤ v + 1279 → LI g I P t im → ∃ h' : zH, Zt (some (Ls, xs)) mL_law u' v' 18 [(0, .retAddr 1000), (1, .ref 0), (2, .ref 95), (3, .int (nI i + 6))] [] (g, I, P) (some (.int 1)) h'
section LAWC
variable {g : zG} {I : Nat → Nat → Int32} {P : Nat → Nat → Option Nat} {t : TD} {im : Nat → Option TD} {Ls i u v : Nat} {xs : Nat → Int32}
theorem lw_v (hi : i + 6 ≤ Ls) (hL : Ls ≤ 3072) (j : Nat) (hj : j < 6) : vp_in (nI i + nI j) Ls := by
  rw [nI_add]
  exact vp_in_nI (by omega) (by omega)
theorem lw_x (hi : i + 6 ≤ Ls) (hL : Ls ≤ 3072) : ¬ Int32.ofNat Ls - 6 < nI i := by
  show ¬ nI Ls - nI 6 < nI i
  rw [pk_sub (by omega), nI_ltI (by omega) (by omega)]
  omega
theorem lc_0 (hL : Ls ≤ 3072) (hi : i + 6 ≤ Ls) (hu : u + 39 ≤ 600000) (hv : v + 1279 ≤ 7302250) (L : LI g I P t im) (IH : IHl Ls xs i u v) (hc : (xs (nI i).toNatClampNeg) &&& 63 = 0) : ∃ h' : zH, Zt (some (Ls, xs)) mL_law u v 18 [(0, .retAddr 1000), (1, .ref 0), (2, .ref 95), (3, .int (nI i))] [] (g, I, P) (some (.int 1)) h' := by
  have V := lw_v hi hL
  have x0 := lw_x hi hL
  have v0 : vp_in (nI i) Ls := vp_in_nI (by omega) (by omega)
  have k11 : zk g 0 11 := L.1.k 0 11 (by decide)
  have k12 : zk g 95 12 := L.1.k 95 12 (by decide)
  have u0 : u ≤ 600000 := by omega
  have w0 : v ≤ 7302250 := by omega
  obtain ⟨w, I1, J, t1, c1, c2, L1⟩ := b_feed L (xs (nI i + 1).toNatClampNeg) (xs (nI i + 2).toNatClampNeg) (xs (nI i + 3).toNatClampNeg) (xs (nI i + 4).toNatClampNeg) (xs (nI i + 5).toNatClampNeg)
  obtain ⟨h', Z⟩ := IH u v _ _ _ _ _ (Nat.le_add_right _ _) (Nat.le_add_right _ _) L1
  refine ⟨h', sw_0 x0 v0 hc ⟨V 1 (by decide), V 2 (by decide), V 3 (by decide), V 4 (by decide), V 5 (by decide), u0, w0, k11, w, I1, c1, V 1 (by decide), V 2 (by decide), V 3 (by decide), V 4 (by decide), V 5 (by decide), u0, w0, k12, w, J, c2, fun _ => Z, fun q => absurd rfl q⟩⟩
theorem lc_1 (hL : Ls ≤ 3072) (hi : i + 6 ≤ Ls) (hu : u + 39 ≤ 600000) (hv : v + 1279 ≤ 7302250) (L : LI g I P t im) (IH : IHl Ls xs i u v) (hc : (xs (nI i).toNatClampNeg) &&& 63 = 1) : ∃ h' : zH, Zt (some (Ls, xs)) mL_law u v 18 [(0, .retAddr 1000), (1, .ref 0), (2, .ref 95), (3, .int (nI i))] [] (g, I, P) (some (.int 1)) h' := by
  have V := lw_v hi hL
  have x0 := lw_x hi hL
  have v0 : vp_in (nI i) Ls := vp_in_nI (by omega) (by omega)
  have k11 : zk g 0 11 := L.1.k 0 11 (by decide)
  have k12 : zk g 95 12 := L.1.k 95 12 (by decide)
  have u0 : u ≤ 600000 := by omega
  have w0 : v ≤ 7302250 := by omega
  obtain ⟨w, I1, J, t1, c1, c2, L1⟩ := b_end L (xs (nI i + 1).toNatClampNeg)
  obtain ⟨h', Z⟩ := IH u v _ _ _ _ _ (Nat.le_add_right _ _) (Nat.le_add_right _ _) L1
  refine ⟨h', sw_1 x0 v0 hc ⟨V 1 (by decide), u0, w0, k11, w, I1, c1, V 1 (by decide), u0, w0, k12, w, J, c2, fun _ => Z, fun q => absurd rfl q⟩⟩
theorem lc_2 (hL : Ls ≤ 3072) (hi : i + 6 ≤ Ls) (hu : u + 39 ≤ 600000) (hv : v + 1279 ≤ 7302250) (L : LI g I P t im) (IH : IHl Ls xs i u v) (hc : (xs (nI i).toNatClampNeg) &&& 63 = 2) : ∃ h' : zH, Zt (some (Ls, xs)) mL_law u v 18 [(0, .retAddr 1000), (1, .ref 0), (2, .ref 95), (3, .int (nI i))] [] (g, I, P) (some (.int 1)) h' := by
  have V := lw_v hi hL
  have x0 := lw_x hi hL
  have v0 : vp_in (nI i) Ls := vp_in_nI (by omega) (by omega)
  have k11 : zk g 0 11 := L.1.k 0 11 (by decide)
  have k12 : zk g 95 12 := L.1.k 95 12 (by decide)
  have u0 : u ≤ 600000 := by omega
  have w0 : v ≤ 7302250 := by omega
  obtain ⟨w, I1, P1, J, t1, c1, c2, L1⟩ := b_text L (xs (nI i + 1).toNatClampNeg) (xs (nI i + 2).toNatClampNeg)
  obtain ⟨h', Z⟩ := IH u v _ _ _ _ _ (Nat.le_add_right _ _) (Nat.le_add_right _ _) L1
  refine ⟨h', sw_2 x0 v0 hc ⟨V 1 (by decide), V 2 (by decide), u0, w0, k11, w, I1, P1, c1, V 1 (by decide), V 2 (by decide), u0, w0, k12, w, J, c2, fun _ => Z, fun q => absurd rfl q⟩⟩
theorem lc_3 (hL : Ls ≤ 3072) (hi : i + 6 ≤ Ls) (hu : u + 39 ≤ 600000) (hv : v + 1279 ≤ 7302250) (L : LI g I P t im) (IH : IHl Ls xs i u v) (hc : (xs (nI i).toNatClampNeg) &&& 63 = 3) : ∃ h' : zH, Zt (some (Ls, xs)) mL_law u v 18 [(0, .retAddr 1000), (1, .ref 0), (2, .ref 95), (3, .int (nI i))] [] (g, I, P) (some (.int 1)) h' := by
  have V := lw_v hi hL
  have x0 := lw_x hi hL
  have v0 : vp_in (nI i) Ls := vp_in_nI (by omega) (by omega)
  have k11 : zk g 0 11 := L.1.k 0 11 (by decide)
  have k12 : zk g 95 12 := L.1.k 95 12 (by decide)
  have u0 : u ≤ 600000 := by omega
  have w0 : v ≤ 7302250 := by omega
  obtain ⟨w, c1, c2⟩ := b_fault L (xs (nI i + 1).toNatClampNeg)
  obtain ⟨h', Z⟩ := IH u v _ _ _ _ _ (Nat.le_add_right _ _) (Nat.le_add_right _ _) (L.keep (fun _ _ => rfl) (KpP.rf L.2.1))
  refine ⟨h', sw_3 x0 v0 hc ⟨V 1 (by decide), u0, w0, k11, w, c1, V 1 (by decide), u0, w0, k12, w, c2, fun _ => Z, fun q => absurd rfl q⟩⟩
theorem lc_4 (hL : Ls ≤ 3072) (hi : i + 6 ≤ Ls) (hu : u + 39 ≤ 600000) (hv : v + 1279 ≤ 7302250) (L : LI g I P t im) (IH : IHl Ls xs i u v) (hc : (xs (nI i).toNatClampNeg) &&& 63 = 4) : ∃ h' : zH, Zt (some (Ls, xs)) mL_law u v 18 [(0, .retAddr 1000), (1, .ref 0), (2, .ref 95), (3, .int (nI i))] [] (g, I, P) (some (.int 1)) h' := by
  have V := lw_v hi hL
  have x0 := lw_x hi hL
  have v0 : vp_in (nI i) Ls := vp_in_nI (by omega) (by omega)
  have k11 : zk g 0 11 := L.1.k 0 11 (by decide)
  have k12 : zk g 95 12 := L.1.k 95 12 (by decide)
  have u0 : u ≤ 600000 := by omega
  have w0 : v ≤ 7302250 := by omega
  obtain ⟨w, J, c1, c2, kJ⟩ := b_hill L (xs (nI i + 1).toNatClampNeg) (xs (nI i + 2).toNatClampNeg)
  obtain ⟨h', Z⟩ := IH u v _ _ _ _ _ (Nat.le_add_right _ _) (Nat.le_add_right _ _) (L.keep kJ.a (KpP.rf L.2.1))
  refine ⟨h', sw_4 x0 v0 hc ⟨V 1 (by decide), V 2 (by decide), u0, w0, k11, w, c1, V 1 (by decide), V 2 (by decide), u0, w0, k12, w, J, c2, fun _ => Z, fun q => absurd rfl q⟩⟩
theorem lc_5 (hL : Ls ≤ 3072) (hi : i + 6 ≤ Ls) (hu : u + 39 ≤ 600000) (hv : v + 1279 ≤ 7302250) (L : LI g I P t im) (IH : IHl Ls xs i u v) (hc : (xs (nI i).toNatClampNeg) &&& 63 = 5) : ∃ h' : zH, Zt (some (Ls, xs)) mL_law u v 18 [(0, .retAddr 1000), (1, .ref 0), (2, .ref 95), (3, .int (nI i))] [] (g, I, P) (some (.int 1)) h' := by
  have V := lw_v hi hL
  have x0 := lw_x hi hL
  have v0 : vp_in (nI i) Ls := vp_in_nI (by omega) (by omega)
  have k11 : zk g 0 11 := L.1.k 0 11 (by decide)
  have k12 : zk g 95 12 := L.1.k 95 12 (by decide)
  have u0 : u ≤ 600000 := by omega
  have w0 : v ≤ 7302250 := by omega
  obtain ⟨w, J, c1, c2, kJ⟩ := b_deed L (xs (nI i + 1).toNatClampNeg) (xs (nI i + 2).toNatClampNeg) (xs (nI i + 3).toNatClampNeg)
  obtain ⟨h', Z⟩ := IH u v _ _ _ _ _ (Nat.le_add_right _ _) (Nat.le_add_right _ _) (L.keep kJ.a (KpP.rf L.2.1))
  refine ⟨h', sw_5 x0 v0 hc ⟨V 1 (by decide), V 2 (by decide), V 3 (by decide), u0, w0, k11, w, c1, V 1 (by decide), V 2 (by decide), V 3 (by decide), u0, w0, k12, w, J, c2, fun _ => Z, fun q => absurd rfl q⟩⟩
theorem lc_6 (hL : Ls ≤ 3072) (hi : i + 6 ≤ Ls) (hu : u + 39 ≤ 600000) (hv : v + 1279 ≤ 7302250) (L : LI g I P t im) (IH : IHl Ls xs i u v) (hc : (xs (nI i).toNatClampNeg) &&& 63 = 6) : ∃ h' : zH, Zt (some (Ls, xs)) mL_law u v 18 [(0, .retAddr 1000), (1, .ref 0), (2, .ref 95), (3, .int (nI i))] [] (g, I, P) (some (.int 1)) h' := by
  have V := lw_v hi hL
  have x0 := lw_x hi hL
  have v0 : vp_in (nI i) Ls := vp_in_nI (by omega) (by omega)
  have k11 : zk g 0 11 := L.1.k 0 11 (by decide)
  have k12 : zk g 95 12 := L.1.k 95 12 (by decide)
  have u0 : u ≤ 600000 := by omega
  have w0 : v ≤ 7302250 := by omega
  obtain ⟨w, I1, P1, J, c1, kI, kP, c2, kJ⟩ := b_stop L (xs (nI i + 1).toNatClampNeg) (xs (nI i + 2).toNatClampNeg)
  obtain ⟨h', Z⟩ := IH u v _ _ _ _ _ (Nat.le_add_right _ _) (Nat.le_add_right _ _) (L.keep (fun a ha => (kJ.a a ha).trans (kI.a a ha)) kP)
  refine ⟨h', sw_6 x0 v0 hc ⟨V 1 (by decide), V 2 (by decide), u0, w0, k11, w, I1, P1, c1, V 1 (by decide), V 2 (by decide), u0, w0, k12, w, J, c2, fun _ => Z, fun q => absurd rfl q⟩⟩
theorem lc_7 (hL : Ls ≤ 3072) (hi : i + 6 ≤ Ls) (hu : u + 39 ≤ 600000) (hv : v + 1279 ≤ 7302250) (L : LI g I P t im) (IH : IHl Ls xs i u v) (hc : (xs (nI i).toNatClampNeg) &&& 63 = 7) : ∃ h' : zH, Zt (some (Ls, xs)) mL_law u v 18 [(0, .retAddr 1000), (1, .ref 0), (2, .ref 95), (3, .int (nI i))] [] (g, I, P) (some (.int 1)) h' := by
  have V := lw_v hi hL
  have x0 := lw_x hi hL
  have v0 : vp_in (nI i) Ls := vp_in_nI (by omega) (by omega)
  have k11 : zk g 0 11 := L.1.k 0 11 (by decide)
  have k12 : zk g 95 12 := L.1.k 95 12 (by decide)
  have u0 : u ≤ 600000 := by omega
  have w0 : v ≤ 7302250 := by omega
  obtain ⟨w, I1, P1, J, c1, kI, kP, c2, kJ⟩ := b_state L (xs (nI i + 1).toNatClampNeg) (xs (nI i + 2).toNatClampNeg) (xs (nI i + 3).toNatClampNeg) (xs (nI i + 4).toNatClampNeg)
  obtain ⟨h', Z⟩ := IH u v _ _ _ _ _ (Nat.le_add_right _ _) (Nat.le_add_right _ _) (L.keep (fun a ha => (kJ.a a ha).trans (kI.a a ha)) kP)
  refine ⟨h', sw_7 x0 v0 hc ⟨V 1 (by decide), V 2 (by decide), V 3 (by decide), V 4 (by decide), u0, w0, k11, w, I1, P1, c1, V 1 (by decide), V 2 (by decide), V 3 (by decide), V 4 (by decide), u0, w0, k12, w, J, c2, fun _ => Z, fun q => absurd rfl q⟩⟩
theorem lc_8 (hL : Ls ≤ 3072) (hi : i + 6 ≤ Ls) (hu : u + 39 ≤ 600000) (hv : v + 1279 ≤ 7302250) (L : LI g I P t im) (IH : IHl Ls xs i u v) (hc : (xs (nI i).toNatClampNeg) &&& 63 = 8) : ∃ h' : zH, Zt (some (Ls, xs)) mL_law u v 18 [(0, .retAddr 1000), (1, .ref 0), (2, .ref 95), (3, .int (nI i))] [] (g, I, P) (some (.int 1)) h' := by
  have V := lw_v hi hL
  have x0 := lw_x hi hL
  have v0 : vp_in (nI i) Ls := vp_in_nI (by omega) (by omega)
  have k11 : zk g 0 11 := L.1.k 0 11 (by decide)
  have k12 : zk g 95 12 := L.1.k 95 12 (by decide)
  have u0 : u ≤ 600000 := by omega
  have w0 : v ≤ 7302250 := by omega
  obtain ⟨w, J, c1, c2, kJ⟩ := b_line L (xs (nI i + 1).toNatClampNeg) (xs (nI i + 2).toNatClampNeg) (xs (nI i + 3).toNatClampNeg)
  obtain ⟨h', Z⟩ := IH u v _ _ _ _ _ (Nat.le_add_right _ _) (Nat.le_add_right _ _) (L.keep kJ.a (KpP.rf L.2.1))
  refine ⟨h', sw_8 x0 v0 hc ⟨V 1 (by decide), V 2 (by decide), V 3 (by decide), u0, w0, k11, w, c1, V 1 (by decide), V 2 (by decide), V 3 (by decide), u0, w0, k12, w, J, c2, fun _ => Z, fun q => absurd rfl q⟩⟩
theorem lc_9 (hL : Ls ≤ 3072) (hi : i + 6 ≤ Ls) (hu : u + 39 ≤ 600000) (hv : v + 1279 ≤ 7302250) (L : LI g I P t im) (IH : IHl Ls xs i u v) (hc : (xs (nI i).toNatClampNeg) &&& 63 = 9) : ∃ h' : zH, Zt (some (Ls, xs)) mL_law u v 18 [(0, .retAddr 1000), (1, .ref 0), (2, .ref 95), (3, .int (nI i))] [] (g, I, P) (some (.int 1)) h' := by
  have V := lw_v hi hL
  have x0 := lw_x hi hL
  have v0 : vp_in (nI i) Ls := vp_in_nI (by omega) (by omega)
  have k11 : zk g 0 11 := L.1.k 0 11 (by decide)
  have k12 : zk g 95 12 := L.1.k 95 12 (by decide)
  have u0 : u ≤ 600000 := by omega
  have w0 : v ≤ 7302250 := by omega
  obtain ⟨w, I1, P1, J, c1, kI, kP, c2, kJ⟩ := b_said L (xs (nI i + 1).toNatClampNeg) (xs (nI i + 2).toNatClampNeg) (xs (nI i + 3).toNatClampNeg) (xs (nI i + 4).toNatClampNeg)
  obtain ⟨h', Z⟩ := IH u v _ _ _ _ _ (Nat.le_add_right _ _) (Nat.le_add_right _ _) (L.keep (fun a ha => (kJ.a a ha).trans (kI.a a ha)) kP)
  refine ⟨h', sw_9 x0 v0 hc ⟨V 1 (by decide), V 2 (by decide), V 3 (by decide), V 4 (by decide), u0, w0, k11, w, I1, P1, c1, V 1 (by decide), V 2 (by decide), V 3 (by decide), V 4 (by decide), u0, w0, k12, w, J, c2, fun _ => Z, fun q => absurd rfl q⟩⟩
theorem lc_10 (hL : Ls ≤ 3072) (hi : i + 6 ≤ Ls) (hu : u + 39 ≤ 600000) (hv : v + 1279 ≤ 7302250) (L : LI g I P t im) (IH : IHl Ls xs i u v) (hc : (xs (nI i).toNatClampNeg) &&& 63 = 10) : ∃ h' : zH, Zt (some (Ls, xs)) mL_law u v 18 [(0, .retAddr 1000), (1, .ref 0), (2, .ref 95), (3, .int (nI i))] [] (g, I, P) (some (.int 1)) h' := by
  have V := lw_v hi hL
  have x0 := lw_x hi hL
  have v0 : vp_in (nI i) Ls := vp_in_nI (by omega) (by omega)
  have k11 : zk g 0 11 := L.1.k 0 11 (by decide)
  have k12 : zk g 95 12 := L.1.k 95 12 (by decide)
  have u0 : u ≤ 600000 := by omega
  have w0 : v ≤ 7302250 := by omega
  by_cases qy : xs (nI i + 5).toNatClampNeg = 0
  · obtain ⟨w, I1, P1, J, c1, kI, kP, c2, kJ⟩ := b_odds L (xs (nI i + 1).toNatClampNeg) (xs (nI i + 2).toNatClampNeg) (xs (nI i + 3).toNatClampNeg) (xs (nI i + 4).toNatClampNeg) 0
    obtain ⟨h', Z⟩ := IH u v _ _ _ _ _ (Nat.le_add_right _ _) (Nat.le_add_right _ _) (L.keep (fun a ha => (kJ.a a ha).trans (kI.a a ha)) kP)
    exact ⟨h', sw_10 x0 v0 hc ⟨V 1 (by decide), V 2 (by decide), V 3 (by decide), V 4 (by decide), V 5 (by decide), fun _ => wL_law_618 ⟨u0, w0, k11, w, I1, P1, c1, V 1 (by decide), V 2 (by decide), V 3 (by decide), V 4 (by decide), V 5 (by decide), fun _ => ⟨u0, w0, k12, w, J, c2, fun _ => Z, fun q => absurd (lg_self _) q⟩, fun q => absurd qy q⟩, fun q => absurd qy q⟩⟩
  · obtain ⟨w, I1, P1, J, c1, kI, kP, c2, kJ⟩ := b_odds L (xs (nI i + 1).toNatClampNeg) (xs (nI i + 2).toNatClampNeg) (xs (nI i + 3).toNatClampNeg) (xs (nI i + 4).toNatClampNeg) 1
    obtain ⟨h', Z⟩ := IH u v _ _ _ _ _ (Nat.le_add_right _ _) (Nat.le_add_right _ _) (L.keep (fun a ha => (kJ.a a ha).trans (kI.a a ha)) kP)
    exact ⟨h', sw_10 x0 v0 hc ⟨V 1 (by decide), V 2 (by decide), V 3 (by decide), V 4 (by decide), V 5 (by decide), fun q => absurd q qy, fun _ => wL_law_618 ⟨u0, w0, k11, w, I1, P1, c1, V 1 (by decide), V 2 (by decide), V 3 (by decide), V 4 (by decide), V 5 (by decide), fun q => absurd q qy, fun _ => ⟨u0, w0, k12, w, J, c2, fun _ => Z, fun q => absurd (lg_self _) q⟩⟩⟩⟩
theorem lc_11 (hL : Ls ≤ 3072) (hi : i + 6 ≤ Ls) (hu : u + 39 ≤ 600000) (hv : v + 1279 ≤ 7302250) (L : LI g I P t im) (IH : IHl Ls xs i u v) (hc : (xs (nI i).toNatClampNeg) &&& 63 = 11) : ∃ h' : zH, Zt (some (Ls, xs)) mL_law u v 18 [(0, .retAddr 1000), (1, .ref 0), (2, .ref 95), (3, .int (nI i))] [] (g, I, P) (some (.int 1)) h' := by
  have V := lw_v hi hL
  have x0 := lw_x hi hL
  have v0 : vp_in (nI i) Ls := vp_in_nI (by omega) (by omega)
  have k11 : zk g 0 11 := L.1.k 0 11 (by decide)
  have k12 : zk g 95 12 := L.1.k 95 12 (by decide)
  have u0 : u ≤ 600000 := by omega
  have w0 : v ≤ 7302250 := by omega
  by_cases qy : xs (nI i + 4).toNatClampNeg = 0
  · obtain ⟨w, I1, P1, J, c1, kI, kP, c2, kJ⟩ := b_sure L (xs (nI i + 1).toNatClampNeg) (xs (nI i + 2).toNatClampNeg) (xs (nI i + 3).toNatClampNeg) 0
    obtain ⟨h', Z⟩ := IH u v _ _ _ _ _ (Nat.le_add_right _ _) (Nat.le_add_right _ _) (L.keep (fun a ha => (kJ.a a ha).trans (kI.a a ha)) kP)
    exact ⟨h', sw_11 x0 v0 hc ⟨V 1 (by decide), V 2 (by decide), V 3 (by decide), V 4 (by decide), fun _ => wL_law_693 ⟨u0, w0, k11, w, I1, P1, c1, V 1 (by decide), V 2 (by decide), V 3 (by decide), V 4 (by decide), fun _ => ⟨u0, w0, k12, w, J, c2, fun _ => Z, fun q => absurd (lg_self _) q⟩, fun q => absurd qy q⟩, fun q => absurd qy q⟩⟩
  · obtain ⟨w, I1, P1, J, c1, kI, kP, c2, kJ⟩ := b_sure L (xs (nI i + 1).toNatClampNeg) (xs (nI i + 2).toNatClampNeg) (xs (nI i + 3).toNatClampNeg) 1
    obtain ⟨h', Z⟩ := IH u v _ _ _ _ _ (Nat.le_add_right _ _) (Nat.le_add_right _ _) (L.keep (fun a ha => (kJ.a a ha).trans (kI.a a ha)) kP)
    exact ⟨h', sw_11 x0 v0 hc ⟨V 1 (by decide), V 2 (by decide), V 3 (by decide), V 4 (by decide), fun q => absurd q qy, fun _ => wL_law_693 ⟨u0, w0, k11, w, I1, P1, c1, V 1 (by decide), V 2 (by decide), V 3 (by decide), V 4 (by decide), fun q => absurd q qy, fun _ => ⟨u0, w0, k12, w, J, c2, fun _ => Z, fun q => absurd (lg_self _) q⟩⟩⟩⟩
theorem lc_12 (hL : Ls ≤ 3072) (hi : i + 6 ≤ Ls) (hu : u + 39 ≤ 600000) (hv : v + 1279 ≤ 7302250) (L : LI g I P t im) (IH : IHl Ls xs i u v) (hc : (xs (nI i).toNatClampNeg) &&& 63 = 12) : ∃ h' : zH, Zt (some (Ls, xs)) mL_law u v 18 [(0, .retAddr 1000), (1, .ref 0), (2, .ref 95), (3, .int (nI i))] [] (g, I, P) (some (.int 1)) h' := by
  have V := lw_v hi hL
  have x0 := lw_x hi hL
  have v0 : vp_in (nI i) Ls := vp_in_nI (by omega) (by omega)
  have k11 : zk g 0 11 := L.1.k 0 11 (by decide)
  have k12 : zk g 95 12 := L.1.k 95 12 (by decide)
  have u0 : u ≤ 600000 := by omega
  have w0 : v ≤ 7302250 := by omega
  obtain ⟨w, I1, P1, J, c1, kI, kP, c2, kJ⟩ := b_reading L (xs (nI i + 1).toNatClampNeg) (xs (nI i + 2).toNatClampNeg) (xs (nI i + 3).toNatClampNeg) (xs (nI i + 4).toNatClampNeg)
  obtain ⟨h', Z⟩ := IH u v _ _ _ _ _ (Nat.le_add_right _ _) (Nat.le_add_right _ _) (L.keep (fun a ha => (kJ.a a ha).trans (kI.a a ha)) kP)
  refine ⟨h', sw_12 x0 v0 hc ⟨V 1 (by decide), V 2 (by decide), V 3 (by decide), V 4 (by decide), u0, w0, k11, w, I1, P1, c1, V 1 (by decide), V 2 (by decide), V 3 (by decide), V 4 (by decide), u0, w0, k12, w, J, c2, fun _ => Z, fun q => absurd rfl q⟩⟩
theorem lc_13 (hL : Ls ≤ 3072) (hi : i + 6 ≤ Ls) (hu : u + 39 ≤ 600000) (hv : v + 1279 ≤ 7302250) (L : LI g I P t im) (IH : IHl Ls xs i u v) (hc : (xs (nI i).toNatClampNeg) &&& 63 = 13) : ∃ h' : zH, Zt (some (Ls, xs)) mL_law u v 18 [(0, .retAddr 1000), (1, .ref 0), (2, .ref 95), (3, .int (nI i))] [] (g, I, P) (some (.int 1)) h' := by
  have V := lw_v hi hL
  have x0 := lw_x hi hL
  have v0 : vp_in (nI i) Ls := vp_in_nI (by omega) (by omega)
  have k11 : zk g 0 11 := L.1.k 0 11 (by decide)
  have k12 : zk g 95 12 := L.1.k 95 12 (by decide)
  have u0 : u ≤ 600000 := by omega
  have w0 : v ≤ 7302250 := by omega
  obtain ⟨w, I1, P1, J, c1, kI, kP, c2, kJ⟩ := b_slips L (xs (nI i + 1).toNatClampNeg) (xs (nI i + 2).toNatClampNeg) (xs (nI i + 3).toNatClampNeg) (xs (nI i + 4).toNatClampNeg)
  obtain ⟨h', Z⟩ := IH u v _ _ _ _ _ (Nat.le_add_right _ _) (Nat.le_add_right _ _) (L.keep (fun a ha => (kJ.a a ha).trans (kI.a a ha)) kP)
  refine ⟨h', sw_13 x0 v0 hc ⟨V 1 (by decide), V 2 (by decide), V 3 (by decide), V 4 (by decide), u0, w0, k11, w, I1, P1, c1, V 1 (by decide), V 2 (by decide), V 3 (by decide), V 4 (by decide), u0, w0, k12, w, J, c2, fun _ => Z, fun q => absurd rfl q⟩⟩
theorem lc_14 (hL : Ls ≤ 3072) (hi : i + 6 ≤ Ls) (hu : u + 39 ≤ 600000) (hv : v + 1279 ≤ 7302250) (L : LI g I P t im) (IH : IHl Ls xs i u v) (hc : (xs (nI i).toNatClampNeg) &&& 63 = 14) : ∃ h' : zH, Zt (some (Ls, xs)) mL_law u v 18 [(0, .retAddr 1000), (1, .ref 0), (2, .ref 95), (3, .int (nI i))] [] (g, I, P) (some (.int 1)) h' := by
  have V := lw_v hi hL
  have x0 := lw_x hi hL
  have v0 : vp_in (nI i) Ls := vp_in_nI (by omega) (by omega)
  have k11 : zk g 0 11 := L.1.k 0 11 (by decide)
  have k12 : zk g 95 12 := L.1.k 95 12 (by decide)
  have u0 : u ≤ 600000 := by omega
  have w0 : v ≤ 7302250 := by omega
  by_cases qy : xs (nI i + 3).toNatClampNeg = 0
  · obtain ⟨w, J, c1, c2, kJ⟩ := b_asked L (xs (nI i + 1).toNatClampNeg) (xs (nI i + 2).toNatClampNeg) 0
    obtain ⟨h', Z⟩ := IH u v _ _ _ _ _ (Nat.le_add_right _ _) (Nat.le_add_right _ _) (L.keep kJ.a (KpP.rf L.2.1))
    exact ⟨h', sw_14 x0 v0 hc ⟨V 1 (by decide), V 2 (by decide), V 3 (by decide), fun _ => wL_law_864 ⟨u0, w0, k11, w, c1, V 1 (by decide), V 2 (by decide), V 3 (by decide), fun _ => ⟨u0, w0, k12, w, J, c2, fun _ => Z, fun q => absurd (lg_self _) q⟩, fun q => absurd qy q⟩, fun q => absurd qy q⟩⟩
  · obtain ⟨w, J, c1, c2, kJ⟩ := b_asked L (xs (nI i + 1).toNatClampNeg) (xs (nI i + 2).toNatClampNeg) 1
    obtain ⟨h', Z⟩ := IH u v _ _ _ _ _ (Nat.le_add_right _ _) (Nat.le_add_right _ _) (L.keep kJ.a (KpP.rf L.2.1))
    exact ⟨h', sw_14 x0 v0 hc ⟨V 1 (by decide), V 2 (by decide), V 3 (by decide), fun q => absurd q qy, fun _ => wL_law_864 ⟨u0, w0, k11, w, c1, V 1 (by decide), V 2 (by decide), V 3 (by decide), fun q => absurd q qy, fun _ => ⟨u0, w0, k12, w, J, c2, fun _ => Z, fun q => absurd (lg_self _) q⟩⟩⟩⟩
theorem lc_15 (hL : Ls ≤ 3072) (hi : i + 6 ≤ Ls) (hu : u + 39 ≤ 600000) (hv : v + 1279 ≤ 7302250) (L : LI g I P t im) (IH : IHl Ls xs i u v) (hc : (xs (nI i).toNatClampNeg) &&& 63 = 15) : ∃ h' : zH, Zt (some (Ls, xs)) mL_law u v 18 [(0, .retAddr 1000), (1, .ref 0), (2, .ref 95), (3, .int (nI i))] [] (g, I, P) (some (.int 1)) h' := by
  have V := lw_v hi hL
  have x0 := lw_x hi hL
  have v0 : vp_in (nI i) Ls := vp_in_nI (by omega) (by omega)
  have k11 : zk g 0 11 := L.1.k 0 11 (by decide)
  have k12 : zk g 95 12 := L.1.k 95 12 (by decide)
  have u0 : u ≤ 600000 := by omega
  have w0 : v ≤ 7302250 := by omega
  obtain ⟨w, J, c1, c2, kJ⟩ := b_soonest L (xs (nI i + 1).toNatClampNeg)
  obtain ⟨h', Z⟩ := IH u v _ _ _ _ _ (Nat.le_add_right _ _) (Nat.le_add_right _ _) (L.keep kJ.a (KpP.rf L.2.1))
  refine ⟨h', sw_15 x0 v0 hc ⟨V 1 (by decide), u0, w0, k11, w, c1, V 1 (by decide), u0, w0, k12, w, J, c2, fun _ => Z, fun q => absurd rfl q⟩⟩
theorem lc_16 (hL : Ls ≤ 3072) (hi : i + 6 ≤ Ls) (hu : u + 39 ≤ 600000) (hv : v + 1279 ≤ 7302250) (L : LI g I P t im) (IH : IHl Ls xs i u v) (hc : (xs (nI i).toNatClampNeg) &&& 63 = 16) : ∃ h' : zH, Zt (some (Ls, xs)) mL_law u v 18 [(0, .retAddr 1000), (1, .ref 0), (2, .ref 95), (3, .int (nI i))] [] (g, I, P) (some (.int 1)) h' := by
  have V := lw_v hi hL
  have x0 := lw_x hi hL
  have v0 : vp_in (nI i) Ls := vp_in_nI (by omega) (by omega)
  have k11 : zk g 0 11 := L.1.k 0 11 (by decide)
  have k12 : zk g 95 12 := L.1.k 95 12 (by decide)
  have u0 : u ≤ 600000 := by omega
  have w0 : v ≤ 7302250 := by omega
  obtain ⟨w, I1, J, c1, kI, c2, kJ⟩ := b_sentences L (xs (nI i + 1).toNatClampNeg) (xs (nI i + 2).toNatClampNeg)
  obtain ⟨h', Z⟩ := IH u v _ _ _ _ _ (Nat.le_add_right _ _) (Nat.le_add_right _ _) (L.keep (fun a ha => (kJ.a a ha).trans (kI.a a ha)) (KpP.rf L.2.1))
  refine ⟨h', sw_16 x0 v0 hc ⟨V 1 (by decide), V 2 (by decide), u0, w0, k11, w, I1, c1, V 1 (by decide), V 2 (by decide), u0, w0, k12, w, J, c2, fun _ => Z, fun q => absurd rfl q⟩⟩
theorem lc_17 (hL : Ls ≤ 3072) (hi : i + 6 ≤ Ls) (hu : u + 39 ≤ 600000) (hv : v + 1279 ≤ 7302250) (L : LI g I P t im) (IH : IHl Ls xs i u v) (hc : (xs (nI i).toNatClampNeg) &&& 63 = 17) : ∃ h' : zH, Zt (some (Ls, xs)) mL_law u v 18 [(0, .retAddr 1000), (1, .ref 0), (2, .ref 95), (3, .int (nI i))] [] (g, I, P) (some (.int 1)) h' := by
  have V := lw_v hi hL
  have x0 := lw_x hi hL
  have v0 : vp_in (nI i) Ls := vp_in_nI (by omega) (by omega)
  have k11 : zk g 0 11 := L.1.k 0 11 (by decide)
  have k12 : zk g 95 12 := L.1.k 95 12 (by decide)
  have u0 : u ≤ 600000 := by omega
  have w0 : v ≤ 7302250 := by omega
  obtain ⟨w, I1, J, c1, kI, c2, kJ⟩ := b_twice L (xs (nI i + 1).toNatClampNeg)
  obtain ⟨h', Z⟩ := IH u v _ _ _ _ _ (Nat.le_add_right _ _) (Nat.le_add_right _ _) (L.keep (fun a ha => (kJ.a a ha).trans (kI.a a ha)) (KpP.rf L.2.1))
  refine ⟨h', sw_17 x0 v0 hc ⟨V 1 (by decide), u0, w0, k11, w, I1, c1, V 1 (by decide), u0, w0, k12, w, J, c2, fun _ => Z, fun q => absurd rfl q⟩⟩
theorem lc_18 (hL : Ls ≤ 3072) (hi : i + 6 ≤ Ls) (hu : u + 39 ≤ 600000) (hv : v + 1279 ≤ 7302250) (L : LI g I P t im) (IH : IHl Ls xs i u v) (hc : (xs (nI i).toNatClampNeg) &&& 63 = 18) : ∃ h' : zH, Zt (some (Ls, xs)) mL_law u v 18 [(0, .retAddr 1000), (1, .ref 0), (2, .ref 95), (3, .int (nI i))] [] (g, I, P) (some (.int 1)) h' := by
  have V := lw_v hi hL
  have x0 := lw_x hi hL
  have v0 : vp_in (nI i) Ls := vp_in_nI (by omega) (by omega)
  have k11 : zk g 0 11 := L.1.k 0 11 (by decide)
  have k12 : zk g 95 12 := L.1.k 95 12 (by decide)
  have u0 : u ≤ 600000 := by omega
  have w0 : v ≤ 7302250 := by omega
  by_cases qy : xs (nI i + 2).toNatClampNeg = 0
  · obtain ⟨w, J, c1, c2, kJ⟩ := b_ghost L (xs (nI i + 1).toNatClampNeg) 0
    obtain ⟨h', Z⟩ := IH u v _ _ _ _ _ (Nat.le_add_right _ _) (Nat.le_add_right _ _) (L.keep kJ.a (KpP.rf L.2.1))
    exact ⟨h', sw_18 x0 v0 hc ⟨V 1 (by decide), V 2 (by decide), fun _ => wL_law_998 ⟨u0, w0, k11, w, c1, V 1 (by decide), V 2 (by decide), fun _ => ⟨u0, w0, k12, w, J, c2, fun _ => Z, fun q => absurd rfl q⟩, fun q => absurd qy q⟩, fun q => absurd qy q⟩⟩
  · obtain ⟨w, J, c1, c2, kJ⟩ := b_ghost L (xs (nI i + 1).toNatClampNeg) 1
    obtain ⟨h', Z⟩ := IH u v _ _ _ _ _ (Nat.le_add_right _ _) (Nat.le_add_right _ _) (L.keep kJ.a (KpP.rf L.2.1))
    exact ⟨h', sw_18 x0 v0 hc ⟨V 1 (by decide), V 2 (by decide), fun q => absurd q qy, fun _ => wL_law_998 ⟨u0, w0, k11, w, c1, V 1 (by decide), V 2 (by decide), fun q => absurd q qy, fun _ => ⟨u0, w0, k12, w, J, c2, fun _ => Z, fun q => absurd rfl q⟩⟩⟩⟩
theorem lc_19 (hL : Ls ≤ 3072) (hi : i + 6 ≤ Ls) (hu : u + 39 ≤ 600000) (hv : v + 1279 ≤ 7302250) (L : LI g I P t im) (IH : IHl Ls xs i u v) (hc : (xs (nI i).toNatClampNeg) &&& 63 = 19) : ∃ h' : zH, Zt (some (Ls, xs)) mL_law u v 18 [(0, .retAddr 1000), (1, .ref 0), (2, .ref 95), (3, .int (nI i))] [] (g, I, P) (some (.int 1)) h' := by
  have V := lw_v hi hL
  have x0 := lw_x hi hL
  have v0 : vp_in (nI i) Ls := vp_in_nI (by omega) (by omega)
  have k11 : zk g 0 11 := L.1.k 0 11 (by decide)
  have k12 : zk g 95 12 := L.1.k 95 12 (by decide)
  have u0 : u ≤ 600000 := by omega
  have w0 : v ≤ 7302250 := by omega
  obtain ⟨w, J, c1, c2, kJ⟩ := b_fact L (xs (nI i + 1).toNatClampNeg) (xs (nI i + 2).toNatClampNeg) (xs (nI i + 3).toNatClampNeg)
  obtain ⟨h', Z⟩ := IH u v _ _ _ _ _ (Nat.le_add_right _ _) (Nat.le_add_right _ _) (L.keep kJ.a (KpP.rf L.2.1))
  refine ⟨h', sw_19 x0 v0 hc ⟨V 1 (by decide), V 2 (by decide), V 3 (by decide), u0, w0, k11, w, c1, V 1 (by decide), V 2 (by decide), V 3 (by decide), u0, w0, k12, w, J, c2, fun _ => Z, fun q => absurd rfl q⟩⟩
theorem lc_20 (hL : Ls ≤ 3072) (hi : i + 6 ≤ Ls) (hu : u + 39 ≤ 600000) (hv : v + 1279 ≤ 7302250) (L : LI g I P t im) (IH : IHl Ls xs i u v) (hc : (xs (nI i).toNatClampNeg) &&& 63 = 20) : ∃ h' : zH, Zt (some (Ls, xs)) mL_law u v 18 [(0, .retAddr 1000), (1, .ref 0), (2, .ref 95), (3, .int (nI i))] [] (g, I, P) (some (.int 1)) h' := by
  have V := lw_v hi hL
  have x0 := lw_x hi hL
  have v0 : vp_in (nI i) Ls := vp_in_nI (by omega) (by omega)
  have k11 : zk g 0 11 := L.1.k 0 11 (by decide)
  have k12 : zk g 95 12 := L.1.k 95 12 (by decide)
  have u0 : u ≤ 600000 := by omega
  have w0 : v ≤ 7302250 := by omega
  obtain ⟨w, I1, P1, J, c1, kI, kP, c2, kJ⟩ := b_forged L (xs (nI i + 1).toNatClampNeg) (xs (nI i + 2).toNatClampNeg)
  obtain ⟨h', Z⟩ := IH u v _ _ _ _ _ (Nat.le_add_right _ _) (Nat.le_add_right _ _) (L.keep (fun a ha => (kJ.a a ha).trans (kI.a a ha)) kP)
  refine ⟨h', sw_20 x0 v0 hc ⟨V 1 (by decide), V 2 (by decide), u0, w0, k11, w, I1, P1, c1, V 1 (by decide), V 2 (by decide), u0, w0, k12, w, J, c2, fun _ => Z, fun q => absurd rfl q⟩⟩
theorem lc_21 (hL : Ls ≤ 3072) (hi : i + 6 ≤ Ls) (hu : u + 39 ≤ 600000) (hv : v + 1279 ≤ 7302250) (L : LI g I P t im) (IH : IHl Ls xs i u v) (hc : (xs (nI i).toNatClampNeg) &&& 63 = 21) : ∃ h' : zH, Zt (some (Ls, xs)) mL_law u v 18 [(0, .retAddr 1000), (1, .ref 0), (2, .ref 95), (3, .int (nI i))] [] (g, I, P) (some (.int 1)) h' := by
  have V := lw_v hi hL
  have x0 := lw_x hi hL
  have v0 : vp_in (nI i) Ls := vp_in_nI (by omega) (by omega)
  have k11 : zk g 0 11 := L.1.k 0 11 (by decide)
  have k12 : zk g 95 12 := L.1.k 95 12 (by decide)
  have u0 : u ≤ 600000 := by omega
  have w0 : v ≤ 7302250 := by omega
  by_cases qy : xs (nI i + 4).toNatClampNeg = 0
  · obtain ⟨w, c1, c2⟩ := b_chance L (xs (nI i + 1).toNatClampNeg) (xs (nI i + 2).toNatClampNeg) (xs (nI i + 3).toNatClampNeg) 0
    obtain ⟨h', Z⟩ := IH u v _ _ _ _ _ (Nat.le_add_right _ _) (Nat.le_add_right _ _) (L.keep (fun _ _ => rfl) (KpP.rf L.2.1))
    exact ⟨h', sw_21 x0 v0 hc ⟨V 1 (by decide), V 2 (by decide), V 3 (by decide), V 4 (by decide), fun _ => wL_law_1133 ⟨u0, w0, k11, w, c1, V 1 (by decide), V 2 (by decide), V 3 (by decide), V 4 (by decide), fun _ => ⟨u0, w0, k12, w, c2, fun _ => Z, fun q => absurd (lg_self _) q⟩, fun q => absurd qy q⟩, fun q => absurd qy q⟩⟩
  · obtain ⟨w, c1, c2⟩ := b_chance L (xs (nI i + 1).toNatClampNeg) (xs (nI i + 2).toNatClampNeg) (xs (nI i + 3).toNatClampNeg) 1
    obtain ⟨h', Z⟩ := IH u v _ _ _ _ _ (Nat.le_add_right _ _) (Nat.le_add_right _ _) (L.keep (fun _ _ => rfl) (KpP.rf L.2.1))
    exact ⟨h', sw_21 x0 v0 hc ⟨V 1 (by decide), V 2 (by decide), V 3 (by decide), V 4 (by decide), fun q => absurd q qy, fun _ => wL_law_1133 ⟨u0, w0, k11, w, c1, V 1 (by decide), V 2 (by decide), V 3 (by decide), V 4 (by decide), fun q => absurd q qy, fun _ => ⟨u0, w0, k12, w, c2, fun _ => Z, fun q => absurd (lg_self _) q⟩⟩⟩⟩
theorem lc_22 (hL : Ls ≤ 3072) (hi : i + 6 ≤ Ls) (hu : u + 39 ≤ 600000) (hv : v + 1279 ≤ 7302250) (L : LI g I P t im) (IH : IHl Ls xs i u v) (hc : (xs (nI i).toNatClampNeg) &&& 63 = 22) : ∃ h' : zH, Zt (some (Ls, xs)) mL_law u v 18 [(0, .retAddr 1000), (1, .ref 0), (2, .ref 95), (3, .int (nI i))] [] (g, I, P) (some (.int 1)) h' := by
  have V := lw_v hi hL
  have x0 := lw_x hi hL
  have v0 : vp_in (nI i) Ls := vp_in_nI (by omega) (by omega)
  have k11 : zk g 0 11 := L.1.k 0 11 (by decide)
  have k12 : zk g 95 12 := L.1.k 95 12 (by decide)
  have u0 : u ≤ 600000 := by omega
  have w0 : v ≤ 7302250 := by omega
  obtain ⟨w, I1, P1, J, c1, kI, kP, c2, kJ⟩ := b_drawn L (xs (nI i + 1).toNatClampNeg) (xs (nI i + 2).toNatClampNeg) (xs (nI i + 3).toNatClampNeg) (xs (nI i + 4).toNatClampNeg)
  obtain ⟨h', Z⟩ := IH u v _ _ _ _ _ (Nat.le_add_right _ _) (Nat.le_add_right _ _) (L.keep (fun a ha => (kJ.a a ha).trans (kI.a a ha)) kP)
  refine ⟨h', sw_22 x0 v0 hc ⟨V 1 (by decide), V 2 (by decide), V 3 (by decide), V 4 (by decide), u0, w0, k11, w, I1, P1, c1, V 1 (by decide), V 2 (by decide), V 3 (by decide), V 4 (by decide), u0, w0, k12, w, J, c2, fun _ => Z, fun q => absurd rfl q⟩⟩
theorem lc_23 (hL : Ls ≤ 3072) (hi : i + 6 ≤ Ls) (hu : u + 39 ≤ 600000) (hv : v + 1279 ≤ 7302250) (L : LI g I P t im) (IH : IHl Ls xs i u v) (hc : (xs (nI i).toNatClampNeg) &&& 63 = 23) : ∃ h' : zH, Zt (some (Ls, xs)) mL_law u v 18 [(0, .retAddr 1000), (1, .ref 0), (2, .ref 95), (3, .int (nI i))] [] (g, I, P) (some (.int 1)) h' := by
  have V := lw_v hi hL
  have x0 := lw_x hi hL
  have v0 : vp_in (nI i) Ls := vp_in_nI (by omega) (by omega)
  have k11 : zk g 0 11 := L.1.k 0 11 (by decide)
  have k12 : zk g 95 12 := L.1.k 95 12 (by decide)
  have u0 : u ≤ 600000 := by omega
  have w0 : v ≤ 7302250 := by omega
  obtain ⟨w, I1, P1, J, c1, kI, kP, c2, kJ⟩ := b_next L (xs (nI i + 1).toNatClampNeg) (xs (nI i + 2).toNatClampNeg) (xs (nI i + 3).toNatClampNeg) (xs (nI i + 4).toNatClampNeg)
  obtain ⟨h', Z⟩ := IH u v _ _ _ _ _ (Nat.le_add_right _ _) (Nat.le_add_right _ _) (L.keep (fun a ha => (kJ.a a ha).trans (kI.a a ha)) kP)
  refine ⟨h', sw_23 x0 v0 hc ⟨V 1 (by decide), V 2 (by decide), V 3 (by decide), V 4 (by decide), u0, w0, k11, w, I1, P1, c1, V 1 (by decide), V 2 (by decide), V 3 (by decide), V 4 (by decide), u0, w0, k12, w, J, c2, fun _ => Z, fun q => absurd rfl q⟩⟩
theorem lc_24 (hL : Ls ≤ 3072) (hi : i + 6 ≤ Ls) (hu : u + 39 ≤ 600000) (hv : v + 1279 ≤ 7302250) (L : LI g I P t im) (IH : IHl Ls xs i u v) (hc : (xs (nI i).toNatClampNeg) &&& 63 = 24) : ∃ h' : zH, Zt (some (Ls, xs)) mL_law u v 18 [(0, .retAddr 1000), (1, .ref 0), (2, .ref 95), (3, .int (nI i))] [] (g, I, P) (some (.int 1)) h' := by
  have V := lw_v hi hL
  have x0 := lw_x hi hL
  have v0 : vp_in (nI i) Ls := vp_in_nI (by omega) (by omega)
  have k11 : zk g 0 11 := L.1.k 0 11 (by decide)
  have k12 : zk g 95 12 := L.1.k 95 12 (by decide)
  have u0 : u ≤ 600000 := by omega
  have w0 : v ≤ 7302250 := by omega
  by_cases qy : xs (nI i + 4).toNatClampNeg = 0
  · obtain ⟨w, J, c1, c2, kJ⟩ := b_echo L (xs (nI i + 1).toNatClampNeg) (xs (nI i + 2).toNatClampNeg) (xs (nI i + 3).toNatClampNeg) 0
    obtain ⟨h', Z⟩ := IH u v _ _ _ _ _ (Nat.le_add_right _ _) (Nat.le_add_right _ _) (L.keep kJ.a (KpP.rf L.2.1))
    exact ⟨h', sw_24 x0 v0 hc ⟨V 1 (by decide), V 2 (by decide), V 3 (by decide), V 4 (by decide), fun _ => wL_law_1309 ⟨u0, w0, k11, w, c1, V 1 (by decide), V 2 (by decide), V 3 (by decide), V 4 (by decide), fun _ => ⟨u0, w0, k12, w, J, c2, fun _ => Z, fun q => absurd rfl q⟩, fun q => absurd qy q⟩, fun q => absurd qy q⟩⟩
  · obtain ⟨w, J, c1, c2, kJ⟩ := b_echo L (xs (nI i + 1).toNatClampNeg) (xs (nI i + 2).toNatClampNeg) (xs (nI i + 3).toNatClampNeg) 1
    obtain ⟨h', Z⟩ := IH u v _ _ _ _ _ (Nat.le_add_right _ _) (Nat.le_add_right _ _) (L.keep kJ.a (KpP.rf L.2.1))
    exact ⟨h', sw_24 x0 v0 hc ⟨V 1 (by decide), V 2 (by decide), V 3 (by decide), V 4 (by decide), fun q => absurd q qy, fun _ => wL_law_1309 ⟨u0, w0, k11, w, c1, V 1 (by decide), V 2 (by decide), V 3 (by decide), V 4 (by decide), fun q => absurd q qy, fun _ => ⟨u0, w0, k12, w, J, c2, fun _ => Z, fun q => absurd rfl q⟩⟩⟩⟩
theorem lc_25 (hL : Ls ≤ 3072) (hi : i + 6 ≤ Ls) (hu : u + 39 ≤ 600000) (hv : v + 1279 ≤ 7302250) (L : LI g I P t im) (IH : IHl Ls xs i u v) (hc : (xs (nI i).toNatClampNeg) &&& 63 = 25) : ∃ h' : zH, Zt (some (Ls, xs)) mL_law u v 18 [(0, .retAddr 1000), (1, .ref 0), (2, .ref 95), (3, .int (nI i))] [] (g, I, P) (some (.int 1)) h' := by
  have V := lw_v hi hL
  have x0 := lw_x hi hL
  have v0 : vp_in (nI i) Ls := vp_in_nI (by omega) (by omega)
  have k11 : zk g 0 11 := L.1.k 0 11 (by decide)
  have k12 : zk g 95 12 := L.1.k 95 12 (by decide)
  have u0 : u ≤ 600000 := by omega
  have w0 : v ≤ 7302250 := by omega
  by_cases qy : xs (nI i + 4).toNatClampNeg = 0
  · obtain ⟨w, I1, J, c1, kI, c2, kJ⟩ := b_alike L (xs (nI i + 1).toNatClampNeg) (xs (nI i + 2).toNatClampNeg) (xs (nI i + 3).toNatClampNeg) 0
    obtain ⟨h', Z⟩ := IH u v _ _ _ _ _ (Nat.le_add_right _ _) (Nat.le_add_right _ _) (L.keep (fun a ha => (kJ.a a ha).trans (kI.a a ha)) (KpP.rf L.2.1))
    exact ⟨h', sw_25 x0 v0 hc ⟨V 1 (by decide), V 2 (by decide), V 3 (by decide), V 4 (by decide), fun _ => wL_law_1378 ⟨u0, w0, k11, w, I1, c1, V 1 (by decide), V 2 (by decide), V 3 (by decide), V 4 (by decide), fun _ => ⟨u0, w0, k12, w, J, c2, fun _ => Z, fun q => absurd rfl q⟩, fun q => absurd qy q⟩, fun q => absurd qy q⟩⟩
  · obtain ⟨w, I1, J, c1, kI, c2, kJ⟩ := b_alike L (xs (nI i + 1).toNatClampNeg) (xs (nI i + 2).toNatClampNeg) (xs (nI i + 3).toNatClampNeg) 1
    obtain ⟨h', Z⟩ := IH u v _ _ _ _ _ (Nat.le_add_right _ _) (Nat.le_add_right _ _) (L.keep (fun a ha => (kJ.a a ha).trans (kI.a a ha)) (KpP.rf L.2.1))
    exact ⟨h', sw_25 x0 v0 hc ⟨V 1 (by decide), V 2 (by decide), V 3 (by decide), V 4 (by decide), fun q => absurd q qy, fun _ => wL_law_1378 ⟨u0, w0, k11, w, I1, c1, V 1 (by decide), V 2 (by decide), V 3 (by decide), V 4 (by decide), fun q => absurd q qy, fun _ => ⟨u0, w0, k12, w, J, c2, fun _ => Z, fun q => absurd rfl q⟩⟩⟩⟩
theorem lc_26 (hL : Ls ≤ 3072) (hi : i + 6 ≤ Ls) (hu : u + 39 ≤ 600000) (hv : v + 1279 ≤ 7302250) (L : LI g I P t im) (IH : IHl Ls xs i u v) (hc : (xs (nI i).toNatClampNeg) &&& 63 = 26) : ∃ h' : zH, Zt (some (Ls, xs)) mL_law u v 18 [(0, .retAddr 1000), (1, .ref 0), (2, .ref 95), (3, .int (nI i))] [] (g, I, P) (some (.int 1)) h' := by
  have V := lw_v hi hL
  have x0 := lw_x hi hL
  have v0 : vp_in (nI i) Ls := vp_in_nI (by omega) (by omega)
  have k11 : zk g 0 11 := L.1.k 0 11 (by decide)
  have k12 : zk g 95 12 := L.1.k 95 12 (by decide)
  have u0 : u ≤ 600000 := by omega
  have w0 : v ≤ 7302250 := by omega
  obtain ⟨w, I1, J, c1, kI, c2, kJ⟩ := b_tree L (xs (nI i + 1).toNatClampNeg) (xs (nI i + 2).toNatClampNeg)
  obtain ⟨h', Z⟩ := IH u v _ _ _ _ _ (Nat.le_add_right _ _) (Nat.le_add_right _ _) (L.keep (fun a ha => (kJ.a a ha).trans (kI.a a ha)) (KpP.rf L.2.1))
  refine ⟨h', sw_26 x0 v0 hc ⟨V 1 (by decide), V 2 (by decide), u0, w0, k11, w, I1, c1, V 1 (by decide), V 2 (by decide), u0, w0, k12, w, J, c2, fun _ => Z, fun q => absurd rfl q⟩⟩
theorem lc_27 (hL : Ls ≤ 3072) (hi : i + 6 ≤ Ls) (hu : u + 39 ≤ 600000) (hv : v + 1279 ≤ 7302250) (L : LI g I P t im) (IH : IHl Ls xs i u v) (hc : (xs (nI i).toNatClampNeg) &&& 63 = 27) : ∃ h' : zH, Zt (some (Ls, xs)) mL_law u v 18 [(0, .retAddr 1000), (1, .ref 0), (2, .ref 95), (3, .int (nI i))] [] (g, I, P) (some (.int 1)) h' := by
  have V := lw_v hi hL
  have x0 := lw_x hi hL
  have v0 : vp_in (nI i) Ls := vp_in_nI (by omega) (by omega)
  have k11 : zk g 0 11 := L.1.k 0 11 (by decide)
  have k12 : zk g 95 12 := L.1.k 95 12 (by decide)
  have u0 : u ≤ 600000 := by omega
  have w0 : v ≤ 7302250 := by omega
  obtain ⟨w, I1, J, c1, kI, c2, kJ⟩ := b_chain L (xs (nI i + 1).toNatClampNeg) (xs (nI i + 2).toNatClampNeg)
  obtain ⟨h', Z⟩ := IH u v _ _ _ _ _ (Nat.le_add_right _ _) (Nat.le_add_right _ _) (L.keep (fun a ha => (kJ.a a ha).trans (kI.a a ha)) (KpP.rf L.2.1))
  refine ⟨h', sw_27 x0 v0 hc ⟨V 1 (by decide), V 2 (by decide), u0, w0, k11, w, I1, c1, V 1 (by decide), V 2 (by decide), u0, w0, k12, w, J, c2, fun _ => Z, fun q => absurd rfl q⟩⟩
theorem lc_28 (hL : Ls ≤ 3072) (hi : i + 6 ≤ Ls) (hu : u + 39 ≤ 600000) (hv : v + 1279 ≤ 7302250) (L : LI g I P t im) (IH : IHl Ls xs i u v) (hc : (xs (nI i).toNatClampNeg) &&& 63 = 28) : ∃ h' : zH, Zt (some (Ls, xs)) mL_law u v 18 [(0, .retAddr 1000), (1, .ref 0), (2, .ref 95), (3, .int (nI i))] [] (g, I, P) (some (.int 1)) h' := by
  have V := lw_v hi hL
  have x0 := lw_x hi hL
  have v0 : vp_in (nI i) Ls := vp_in_nI (by omega) (by omega)
  have k11 : zk g 0 11 := L.1.k 0 11 (by decide)
  have k12 : zk g 95 12 := L.1.k 95 12 (by decide)
  have u0 : u ≤ 600000 := by omega
  have w0 : v ≤ 7302250 := by omega
  obtain ⟨w, I1, P1, J, c1, kI, kP, c2, kJ⟩ := b_after L (xs (nI i + 1).toNatClampNeg) (xs (nI i + 2).toNatClampNeg) (xs (nI i + 3).toNatClampNeg)
  obtain ⟨h', Z⟩ := IH u v _ _ _ _ _ (Nat.le_add_right _ _) (Nat.le_add_right _ _) (L.keep (fun a ha => (kJ.a a ha).trans (kI.a a ha)) kP)
  refine ⟨h', sw_28 x0 v0 hc ⟨V 1 (by decide), V 2 (by decide), V 3 (by decide), u0, w0, k11, w, I1, P1, c1, V 1 (by decide), V 2 (by decide), V 3 (by decide), u0, w0, k12, w, J, c2, fun _ => Z, fun q => absurd rfl q⟩⟩
theorem lc_29 (hL : Ls ≤ 3072) (hi : i + 6 ≤ Ls) (hu : u + 39 ≤ 600000) (hv : v + 1279 ≤ 7302250) (L : LI g I P t im) (IH : IHl Ls xs i u v) (hc : (xs (nI i).toNatClampNeg) &&& 63 = 29) : ∃ h' : zH, Zt (some (Ls, xs)) mL_law u v 18 [(0, .retAddr 1000), (1, .ref 0), (2, .ref 95), (3, .int (nI i))] [] (g, I, P) (some (.int 1)) h' := by
  have V := lw_v hi hL
  have x0 := lw_x hi hL
  have v0 : vp_in (nI i) Ls := vp_in_nI (by omega) (by omega)
  have k11 : zk g 0 11 := L.1.k 0 11 (by decide)
  have k12 : zk g 95 12 := L.1.k 95 12 (by decide)
  have u0 : u ≤ 600000 := by omega
  have w0 : v ≤ 7302250 := by omega
  by_cases qy : xs (nI i + 2).toNatClampNeg = 0
  · obtain ⟨w, I1, P1, J, c1, kI, kP, c2, kJ⟩ := b_age L (xs (nI i + 1).toNatClampNeg) 0
    obtain ⟨h', Z⟩ := IH u v _ _ _ _ _ (Nat.le_add_right _ _) (Nat.le_add_right _ _) (L.keep (fun a ha => (kJ.a a ha).trans (kI.a a ha)) kP)
    exact ⟨h', sw_29 x0 v0 hc ⟨V 1 (by decide), V 2 (by decide), fun _ => wL_law_1546 ⟨u0, w0, k11, w, I1, P1, c1, V 1 (by decide), V 2 (by decide), fun _ => ⟨u0, w0, k12, w, J, c2, fun _ => Z, fun q => absurd rfl q⟩, fun q => absurd qy q⟩, fun q => absurd qy q⟩⟩
  · obtain ⟨w, I1, P1, J, c1, kI, kP, c2, kJ⟩ := b_age L (xs (nI i + 1).toNatClampNeg) 1
    obtain ⟨h', Z⟩ := IH u v _ _ _ _ _ (Nat.le_add_right _ _) (Nat.le_add_right _ _) (L.keep (fun a ha => (kJ.a a ha).trans (kI.a a ha)) kP)
    exact ⟨h', sw_29 x0 v0 hc ⟨V 1 (by decide), V 2 (by decide), fun q => absurd q qy, fun _ => wL_law_1546 ⟨u0, w0, k11, w, I1, P1, c1, V 1 (by decide), V 2 (by decide), fun q => absurd q qy, fun _ => ⟨u0, w0, k12, w, J, c2, fun _ => Z, fun q => absurd rfl q⟩⟩⟩⟩
theorem lc_30 (hL : Ls ≤ 3072) (hi : i + 6 ≤ Ls) (hu : u + 39 ≤ 600000) (hv : v + 1279 ≤ 7302250) (L : LI g I P t im) (IH : IHl Ls xs i u v) (hc : (xs (nI i).toNatClampNeg) &&& 63 = 30) : ∃ h' : zH, Zt (some (Ls, xs)) mL_law u v 18 [(0, .retAddr 1000), (1, .ref 0), (2, .ref 95), (3, .int (nI i))] [] (g, I, P) (some (.int 1)) h' := by
  have V := lw_v hi hL
  have x0 := lw_x hi hL
  have v0 : vp_in (nI i) Ls := vp_in_nI (by omega) (by omega)
  have k11 : zk g 0 11 := L.1.k 0 11 (by decide)
  have k12 : zk g 95 12 := L.1.k 95 12 (by decide)
  have u0 : u ≤ 600000 := by omega
  have w0 : v ≤ 7302250 := by omega
  by_cases qy : xs (nI i + 3).toNatClampNeg = 0
  · obtain ⟨w, c1, c2⟩ := b_waits L (xs (nI i + 1).toNatClampNeg) (xs (nI i + 2).toNatClampNeg) 0
    obtain ⟨h', Z⟩ := IH u v _ _ _ _ _ (Nat.le_add_right _ _) (Nat.le_add_right _ _) (L.keep (fun _ _ => rfl) (KpP.rf L.2.1))
    exact ⟨h', sw_30 x0 v0 hc ⟨V 1 (by decide), V 2 (by decide), V 3 (by decide), fun _ => wL_law_1600 ⟨u0, w0, k11, w, c1, V 1 (by decide), V 2 (by decide), V 3 (by decide), fun _ => ⟨u0, w0, k12, w, c2, fun _ => Z, fun q => absurd (lg_self _) q⟩, fun q => absurd qy q⟩, fun q => absurd qy q⟩⟩
  · obtain ⟨w, c1, c2⟩ := b_waits L (xs (nI i + 1).toNatClampNeg) (xs (nI i + 2).toNatClampNeg) 1
    obtain ⟨h', Z⟩ := IH u v _ _ _ _ _ (Nat.le_add_right _ _) (Nat.le_add_right _ _) (L.keep (fun _ _ => rfl) (KpP.rf L.2.1))
    exact ⟨h', sw_30 x0 v0 hc ⟨V 1 (by decide), V 2 (by decide), V 3 (by decide), fun q => absurd q qy, fun _ => wL_law_1600 ⟨u0, w0, k11, w, c1, V 1 (by decide), V 2 (by decide), V 3 (by decide), fun q => absurd q qy, fun _ => ⟨u0, w0, k12, w, c2, fun _ => Z, fun q => absurd (lg_self _) q⟩⟩⟩⟩
theorem lc_31 (hL : Ls ≤ 3072) (hi : i + 6 ≤ Ls) (hu : u + 39 ≤ 600000) (hv : v + 1279 ≤ 7302250) (L : LI g I P t im) (IH : IHl Ls xs i u v) (hc : (xs (nI i).toNatClampNeg) &&& 63 = 31) : ∃ h' : zH, Zt (some (Ls, xs)) mL_law u v 18 [(0, .retAddr 1000), (1, .ref 0), (2, .ref 95), (3, .int (nI i))] [] (g, I, P) (some (.int 1)) h' := by
  have V := lw_v hi hL
  have x0 := lw_x hi hL
  have v0 : vp_in (nI i) Ls := vp_in_nI (by omega) (by omega)
  have k11 : zk g 0 11 := L.1.k 0 11 (by decide)
  have k12 : zk g 95 12 := L.1.k 95 12 (by decide)
  have u0 : u ≤ 600000 := by omega
  have w0 : v ≤ 7302250 := by omega
  obtain ⟨w, c1, c2⟩ := b_count L (xs (nI i + 1).toNatClampNeg)
  obtain ⟨h', Z⟩ := IH u v _ _ _ _ _ (Nat.le_add_right _ _) (Nat.le_add_right _ _) (L.keep (fun _ _ => rfl) (KpP.rf L.2.1))
  refine ⟨h', sw_31 x0 v0 hc ⟨V 1 (by decide), u0, w0, k11, w, c1, V 1 (by decide), u0, w0, k12, w, c2, fun _ => Z, fun q => absurd rfl q⟩⟩
theorem lc_32 (hL : Ls ≤ 3072) (hi : i + 6 ≤ Ls) (hu : u + 39 ≤ 600000) (hv : v + 1279 ≤ 7302250) (L : LI g I P t im) (IH : IHl Ls xs i u v) (hc : (xs (nI i).toNatClampNeg) &&& 63 = 32) : ∃ h' : zH, Zt (some (Ls, xs)) mL_law u v 18 [(0, .retAddr 1000), (1, .ref 0), (2, .ref 95), (3, .int (nI i))] [] (g, I, P) (some (.int 1)) h' := by
  have V := lw_v hi hL
  have x0 := lw_x hi hL
  have v0 : vp_in (nI i) Ls := vp_in_nI (by omega) (by omega)
  have k11 : zk g 0 11 := L.1.k 0 11 (by decide)
  have k12 : zk g 95 12 := L.1.k 95 12 (by decide)
  have u0 : u ≤ 600000 := by omega
  have w0 : v ≤ 7302250 := by omega
  obtain ⟨w, h1, J, im1, c1, c2, L1⟩ := b_image L (xs (nI i + 1).toNatClampNeg)
  obtain ⟨h', Z⟩ := IH (u + 39) (v + 1279) _ _ _ _ _ (Nat.le_refl _) (Nat.le_refl _) L1
  have k12b : zk h1.1 95 12 := L1.1.k 95 12 (by decide)
  refine ⟨h', sw_32 x0 v0 hc ⟨V 1 (by decide), hu, hv, k11, w, h1, c1, V 1 (by decide), hu, hv, k12b, w, J, c2, fun _ => Z, fun q => absurd rfl q⟩⟩
theorem lc_33 (hL : Ls ≤ 3072) (hi : i + 6 ≤ Ls) (hu : u + 39 ≤ 600000) (hv : v + 1279 ≤ 7302250) (L : LI g I P t im) (IH : IHl Ls xs i u v) (hc : (xs (nI i).toNatClampNeg) &&& 63 = 33) : ∃ h' : zH, Zt (some (Ls, xs)) mL_law u v 18 [(0, .retAddr 1000), (1, .ref 0), (2, .ref 95), (3, .int (nI i))] [] (g, I, P) (some (.int 1)) h' := by
  have V := lw_v hi hL
  have x0 := lw_x hi hL
  have v0 : vp_in (nI i) Ls := vp_in_nI (by omega) (by omega)
  have k11 : zk g 0 11 := L.1.k 0 11 (by decide)
  have k12 : zk g 95 12 := L.1.k 95 12 (by decide)
  have u0 : u ≤ 600000 := by omega
  have w0 : v ≤ 7302250 := by omega
  obtain ⟨w, I1, J, t1, c1, c2, L1⟩ := b_again L (xs (nI i + 1).toNatClampNeg)
  obtain ⟨h', Z⟩ := IH u v _ _ _ _ _ (Nat.le_add_right _ _) (Nat.le_add_right _ _) L1
  refine ⟨h', sw_33 x0 v0 hc ⟨V 1 (by decide), u0, w0, k11, w, I1, c1, V 1 (by decide), u0, w0, k12, w, J, c2, fun _ => Z, fun q => absurd rfl q⟩⟩
end LAWC
set_option maxRecDepth 20000 in
theorem law_loop (Ls : Nat) (xs : Nat → Int32) (hL : Ls ≤ 3072) : ∀ n, n ≤ 512 → ∀ (i u v : Nat) (g : zG) (I : Nat → Nat → Int32) (P : Nat → Nat → Option Nat) (t : TD) (im : Nat → Option TD), Ls ≤ i + 6 * n → i ≤ 3078 → u + 39 * n ≤ 600000 → v + 1279 * n ≤ 7302250 → LI g I P t im → ∃ h' : zH, Zt (some (Ls, xs)) mL_law u v 18 [(0, .retAddr 1000), (1, .ref 0), (2, .ref 95), (3, .int (nI i))] [] (g, I, P) (some (.int 1)) h' := by
  intro n
  induction n with
  | zero =>
    intro hn i u v g I P t im hi hi2 hu hv L
    refine ⟨_, wL_law_18 ⟨fun _ => ⟨by omega, by omega, rfl, rfl⟩, fun q => absurd ?_ q⟩⟩
    show nI Ls - nI 6 < nI i
    rw [Int32.lt_iff_toInt_lt, pk_sub_toInt (by omega) (by omega), nI_toInt (by omega)]
    omega
  | succ n ih =>
    intro hn i u v g I P t im hi hi2 hu hv L
    by_cases h6 : i + 6 ≤ Ls
    · have IH : IHl Ls xs i u v := by
        intro u' v' g I P t im hu' hv' L
        rw [n6, nI_add]
        exact ih (by omega) (i + 6) u' v' g I P t im (by omega) (by omega) (by omega) (by omega) L
      have hu2 : u + 39 ≤ 600000 := by omega
      have hv2 : v + 1279 ≤ 7302250 := by omega
      by_cases n0 : (xs (nI i).toNatClampNeg) &&& 63 = 0
      · exact lc_0 hL h6 hu2 hv2 L IH n0
      by_cases n1 : (xs (nI i).toNatClampNeg) &&& 63 = 1
      · exact lc_1 hL h6 hu2 hv2 L IH n1
      by_cases n2 : (xs (nI i).toNatClampNeg) &&& 63 = 2
      · exact lc_2 hL h6 hu2 hv2 L IH n2
      by_cases n3 : (xs (nI i).toNatClampNeg) &&& 63 = 3
      · exact lc_3 hL h6 hu2 hv2 L IH n3
      by_cases n4 : (xs (nI i).toNatClampNeg) &&& 63 = 4
      · exact lc_4 hL h6 hu2 hv2 L IH n4
      by_cases n5 : (xs (nI i).toNatClampNeg) &&& 63 = 5
      · exact lc_5 hL h6 hu2 hv2 L IH n5
      by_cases n6 : (xs (nI i).toNatClampNeg) &&& 63 = 6
      · exact lc_6 hL h6 hu2 hv2 L IH n6
      by_cases n7 : (xs (nI i).toNatClampNeg) &&& 63 = 7
      · exact lc_7 hL h6 hu2 hv2 L IH n7
      by_cases n8 : (xs (nI i).toNatClampNeg) &&& 63 = 8
      · exact lc_8 hL h6 hu2 hv2 L IH n8
      by_cases n9 : (xs (nI i).toNatClampNeg) &&& 63 = 9
      · exact lc_9 hL h6 hu2 hv2 L IH n9
      by_cases n10 : (xs (nI i).toNatClampNeg) &&& 63 = 10
      · exact lc_10 hL h6 hu2 hv2 L IH n10
      by_cases n11 : (xs (nI i).toNatClampNeg) &&& 63 = 11
      · exact lc_11 hL h6 hu2 hv2 L IH n11
      by_cases n12 : (xs (nI i).toNatClampNeg) &&& 63 = 12
      · exact lc_12 hL h6 hu2 hv2 L IH n12
      by_cases n13 : (xs (nI i).toNatClampNeg) &&& 63 = 13
      · exact lc_13 hL h6 hu2 hv2 L IH n13
      by_cases n14 : (xs (nI i).toNatClampNeg) &&& 63 = 14
      · exact lc_14 hL h6 hu2 hv2 L IH n14
      by_cases n15 : (xs (nI i).toNatClampNeg) &&& 63 = 15
      · exact lc_15 hL h6 hu2 hv2 L IH n15
      by_cases n16 : (xs (nI i).toNatClampNeg) &&& 63 = 16
      · exact lc_16 hL h6 hu2 hv2 L IH n16
      by_cases n17 : (xs (nI i).toNatClampNeg) &&& 63 = 17
      · exact lc_17 hL h6 hu2 hv2 L IH n17
      by_cases n18 : (xs (nI i).toNatClampNeg) &&& 63 = 18
      · exact lc_18 hL h6 hu2 hv2 L IH n18
      by_cases n19 : (xs (nI i).toNatClampNeg) &&& 63 = 19
      · exact lc_19 hL h6 hu2 hv2 L IH n19
      by_cases n20 : (xs (nI i).toNatClampNeg) &&& 63 = 20
      · exact lc_20 hL h6 hu2 hv2 L IH n20
      by_cases n21 : (xs (nI i).toNatClampNeg) &&& 63 = 21
      · exact lc_21 hL h6 hu2 hv2 L IH n21
      by_cases n22 : (xs (nI i).toNatClampNeg) &&& 63 = 22
      · exact lc_22 hL h6 hu2 hv2 L IH n22
      by_cases n23 : (xs (nI i).toNatClampNeg) &&& 63 = 23
      · exact lc_23 hL h6 hu2 hv2 L IH n23
      by_cases n24 : (xs (nI i).toNatClampNeg) &&& 63 = 24
      · exact lc_24 hL h6 hu2 hv2 L IH n24
      by_cases n25 : (xs (nI i).toNatClampNeg) &&& 63 = 25
      · exact lc_25 hL h6 hu2 hv2 L IH n25
      by_cases n26 : (xs (nI i).toNatClampNeg) &&& 63 = 26
      · exact lc_26 hL h6 hu2 hv2 L IH n26
      by_cases n27 : (xs (nI i).toNatClampNeg) &&& 63 = 27
      · exact lc_27 hL h6 hu2 hv2 L IH n27
      by_cases n28 : (xs (nI i).toNatClampNeg) &&& 63 = 28
      · exact lc_28 hL h6 hu2 hv2 L IH n28
      by_cases n29 : (xs (nI i).toNatClampNeg) &&& 63 = 29
      · exact lc_29 hL h6 hu2 hv2 L IH n29
      by_cases n30 : (xs (nI i).toNatClampNeg) &&& 63 = 30
      · exact lc_30 hL h6 hu2 hv2 L IH n30
      by_cases n31 : (xs (nI i).toNatClampNeg) &&& 63 = 31
      · exact lc_31 hL h6 hu2 hv2 L IH n31
      by_cases n32 : (xs (nI i).toNatClampNeg) &&& 63 = 32
      · exact lc_32 hL h6 hu2 hv2 L IH n32
      by_cases n33 : (xs (nI i).toNatClampNeg) &&& 63 = 33
      · exact lc_33 hL h6 hu2 hv2 L IH n33
      obtain ⟨h', Z⟩ := IH u v _ _ _ _ _ (Nat.le_add_right _ _) (Nat.le_add_right _ _) L
      exact ⟨h', sw_d (lw_x h6 hL) (vp_in_nI (by omega) (by omega)) n0 n1 n2 n3 n4 n5 n6 n7 n8 n9 n10 n11 n12 n13 n14 n15 n16 n17 n18 n19 n20 n21 n22 n23 n24 n25 n26 n27 n28 n29 n30 n31 n32 n33 Z⟩
    · refine ⟨_, wL_law_18 ⟨fun _ => ⟨by omega, by omega, rfl, rfl⟩, fun q => absurd ?_ q⟩⟩
      show nI Ls - nI 6 < nI i
      rw [Int32.lt_iff_toInt_lt, pk_sub_toInt (by omega) (by omega), nI_toInt (by omega)]
      omega
/-- the state at the start -/
def t0 : TD := ((0, fun _ => 0), (0, -1), (0, fun _ => (0, 0, false, fun _ => 0, fun _ => 0, fun _ => 0, fun _ _ => 0, fun _ => 0)), (0, fun _ => (0, fun _ => 0, fun _ => 0, fun _ => 0)), (0, fun _ => (0, fun _ => 0, fun _ _ => 0)), (0, fun _ => (0, fun _ => 0, fun _ => 0)))
theorem zh2_B : zh2.2.1 8 2 = 0 ∧ zh2.2.1 24 2 = 0 := by decide +kernel
theorem LI0 : LI zh2.1 zh2.2.1 zh2.2.2 t0 (fun _ => none) := by
  obtain ⟨a1, a2, a3, a4, a5, a6, a7⟩ := zh2_I
  refine ⟨zh2_Sg, zh2_Sp, ⟨⟨by decide, fun k h => absurd h (Nat.not_lt_zero k)⟩, ⟨by decide, fun k h => absurd h (Nat.not_lt_zero k)⟩, ⟨by decide, fun k h => absurd h (Nat.not_lt_zero k)⟩, ⟨by decide, fun k h => absurd h (Nat.not_lt_zero k)⟩, by decide, fun k h => absurd h (Nat.not_lt_zero k)⟩, ⟨⟨a1, a2, a3, fun k h => absurd h (Nat.not_lt_zero k)⟩, ⟨a4 0 (by decide), a4 1 (by decide), a4 2 (by decide), a4 3 (by decide)⟩, fun k h => absurd h (Nat.not_lt_zero k), fun k h => absurd h (Nat.not_lt_zero k), fun k h => absurd h (Nat.not_lt_zero k), fun k h => absurd h (Nat.not_lt_zero k)⟩, ⟨⟨a5 4 (by decide), a5 5 (by decide), a6, fun k h => absurd h (Nat.not_lt_zero k)⟩, ⟨a5 0 (by decide), a5 1 (by decide), a5 2 (by decide), a5 3 (by decide)⟩, fun k h => absurd h (Nat.not_lt_zero k), fun k h => absurd h (Nat.not_lt_zero k), fun k h => absurd h (Nat.not_lt_zero k), fun k h => absurd h (Nat.not_lt_zero k)⟩, ⟨fun k hk _ => zh2_im k hk, fun k t hk ht => (by cases ht), fun j k x y hj hk hjk hx hy => ?_⟩, fun k hk => ⟨?_, fun t ht => (by cases ht)⟩, ⟨Or.inl zh2_B.1, Or.inl zh2_B.2⟩, fun k x hk hx => ?_⟩
  · rw [zh2_im j hj] at hx; cases hx
  · exact a7 k hk
  · rw [zh2_im k hk] at hx; cases hx
/-- THE LAW answers true on every script -/
theorem law_true (L : Nat) (xs : Nat → Int32) (hL : L ≤ 3072) : ∃ h' : zH, Zt (some (L, xs)) mL_law 0 0 0 [(0, .retAddr 1000)] [] zh0 (some (.int 1)) h' := by
  obtain ⟨h', Z⟩ := law_loop L xs hL 512 (Nat.le_refl _) 0 114 22036 _ _ _ _ _ (by omega) (by omega) (by omega) (by omega) LI0
  refine ⟨h', wL_law_0 ⟨zh1, i_fr zk_top, zh2, ?_, ?_⟩⟩
  · rw [zh1_size]
    exact i_ref (q := 95) (by have h := zk_top (h := zh1) (c := 12) (n := 0); rw [zh1_size] at h; exact h)
  · rw [zh1_size]
    exact Z
