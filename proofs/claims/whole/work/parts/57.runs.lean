/-! ===== stop, state ===== -/
section RUNS
variable {g : zG} {I : Nat → Nat → Int32} {P : Nat → Nat → Option Nat} {t : TD} {im : Nat → Option TD} {a : Nat} {d : HD} {q : QD} {n s h0 d0 : Nat} {c : CD}
/-- the reference's century chosen -/
def McD (I : Nat → Nat → Int32) (d0 : Nat) (c : CD) : Prop := d0 + 121 ≤ 1242 ∧ I 95 16 = nI d0 ∧ McA I d0 c
/-- only the stones and the slots 17, 25 are changed -/
def KS (I J : Nat → Nat → Int32) : Prop := (∀ c, c ≠ 95 → ¬ (100 ≤ c ∧ c ≤ 106) → J c = I c) ∧ ∀ k, k ≠ 17 → k ≠ 25 → J 95 k = I 95 k
theorem KS.rf (I : Nat → Nat → Int32) : KS I I := ⟨fun _ _ _ => rfl, fun _ _ _ => rfl⟩
theorem KS.tr {I J K : Nat → Nat → Int32} (h : KS I J) (h2 : KS J K) : KS I K := ⟨fun c c1 c2 => (h2.1 c c1 c2).trans (h.1 c c1 c2), fun k k1 k2 => (h2.2 k k1 k2).trans (h.2 k k1 k2)⟩
theorem KR.toS {I J : Nat → Nat → Int32} (h : KR I J) : KS I J := ⟨h.1, fun k k1 _ => h.2 k k1⟩
theorem KS.m {I J : Nat → Nat → Int32} (h : KS I J) : Km I J := fun c hc => h.1 c (by omega) (by omega)
theorem KS.u5 {I J : Nat → Nat → Int32} (h : KS I J) (k : Nat) (x : Int32) (hk : k = 17 ∨ k = 25) : KS I (zU J 95 k x) := ⟨fun b b1 b2 => by funext j; rw [zU_a _ _ b1, h.1 b b1 b2], fun j j1 j2 => by rw [zU_k _ _ (by omega)]; exact h.2 j j1 j2⟩
theorem KS.u {I J : Nat → Nat → Int32} (h : KS I J) (c k : Nat) (x : Int32) (hc : 100 ≤ c ∧ c ≤ 106) : KS I (zU J c k x) := ⟨fun b b1 b2 => by funext j; rw [zU_a _ _ (by omega), h.1 b b1 b2], fun j j1 j2 => by rw [zU_a _ _ (by omega)]; exact h.2 j j1 j2⟩
theorem KS.h {J : Nat → Nat → Int32} (k : KS I J) (D : MhD I h0 d) : MhD J h0 d := by
  unfold MhD MhA
  rw [k.2 13 (by decide) (by decide), k.2 14 (by decide) (by decide), k.2 15 (by decide) (by decide), k.1 96 (by decide) (by decide)]
  exact D
theorem KS.toC {J : Nat → Nat → Int32} (k : KS I J) (D : McD I d0 c) : McD J d0 c := by
  unfold McD McA
  rw [k.2 16 (by decide) (by decide), k.1 96 (by decide) (by decide)]
  exact D
theorem r_begins (S : Sg g) (Q : Sp P) : ∃ J, Cl mX12_begins [.ref 95] (g, I, P) none (g, J, P) ∧ RS J q0 ∧ J 95 25 = nI 0 ∧ KS I J := by
  have key : ∀ m k (K : Nat → Nat → Int32), k + m = 4 → KS I K → K 95 17 = 0 → K 95 25 = nI 0 → (∀ j, j < k → K 103 j = 0 ∧ K 104 j = 0 ∧ K 105 j = 0 ∧ K 106 j = -1) → ∃ J, Zt none mX12_begins 0 0 12 [(0, .ref 95), (1, .int (nI k))] [] (g, K, P) none (g, J, P) ∧ RS J q0 ∧ J 95 25 = nI 0 ∧ KS I J := by
    intro m
    induction m with
    | zero =>
      intro k K hk hK h17 h25 hj
      obtain rfl : k = 4 := hk
      refine ⟨K, wX12_begins_12 ⟨fun _ => ⟨rfl, rfl⟩, fun q => absurd (by decide) q⟩, ⟨h17, fun j hj4 => ?_⟩, h25, hK⟩
      obtain ⟨a1, a2, a3, a4⟩ := hj j hj4
      exact ⟨a1, a2, a3, a4, fun k hk => absurd hk (Nat.not_lt_zero _)⟩
    | succ m ih =>
      intro k K hk hK h17 h25 hj
      obtain ⟨i1, i2⟩ := ix4 S (c := 103) (S.l 103 4 (by decide)) (show k < 4 by omega)
      obtain ⟨j1, j2⟩ := ix4 S (c := 104) (S.l 104 4 (by decide)) (show k < 4 by omega)
      obtain ⟨k1, k2⟩ := ix4 S (c := 105) (S.l 105 4 (by decide)) (show k < 4 by omega)
      obtain ⟨l1, l2⟩ := ix4 S (c := 106) (S.l 106 4 (by decide)) (show k < 4 by omega)
      obtain ⟨J, z, z2⟩ := ih (k + 1) (zU (zU (zU (zU K 103 k 0) 104 k 0) 105 k 0) 106 k (-1)) (by omega) ((((hK.u 103 _ _ (by decide)).u 104 _ _ (by decide)).u 105 _ _ (by decide)).u 106 _ _ (by decide)) (by simp [zU, h17]) (by simp [zU, h25]) (fun j hjk => by
        by_cases e : j = k
        · subst e; simp [zU]
        · obtain ⟨a1, a2, a3, a4⟩ := hj j (by omega)
          simp [zU, e, a1, a2, a3, a4])
      exact ⟨J, wX12_begins_12 ⟨fun q => absurd q (nI_ge (b := 4) (by omega) (by decide)), fun _ => ⟨S.k 95 12 (by decide), 103, Q.p 95 21 103 (by decide), S.k 103 13 (by decide), i1, S.k 95 12 (by decide), 104, Q.p 95 22 104 (by decide), S.k 104 13 (by decide), j1, S.k 95 12 (by decide), 105, Q.p 95 23 105 (by decide), S.k 105 13 (by decide), k1, S.k 95 12 (by decide), 106, Q.p 95 24 106 (by decide), S.k 106 13 (by decide), l1, by rw [i2, nI_1]; exact z⟩⟩, z2⟩
  obtain ⟨J, z, z2⟩ := key 4 0 (zU (zU I 95 17 0) 95 25 0) rfl (((KS.rf I).u5 17 0 (by decide)).u5 25 0 (by decide)) (by rw [zU_k _ _ (by decide), zU_s]) (zU_s _ _ _ _) (fun j hj => by omega)
  exact ⟨J, eX12_begins (wX12_begins_0 ⟨S.k 95 12 (by decide), S.k 95 12 (by decide), z⟩), z2⟩
/-- what the reference reads of a deed -/
theorem r_deed {k : Nat} (S : Sg g) (C : McD I d0 c) (hk : k < c.1) (h40 : c.1 ≤ 40) {y : Int32} (hy : y = nI k) : (vp_in (I 95 16 + 1 + 3 * y) (g.2.2 96) ∧ I 96 (I 95 16 + 1 + 3 * y).toNatClampNeg = nI (c.2.1 k)) ∧ (vp_in (I 95 16 + 2 + 3 * y) (g.2.2 96) ∧ I 96 (I 95 16 + 2 + 3 * y).toNatClampNeg = nI (c.2.2.1 k)) ∧ vp_in (I 95 16 + 3 + 3 * y) (g.2.2 96) ∧ I 96 (I 95 16 + 3 + 3 * y).toNatClampNeg = c.2.2.2 k := by
  obtain ⟨c1, c2, c3, c4⟩ := C
  obtain ⟨b1, b2, b3⟩ := c4 k hk
  have e : ∀ i, nI d0 + nI i + 3 * nI k = nI (d0 + i + 3 * k) := fun i => by rw [show (3 : Int32) = nI 3 from rfl, pk_mul, nI_add, nI_add]
  obtain ⟨u1, u2⟩ := ix96 S (x := I 95 16 + 1 + 3 * y) (k := d0 + 1 + 3 * k) (by rw [c2, hy]; exact e 1) (by omega)
  obtain ⟨v1, v2⟩ := ix96 S (x := I 95 16 + 2 + 3 * y) (k := d0 + 1 + 3 * k + 1) (by rw [c2, hy, show d0 + 1 + 3 * k + 1 = d0 + 2 + 3 * k by omega]; exact e 2) (by omega)
  obtain ⟨w1, w2⟩ := ix96 S (x := I 95 16 + 3 + 3 * y) (k := d0 + 1 + 3 * k + 2) (by rw [c2, hy, show d0 + 1 + 3 * k + 2 = d0 + 3 + 3 * k by omega]; exact e 3) (by omega)
  exact ⟨⟨u1, by rw [u2]; exact b1⟩, ⟨v1, by rw [v2]; exact b2⟩, w1, by rw [w2]; exact b3⟩
theorem r_runs {x : Nat} (S : Sg g) (Q : Sp P) (W : HW d) (D : MhD I h0 d) (CW0 : CW c) (C : McD I d0 c) (hx : x < 2 ^ 31) : ∃ J, Cl mX12_runs [.ref 95, .int (nI x)] (g, I, P) none (g, J, P) ∧ RS J (runQ d c (min x c.1) 0 q0 (-1)).2.1 ∧ QW d (min x c.1) (runQ d c (min x c.1) 0 q0 (-1)).2.1 ∧ J 95 25 = nI (runQ d c (min x c.1) 0 q0 (-1)).1 ∧ KS I J := by
  have c40 := CW0.1
  obtain ⟨I1, z1, G1, e1, k1⟩ := r_begins (I := I) S Q
  have loop : ∀ m k (K : Nat → Nat → Int32) (q : QD) (f : Int32), k + m = min x c.1 → KS I K → RS K q → QW d k q → K 95 25 = nI k → ∃ J, Zt none mX12_runs 0 0 4 [(0, .ref 95), (1, .int (nI x))] [] (g, K, P) none (g, J, P) ∧ RS J (runQ d c m k q f).2.1 ∧ QW d (min x c.1) (runQ d c m k q f).2.1 ∧ J 95 25 = nI (runQ d c m k q f).1 ∧ KS I J := by
    intro m
    induction m with
    | zero =>
      intro k K q f hk hK hG hV h25
      have CK := hK.toC C
      obtain ⟨i1, i2⟩ := ix96 S (x := K 95 16) (k := d0) CK.2.1 (by have := CK.1; omega)
      refine ⟨K, wX12_runs_4 ⟨S.k 95 12 (by decide), fun _ => ⟨rfl, rfl⟩, fun h1 => ⟨S.k 95 12 (by decide), S.k 95 12 (by decide), 96, Q.p 95 0 96 (by decide), S.k 95 12 (by decide), S.k 96 13 (by decide), i1, fun _ => ⟨rfl, rfl⟩, fun h2 => ?_⟩⟩, hG, by rw [← show k = min x c.1 by omega]; exact hV, h25, hK⟩
      rw [h25] at h1
      rw [i2, CK.2.2.1, h25] at h2
      have b1 := nI_nleD hx (by omega) h1
      have b2 := nI_nleD (by omega) (by omega) h2
      omega
    | succ m ih =>
      intro k K q f hk hK hG hV h25
      have CK := hK.toC C
      have DK := hK.h D
      obtain ⟨i1, i2⟩ := ix96 S (x := K 95 16) (k := d0) CK.2.1 (by have := CK.1; omega)
      obtain ⟨⟨u1, u2⟩, ⟨v1, v2⟩, w1, w2⟩ := r_deed S CK (show k < c.1 by omega) c40 h25
      obtain ⟨t1, t2, -, -⟩ := CW0.2 k (by omega)
      obtain ⟨J1, z, hG1, hK1⟩ := r_does (k := c.2.1 k) (s := c.2.2.1 k) (x := c.2.2.2 k) (l := cl c k) S Q W DK hG hV t1 (by omega) (cl_l CW0 (by omega))
      have pre : ∀ {J : Nat → Nat → Int32}, ((stp d q (c.2.1 k) (c.2.2.1 k) (cl c k)).isSome = false → (none : Option Value) = none ∧ ((g, J, P) : zH) = (g, J1, P)) → ((stp d q (c.2.1 k) (c.2.2.1 k) (cl c k)).isSome = true → zk g 95 12 ∧ zk g 95 12 ∧ Zt none mX12_runs 0 0 4 [(0, .ref 95), (1, .int (nI x))] [] (g, zU J1 95 25 (J1 95 25 + 1), P) none (g, J, P)) → Zt none mX12_runs 0 0 4 [(0, .ref 95), (1, .int (nI x))] [] (g, K, P) none (g, J, P) := by
        intro J p1 p2
        refine wX12_runs_4 ⟨S.k 95 12 (by decide), fun h => ?_, fun _ => ⟨S.k 95 12 (by decide), S.k 95 12 (by decide), 96, Q.p 95 0 96 (by decide), S.k 95 12 (by decide), S.k 96 13 (by decide), i1, fun h => ?_, fun _ => ⟨S.k 95 12 (by decide), 96, Q.p 95 0 96 (by decide), S.k 95 12 (by decide), S.k 95 12 (by decide), S.k 96 13 (by decide), u1, S.k 95 12 (by decide), 96, Q.p 95 0 96 (by decide), S.k 95 12 (by decide), S.k 95 12 (by decide), S.k 96 13 (by decide), v1, S.k 95 12 (by decide), 96, Q.p 95 0 96 (by decide), S.k 95 12 (by decide), S.k 95 12 (by decide), S.k 96 13 (by decide), w1, S.k 95 12 (by decide), _, _, by rw [u2, v2, w2]; exact z, zp p1 p2⟩⟩⟩
        · rw [h25] at h
          exact absurd h (nI_ge (by omega) (by omega))
        · rw [i2, CK.2.2.1, h25] at h
          exact absurd h (nI_ge (by omega) (by omega))
      have e25 := (hK1.2 25 (by decide)).trans h25
      cases hst : stp d q (c.2.1 k) (c.2.2.1 k) (cl c k) with
      | none =>
        rw [runQ_n hst]
        rw [hst] at hG1 pre
        exact ⟨J1, pre (fun _ => ⟨rfl, rfl⟩) (fun h => (nomatch h)), hG1, hV.up (by omega), e25, hK.tr hK1.toS⟩
      | some q' =>
        rw [runQ_s hst]
        rw [hst] at hG1 pre
        have hV1 := stp_w hV (fun h => (cl_l CW0 (show k < c.1 by omega) h).2) hst
        obtain ⟨J, zz, z2⟩ := ih (k + 1) (zU J1 95 25 (J1 95 25 + 1)) q' (if c.2.1 k = 2 ∧ f = -1 then nI k else f) (by omega) ((hK.tr hK1.toS).u5 25 _ (by decide)) ⟨by rw [zU_k _ _ (by decide)]; exact hG1.1, hG1.2.same (by funext j; simp [zU]) (by funext j; simp [zU]) (by funext j; simp [zU]) (by funext j; simp [zU]) (by funext j; simp [zU]) (by funext j; simp [zU]) (by funext j; simp [zU])⟩ hV1 (by rw [zU_s, e25, nI_1])
        exact ⟨J, pre (fun h => (nomatch h)) (fun _ => ⟨S.k 95 12 (by decide), S.k 95 12 (by decide), zz⟩), z2⟩
  obtain ⟨J, z, z2⟩ := loop (min x c.1) 0 I1 q0 (-1) (by omega) k1 G1 (q0_w d) e1
  exact ⟨J, eX12_runs (wX12_runs_0 ⟨S.k 95 12 (by decide), _, z1, z⟩), z2⟩
/-- hill and century chosen by the reference -/
theorem r_both {x1 x2 : Int32} {i j : Nat} (S : Sg g) (Q : Sp P) (W : TW t) (M : MtA I 0 t) (hp : pk x1 (tNh t) = some i) (hc : pk x2 (tNc t) = some j) : ∃ J1 J2, Cl mX12_isHill [.ref 95, .int x1] (g, I, P) (some (.int 1)) (g, J1, P) ∧ Cl mX12_isCentury [.ref 95, .int x2] (g, J1, P) (some (.int 1)) (g, J2, P) ∧ MhD J2 (610 + 99 * i) (tH t i) ∧ McD J2 (808 + 121 * j) (tC t j) ∧ Kf I J2 := by
  have n2 := W.2.2.1.1
  have hj := (pk_some (by omega) hc).1
  obtain ⟨J1, z, E, f, -⟩ := r_isHill S Q W M hp
  have M1 := f.Mt M
  refine ⟨J1, _, z, r_isCent S Q W M1 hc, ?_, ⟨by omega, zU_s _ _ _ _, ?_⟩, f.tr (Kf.u _ _ _)⟩
  · unfold MhD MhA
    rw [zU_k _ _ (by decide), zU_k _ _ (by decide), zU_k _ _ (by decide), show zU J1 95 16 (nI (808 + 121 * j)) 96 = J1 96 by funext k; rw [zU_a _ _ (by decide)]]
    exact E
  · have A : McA J1 (808 + 121 * j) (tC t j) := by have := M1.2.2.2.1 j hj; rw [Nat.zero_add] at this; exact this
    unfold McA
    rw [show zU J1 95 16 (nI (808 + 121 * j)) 96 = J1 96 by funext k; rw [zU_a _ _ (by decide)]]
    exact A
theorem b_stop (L : LI g I P t im) (x1 x2 : Int32) : ∃ (w : Int32) (I1 : Nat → Nat → Int32) (P1 : Nat → Nat → Option Nat) (J : Nat → Nat → Int32), Cl mX11_stop [.ref 0, .int x1, .int x2] (g, I, P) (some (.int w)) (g, I1, P1) ∧ Kp I I1 ∧ KpP P P1 ∧ Cl mX12_stop [.ref 95, .int x1, .int x2] (g, I1, P1) (some (.int w)) (g, J, P1) ∧ Km I1 J := by
  have L0 := L
  obtain ⟨S, Q, W, D, M, -⟩ := L
  have n2 := W.2.1.1
  have n3 := W.2.2.1.1
  cases hp : pk x1 (tNh t) with
  | none => exact ⟨-1, I, P, I, eX11_stop (wX11_stop_0 ⟨S.k 0 11 (by decide), 1, Q.p 0 0 1 (by decide), S.k 1 9 (by decide), _, c_hillN L0 hp, fun _ => ⟨S.k 0 11 (by decide), 1, Q.p 0 0 1 (by decide), S.k 1 9 (by decide), _, c_centOf L0, fun _ => ⟨rfl, rfl⟩, fun _ _ => ⟨rfl, rfl⟩⟩, fun b hb => (nomatch hb)⟩), Kp.rf I, KpP.rf Q, eX12_stop (wX12_stop_0 ⟨S.k 95 12 (by decide), _, _, r_isHill0 S Q W M hp, fun _ => ⟨rfl, rfl⟩, fun q => absurd rfl q⟩), Km.rf I⟩
  | some i =>
    have hi : i < tNh t := (pk_some (by omega) hp).1
    obtain ⟨hW, hX⟩ := W.2.1.2 i hi
    have T := HlS_i S Q (i := i) (by omega)
    have D1 : HlD I (8 + 16 * i) (tH t i) := D.2.2.1 i hi
    cases hc : pk x2 (tNc t) with
    | none =>
      obtain ⟨J1, z, E, f, -⟩ := r_isHill S Q W M hp
      refine ⟨-1, I, P, J1, eX11_stop (wX11_stop_0 ⟨S.k 0 11 (by decide), 1, Q.p 0 0 1 (by decide), S.k 1 9 (by decide), _, c_hillY L0 hp, fun q => (nomatch q), fun b hb => ⟨S.k 0 11 (by decide), 1, Q.p 0 0 1 (by decide), S.k 1 9 (by decide), _, c_centN L0 hc, fun _ => ⟨rfl, rfl⟩, fun b hb => (nomatch hb)⟩⟩), Kp.rf I, KpP.rf Q, eX12_stop (wX12_stop_0 ⟨S.k 95 12 (by decide), _, _, z, fun q => absurd q (by decide), fun _ => ⟨S.k 95 12 (by decide), _, _, r_isCent0 S Q W (f.Mt M) hc, fun q => absurd rfl q, fun _ => ⟨rfl, rfl⟩⟩⟩), f.m⟩
    | some j =>
      have hj : j < tNc t := (pk_some (by omega) hc).1
      have CW0 := W.2.2.1.2 j hj
      have c40 := CW0.1
      have T2 := CnS_i S Q (i := j) (by omega)
      have D2 : CnD I (14 + 16 * j) (tC t j) := D.2.2.2.1 j hj
      obtain ⟨I1, zc, E1, -, -, -, -, kc⟩ := c_play (m := (tC t j).1) S Q T hW hX D1 (by omega) T2 CW0 D2 (by omega) (Nat.le_refl _)
      have Q1 := E1.2.1
      obtain ⟨J1, J2, y1, y2, y3, y4, y5⟩ := r_both S Q1 W (M.keep (kc 96 (by decide))) hp hc
      obtain ⟨J, zr, -, -, e25, kr⟩ := r_runs (x := 40) S Q1 hW y3 CW0 y4 (by decide)
      rw [show min 40 (tC t j).1 = (tC t j).1 by omega] at e25
      refine ⟨_, I1, _, J, eX11_stop (wX11_stop_0 ⟨S.k 0 11 (by decide), 1, Q.p 0 0 1 (by decide), S.k 1 9 (by decide), _, c_hillY L0 hp, fun q => (nomatch q), fun b hb => ⟨S.k 0 11 (by decide), 1, Q.p 0 0 1 (by decide), S.k 1 9 (by decide), _, c_centY L0 hc, fun q => (nomatch q), fun b2 hb2 => ?_⟩⟩), kc, KpP_59 Q _, eX12_stop (wX12_stop_0 ⟨S.k 95 12 (by decide), _, _, y1, fun q => absurd q (by decide), fun _ => ⟨S.k 95 12 (by decide), _, _, y2, fun _ => ⟨S.k 95 12 (by decide), _, zr, S.k 95 12 (by decide), by rw [e25], rfl⟩, fun q => absurd q (by decide)⟩⟩), y5.m.tr kr.m⟩
      cases hb
      cases hb2
      exact ⟨S.k 0 11 (by decide), 59, Q.p 0 3 59 (by decide), T2.1, S.k 59 2 (by decide), _, _, _, by rw [D2.1]; exact zc, rfl, rfl⟩
theorem b_state (L : LI g I P t im) (x1 x2 x3 x4 : Int32) : ∃ (w : Int32) (I1 : Nat → Nat → Int32) (P1 : Nat → Nat → Option Nat) (J : Nat → Nat → Int32), Cl mX11_state [.ref 0, .int x1, .int x2, .int x3, .int x4] (g, I, P) (some (.int w)) (g, I1, P1) ∧ Kp I I1 ∧ KpP P P1 ∧ Cl mX12_state [.ref 95, .int x1, .int x2, .int x3, .int x4] (g, I1, P1) (some (.int w)) (g, J, P1) ∧ Km I1 J := by
  have L0 := L
  obtain ⟨S, Q, W, D, M, -⟩ := L
  have n2 := W.2.1.1
  have n3 := W.2.2.1.1
  cases hp : pk x1 (tNh t) with
  | none => exact ⟨-2, I, P, I, eX11_state (wX11_state_0 ⟨S.k 0 11 (by decide), 1, Q.p 0 0 1 (by decide), S.k 1 9 (by decide), _, c_hillN L0 hp, fun _ => ⟨S.k 0 11 (by decide), 1, Q.p 0 0 1 (by decide), S.k 1 9 (by decide), _, c_centOf L0, fun _ => ⟨rfl, rfl⟩, fun _ _ => ⟨rfl, rfl⟩⟩, fun b hb => (nomatch hb)⟩), Kp.rf I, KpP.rf Q, eX12_state (wX12_state_0 ⟨S.k 95 12 (by decide), _, _, r_isHill0 S Q W M hp, fun _ => ⟨rfl, rfl⟩, fun q => absurd rfl q⟩), Km.rf I⟩
  | some i =>
    have hi : i < tNh t := (pk_some (by omega) hp).1
    obtain ⟨hW, hX⟩ := W.2.1.2 i hi
    have T := HlS_i S Q (i := i) (by omega)
    have D1 : HlD I (8 + 16 * i) (tH t i) := D.2.2.1 i hi
    cases hc : pk x2 (tNc t) with
    | none =>
      obtain ⟨J1, z, E, f, -⟩ := r_isHill S Q W M hp
      exact ⟨-2, I, P, J1, eX11_state (wX11_state_0 ⟨S.k 0 11 (by decide), 1, Q.p 0 0 1 (by decide), S.k 1 9 (by decide), _, c_hillY L0 hp, fun q => (nomatch q), fun b hb => ⟨S.k 0 11 (by decide), 1, Q.p 0 0 1 (by decide), S.k 1 9 (by decide), _, c_centN L0 hc, fun _ => ⟨rfl, rfl⟩, fun b hb => (nomatch hb)⟩⟩), Kp.rf I, KpP.rf Q, eX12_state (wX12_state_0 ⟨S.k 95 12 (by decide), _, _, z, fun q => absurd q (by decide), fun _ => ⟨S.k 95 12 (by decide), _, _, r_isCent0 S Q W (f.Mt M) hc, fun _ => ⟨rfl, rfl⟩, fun q => absurd rfl q⟩⟩), f.m⟩
    | some j =>
      have hj : j < tNc t := (pk_some (by omega) hc).1
      have CW0 := W.2.2.1.2 j hj
      have c40 := CW0.1
      have T2 := CnS_i S Q (i := j) (by omega)
      have D2 : CnD I (14 + 16 * j) (tC t j) := D.2.2.2.1 j hj
      by_cases hx : x3 < 0
      · obtain ⟨J1, J2, y1, y2, y3, y4, y5⟩ := r_both S Q W M hp hc
        refine ⟨-2, I, P, J2, eX11_state (wX11_state_0 ⟨S.k 0 11 (by decide), 1, Q.p 0 0 1 (by decide), S.k 1 9 (by decide), _, c_hillY L0 hp, fun q => (nomatch q), fun b hb => ⟨S.k 0 11 (by decide), 1, Q.p 0 0 1 (by decide), S.k 1 9 (by decide), _, c_centY L0 hc, fun q => (nomatch q), fun b2 hb2 => ?_⟩⟩), Kp.rf I, KpP.rf Q, eX12_state (wX12_state_0 ⟨S.k 95 12 (by decide), _, _, y1, fun q => absurd q (by decide), fun _ => ⟨S.k 95 12 (by decide), _, _, y2, fun q => absurd q (by decide), fun _ => ⟨fun _ => ⟨rfl, rfl⟩, fun h => absurd hx h⟩⟩⟩), y5.m⟩
        cases hb
        cases hb2
        exact ⟨fun _ => ⟨rfl, rfl⟩, fun h => absurd hx h⟩
      · obtain ⟨n, hn, rfl⟩ := nI_of hx
        by_cases hnc : n ≤ (tC t j).1
        · obtain ⟨I1, zc, E1, D3, G3, V3, -, kc⟩ := c_play (m := n) S Q T hW hX D1 (by omega) T2 CW0 D2 (by omega) hnc
          have Q1 := E1.2.1
          obtain ⟨J1, J2, y1, y2, y3, y4, y5⟩ := r_both S Q1 W (M.keep (kc 96 (by decide))) hp hc
          have le := (runQ_le (d := tH t i) (c := tC t j) n 0 q0 (-1)).2
          have cc : ∀ w, (n ≤ (runQ (tH t i) (tC t j) n 0 q0 (-1)).1 → w = F_now (tH t i) (runQ (tH t i) (tC t j) n 0 q0 (-1)).2.1 x4) → (¬ n ≤ (runQ (tH t i) (tC t j) n 0 q0 (-1)).1 → w = -2) → Cl mX11_state [.ref 0, .int x1, .int x2, .int (nI n), .int x4] (g, I, P) (some (.int w)) (g, I1, zU P 59 0 (some (8 + 16 * i))) := by
            intro w w1 w2
            refine eX11_state (wX11_state_0 ⟨S.k 0 11 (by decide), 1, Q.p 0 0 1 (by decide), S.k 1 9 (by decide), _, c_hillY L0 hp, fun q => (nomatch q), fun b hb => ⟨S.k 0 11 (by decide), 1, Q.p 0 0 1 (by decide), S.k 1 9 (by decide), _, c_centY L0 hc, fun q => (nomatch q), fun b2 hb2 => ?_⟩⟩)
            cases hb
            cases hb2
            refine ⟨fun h => absurd h hx, fun _ => ⟨T2.1, pk_le n (tC t j).1 (fun _ => ⟨S.k 0 11 (by decide), 59, Q.p 0 3 59 (by decide), S.k 59 2 (by decide), _, _, _, zc, pk_le n (runQ (tH t i) (tC t j) n 0 q0 (-1)).1 (fun h => ⟨S.k 0 11 (by decide), 59, Q1.p 0 3 59 (by decide), S.k 59 2 (by decide), _, c_look E1 D3 G3 V3, by rw [w1 h], rfl⟩) (fun h => ⟨by rw [w2 (by omega)], rfl⟩)⟩) (fun h => absurd hnc (by omega)) rfl D2.1⟩⟩
          by_cases h4 : x4 < 0
          · have ef : F_now (tH t i) (runQ (tH t i) (tC t j) n 0 q0 (-1)).2.1 x4 = -2 := by unfold F_now; rw [if_pos h4]
            exact ⟨-2, I1, _, J2, cc _ (fun _ => ef.symm) (fun _ => rfl), kc, KpP_59 Q _, eX12_state (wX12_state_0 ⟨S.k 95 12 (by decide), _, _, y1, fun q => absurd q (by decide), fun _ => ⟨S.k 95 12 (by decide), _, _, y2, fun q => absurd q (by decide), fun _ => ⟨fun _ => ⟨rfl, rfl⟩, fun _ => ⟨fun h => absurd h (Int32.not_le.mpr h4), fun _ => ⟨rfl, rfl⟩⟩⟩⟩⟩), y5.m⟩
          · obtain ⟨J, zr, Gr, Vr, e25, kr⟩ := r_runs (x := n) S Q1 hW y3 CW0 y4 hn
            rw [show min n (tC t j).1 = n by omega] at e25 Gr Vr
            have rn := r_now (x := x4) S Q1 hW (kr.h y3) Gr Vr h4
            have rr : ∀ w, (n ≤ (runQ (tH t i) (tC t j) n 0 q0 (-1)).1 → w = F_now (tH t i) (runQ (tH t i) (tC t j) n 0 q0 (-1)).2.1 x4) → (¬ n ≤ (runQ (tH t i) (tC t j) n 0 q0 (-1)).1 → w = -2) → Cl mX12_state [.ref 95, .int x1, .int x2, .int (nI n), .int x4] (g, I1, zU P 59 0 (some (8 + 16 * i))) (some (.int w)) (g, J, zU P 59 0 (some (8 + 16 * i))) := by
              intro w w1 w2
              refine eX12_state (wX12_state_0 ⟨S.k 95 12 (by decide), _, _, y1, fun q => absurd q (by decide), fun _ => ⟨S.k 95 12 (by decide), _, _, y2, fun q => absurd q (by decide), fun _ => ⟨fun h => absurd h hx, fun _ => ⟨fun _ => ⟨S.k 95 12 (by decide), _, zr, S.k 95 12 (by decide), pq_eq (runQ (tH t i) (tC t j) n 0 q0 (-1)).1 n (fun h => ⟨by rw [w2 (by omega)], rfl⟩) (fun h => ⟨S.k 95 12 (by decide), _, rn, by rw [w1 (by omega)], rfl⟩) e25 rfl⟩, fun h => absurd (Int32.not_lt.mp h4) h⟩⟩⟩⟩)
            by_cases hk : n ≤ (runQ (tH t i) (tC t j) n 0 q0 (-1)).1
            · exact ⟨_, I1, _, J, cc _ (fun _ => rfl) (fun h => absurd hk h), kc, KpP_59 Q _, rr _ (fun _ => rfl) (fun h => absurd hk h), y5.m.tr kr.m⟩
            · exact ⟨-2, I1, _, J, cc _ (fun h => absurd h hk) (fun _ => rfl), kc, KpP_59 Q _, rr _ (fun h => absurd h hk) (fun _ => rfl), y5.m.tr kr.m⟩
        · have cc : Cl mX11_state [.ref 0, .int x1, .int x2, .int (nI n), .int x4] (g, I, P) (some (.int (-2))) (g, I, P) := by
            refine eX11_state (wX11_state_0 ⟨S.k 0 11 (by decide), 1, Q.p 0 0 1 (by decide), S.k 1 9 (by decide), _, c_hillY L0 hp, fun q => (nomatch q), fun b hb => ⟨S.k 0 11 (by decide), 1, Q.p 0 0 1 (by decide), S.k 1 9 (by decide), _, c_centY L0 hc, fun q => (nomatch q), fun b2 hb2 => ?_⟩⟩)
            cases hb
            cases hb2
            exact ⟨fun _ => ⟨rfl, rfl⟩, fun _ => ⟨T2.1, fun h => by rw [D2.1] at h; exact absurd h (nI_ge (by omega) (by omega)), fun _ => ⟨rfl, rfl⟩⟩⟩
          obtain ⟨J1, J2, y1, y2, y3, y4, y5⟩ := r_both S Q W M hp hc
          by_cases h4 : x4 < 0
          · exact ⟨-2, I, P, J2, cc, Kp.rf I, KpP.rf Q, eX12_state (wX12_state_0 ⟨S.k 95 12 (by decide), _, _, y1, fun q => absurd q (by decide), fun _ => ⟨S.k 95 12 (by decide), _, _, y2, fun q => absurd q (by decide), fun _ => ⟨fun _ => ⟨rfl, rfl⟩, fun _ => ⟨fun h => absurd h (Int32.not_le.mpr h4), fun _ => ⟨rfl, rfl⟩⟩⟩⟩⟩), y5.m⟩
          · obtain ⟨J, zr, Gr, Vr, e25, kr⟩ := r_runs (x := n) S Q hW y3 CW0 y4 hn
            have le := (runQ_le (d := tH t i) (c := tC t j) (min n (tC t j).1) 0 q0 (-1)).2
            exact ⟨-2, I, P, J, cc, Kp.rf I, KpP.rf Q, eX12_state (wX12_state_0 ⟨S.k 95 12 (by decide), _, _, y1, fun q => absurd q (by decide), fun _ => ⟨S.k 95 12 (by decide), _, _, y2, fun q => absurd q (by decide), fun _ => ⟨fun h => absurd h hx, fun _ => ⟨fun _ => ⟨S.k 95 12 (by decide), _, zr, S.k 95 12 (by decide), fun _ => ⟨rfl, rfl⟩, fun h => by rw [e25] at h; exact absurd ((nI_eq (by omega) hn).mp h) (by omega)⟩, fun h => absurd (Int32.not_lt.mp h4) h⟩⟩⟩⟩), y5.m.tr kr.m⟩
end RUNS
