/-! ===== centuries played: stop, state ===== -/
def cl (c : CD) (k : Nat) : Nat := (c.2.2.2 k).toNatClampNeg
def runQ (d : HD) (c : CD) : Nat → Nat → QD → Int32 → Nat × QD × Int32
  | 0, k, q, f => (k, q, f)
  | m + 1, k, q, f => match stp d q (c.2.1 k) (c.2.2.1 k) (cl c k) with
    | none => (k, q, f)
    | some q' => runQ d c m (k + 1) q' (if c.2.1 k = 2 ∧ f = -1 then nI k else f)
theorem runQ_n {d : HD} {c : CD} {m k : Nat} {q : QD} {f : Int32} (h : stp d q (c.2.1 k) (c.2.2.1 k) (cl c k) = none) : runQ d c (m + 1) k q f = (k, q, f) := by
  simp only [runQ, h]
theorem runQ_s {d : HD} {c : CD} {m k : Nat} {q q' : QD} {f : Int32} (h : stp d q (c.2.1 k) (c.2.2.1 k) (cl c k) = some q') : runQ d c (m + 1) k q f = runQ d c m (k + 1) q' (if c.2.1 k = 2 ∧ f = -1 then nI k else f) := by
  simp only [runQ, h]
theorem runQ_le {d : HD} {c : CD} : ∀ m k q f, k ≤ (runQ d c m k q f).1 ∧ (runQ d c m k q f).1 ≤ k + m := by
  intro m
  induction m with
  | zero => intro k q f; exact ⟨Nat.le_refl _, Nat.le_refl _⟩
  | succ m ih =>
    intro k q f
    cases h : stp d q (c.2.1 k) (c.2.2.1 k) (cl c k) with
    | none => rw [runQ_n h]; exact ⟨Nat.le_refl _, by show k ≤ _; omega⟩
    | some q' => rw [runQ_s h]; have := ih (k + 1) q' (if c.2.1 k = 2 ∧ f = -1 then nI k else f); omega
theorem cl_l {c : CD} {k : Nat} (W : CW c) (hk : k < c.1) : c.2.1 k ≤ 1 → c.2.2.2 k = nI (cl c k) ∧ cl c k < 6 := by
  intro h
  obtain ⟨l, l1, l2⟩ := (W.2 k hk).2.2.1 h
  unfold cl
  rw [l2, nI_clamp (by omega)]
  exact ⟨rfl, l1⟩
theorem q0_w (d : HD) : QW d 0 q0 := ⟨by decide, fun s _ => ⟨Nat.le_refl _, by show 0 ≤ 12; decide, Nat.le_refl _, Nat.le_refl _, Nat.zero_le _, fun k hk => absurd hk (Nat.not_lt_zero _)⟩⟩
def F_now (d : HD) (q : QD) (x : Int32) : Int32 := if x < 0 then -2 else if x.toNatClampNeg = 0 then qS q else if x.toNatClampNeg < 10 then -2 else if x.toNatClampNeg < 100 then (if x.toNatClampNeg % 10 < hS d then (if x.toNatClampNeg / 10 = 1 then nI (qZ q (x.toNatClampNeg % 10)) else if x.toNatClampNeg / 10 = 2 then nI (qZ q (x.toNatClampNeg % 10) - qP q (x.toNatClampNeg % 10)) else if x.toNatClampNeg / 10 = 3 then nI (qT q (x.toNatClampNeg % 10)) else if x.toNatClampNeg / 10 = 4 then bI (qB q (x.toNatClampNeg % 10)) else if x.toNatClampNeg / 10 = 5 then fitQ d q (x.toNatClampNeg % 10) else if x.toNatClampNeg / 10 = 6 then nI (nsum (qG q (x.toNatClampNeg % 10)) (qZ q (x.toNatClampNeg % 10))) else -2) else -2) else if x.toNatClampNeg < 200 then (if (x.toNatClampNeg - 100) / 12 < hS d ∧ (x.toNatClampNeg - 100) % 12 < qZ q ((x.toNatClampNeg - 100) / 12) then nI (qL q ((x.toNatClampNeg - 100) / 12) ((x.toNatClampNeg - 100) % 12)) else -2) else if x.toNatClampNeg < 300 then (if (x.toNatClampNeg - 200) / 12 < hS d ∧ (x.toNatClampNeg - 200) % 12 < qZ q ((x.toNatClampNeg - 200) / 12) then nI (qD q ((x.toNatClampNeg - 200) / 12) ((x.toNatClampNeg - 200) % 12)) else -2) else -2
section STATE
variable {g : zG} {I : Nat → Nat → Int32} {P : Nat → Nat → Option Nat} {t : TD} {im : Nat → Option TD} {a : Nat} {d : HD} {q : QD} {n s h0 : Nat}
theorem Sp_59 (Q : Sp P) (x : Option Nat) : Sp (zU P 59 0 x) := by
  intro q hq
  have : ∀ q ∈ pT, q.1 ≠ 59 ∨ q.2.1 ≠ 0 := by decide
  rcases this q hq with h | h
  · rw [zU_a _ _ h]; exact Q q hq
  · rw [zU_k _ _ h]; exact Q q hq
theorem KpP_59 (Q : Sp P) (x : Option Nat) : KpP P (zU P 59 0 x) := ⟨fun a ha => by funext j; rw [zU_a _ _ (by omega)], Sp_59 Q x⟩
theorem c_begin (S : Sg g) (Q : Sp P) : ∃ J, Cl mX2_begin [.ref 59, .ref a] (g, I, P) none (g, J, zU P 59 0 (some a)) ∧ GS J q0 ∧ J 59 2 = -1 ∧ Kp I J := by
  replace Q := Sp_59 Q (some a)
  obtain ⟨I1, f1, f2, f3⟩ := c_fill (I := zU (zU (zU I 59 1 0) 59 2 (-1)) 59 3 0) (P := zU P 59 0 (some a)) (x := 0) (S.k 66 13 (by decide)) (S.l 66 4 (by decide)) (by decide)
  obtain ⟨I2, g1, g2, g3⟩ := c_fill (I := I1) (P := zU P 59 0 (some a)) (x := 0) (S.k 67 13 (by decide)) (S.l 67 4 (by decide)) (by decide)
  obtain ⟨I3, h1, h2, h3⟩ := c_fill (I := I2) (P := zU P 59 0 (some a)) (x := 0) (S.k 68 13 (by decide)) (S.l 68 4 (by decide)) (by decide)
  obtain ⟨I4, i1, i2, i3⟩ := c_fill (I := I3) (P := zU P 59 0 (some a)) (x := -1) (S.k 69 13 (by decide)) (S.l 69 4 (by decide)) (by decide)
  have e59 : I4 59 = (zU (zU (zU I 59 1 0) 59 2 (-1)) 59 3 0) 59 := by rw [i3 59 (by decide), h3 59 (by decide), g3 59 (by decide), f3 59 (by decide)]
  refine ⟨I4, eX2_begin (wX2_begin_0 ⟨S.k 59 2 (by decide), S.k 59 2 (by decide), S.k 59 2 (by decide), S.k 59 2 (by decide), S.k 59 2 (by decide), 66, Q.p 59 4 66 (by decide), _, f1, S.k 59 2 (by decide), 67, Q.p 59 5 67 (by decide), _, g1, S.k 59 2 (by decide), 68, Q.p 59 6 68 (by decide), _, h1, S.k 59 2 (by decide), 69, Q.p 59 7 69 (by decide), _, i1, rfl, rfl⟩), ⟨?_, ?_, fun j hj => ⟨?_, ?_, ?_, ?_, fun k hk => absurd hk (Nat.not_lt_zero _)⟩⟩, ?_, fun c hc => ?_⟩
  · rw [e59]; simp [zU, q0]
  · rw [e59]; simp [zU, q0]; rfl
  · rw [i3 66 (by decide), h3 66 (by decide), g3 66 (by decide), f2 j hj]; rfl
  · rw [i3 67 (by decide), h3 67 (by decide), g2 j hj]; rfl
  · rw [i3 68 (by decide), h2 j hj]; rfl
  · rw [i2 j hj]; rfl
  · rw [e59]; simp [zU]
  · rw [i3 c (by omega), h3 c (by omega), g3 c (by omega), f3 c (by omega)]
    funext j
    rw [zU_a _ _ (by omega), zU_a _ _ (by omega), zU_a _ _ (by omega)]
theorem c_play {a2 m : Nat} {c : CD} (S : Sg g) (Q : Sp P) (T : HlS g P a) (W : HW d) (X : HX d) (D : HlD I a d) (ha : a + 5 < 41) (T2 : CnS g P a2) (CW0 : CW c) (D2 : CnD I a2 c) (ha2 : a2 + 3 < 41) (hm : m ≤ c.1) : ∃ J, Cl mX2_play [.ref 59, .ref a, .ref a2, .int (nI m)] (g, I, P) (some (.int (nI (runQ d c m 0 q0 (-1)).1))) (g, J, zU P 59 0 (some a)) ∧ GE g (zU P 59 0 (some a)) a d ∧ HlD J a d ∧ GS J (runQ d c m 0 q0 (-1)).2.1 ∧ QW d m (runQ d c m 0 q0 (-1)).2.1 ∧ J 59 2 = (runQ d c m 0 q0 (-1)).2.2 ∧ Kp I J := by
  have c40 := CW0.1
  obtain ⟨I1, z1, G1, e1, k1⟩ := c_begin (I := I) (a := a) S Q
  have E : GE g (zU P 59 0 (some a)) a d := ⟨S, Sp_59 Q _, T.keep (by funext j; rw [zU_a _ _ (by omega)]), W, X, zU_s _ _ _ _, ha⟩
  have T3 : CnS g (zU P 59 0 (some a)) a2 := T2.keep (by funext j; rw [zU_a _ _ (by omega)])
  have loop : ∀ r k (K : Nat → Nat → Int32) (q : QD) (f : Int32), k + r = m → Kp I K → GS K q → QW d k q → K 59 2 = f → ∃ J, Zt none mX2_play 0 0 8 [(0, .ref 59), (2, .ref a2), (3, .int (nI m)), (4, .int (nI k))] [] (g, K, zU P 59 0 (some a)) (some (.int (nI (runQ d c r k q f).1))) (g, J, zU P 59 0 (some a)) ∧ HlD J a d ∧ GS J (runQ d c r k q f).2.1 ∧ QW d m (runQ d c r k q f).2.1 ∧ J 59 2 = (runQ d c r k q f).2.2 ∧ Kp I J := by
    intro r
    induction r with
    | zero =>
      intro k K q f hk hK hG hV hf
      obtain rfl : k = m := hk
      exact ⟨K, wX2_play_8 ⟨fun _ => ⟨rfl, rfl⟩, fun q => absurd (Int32.le_refl _) q⟩, D.keep (fun j hj => hK _ (by omega)), hG, hV, hf, hK⟩
    | succ r ih =>
      intro k K q f hk hK hG hV hf
      have DK : HlD K a d := D.keep (fun j hj => hK _ (by omega))
      have D3 : CnD K a2 c := D2.keep (fun j hj => hK _ (by omega))
      obtain ⟨b1, b2, b3⟩ := D3.2 k (by omega)
      obtain ⟨u1, u2, u3, u4⟩ := CW0.2 k (by omega)
      obtain ⟨J1, z, hG1, hK1⟩ := c_does (k := c.2.1 k) (s := c.2.2.1 k) (x := c.2.2.2 k) (l := cl c k) E DK hG hV u1 (by omega) (cl_l CW0 (by omega))
      have pre : ∀ {v : Int32} {J : Nat → Nat → Int32}, ((stp d q (c.2.1 k) (c.2.2.1 k) (cl c k)).isSome = true → ((¬ nI (c.2.1 k) = 2) → Zt none mX2_play 0 0 8 [(0, .ref 59), (2, .ref a2), (3, .int (nI m)), (4, .int (nI k + 1))] [] (g, J1, zU P 59 0 (some a)) (some (.int v)) (g, J, zU P 59 0 (some a))) ∧ ((nI (c.2.1 k) = 2) → zk g 59 2 ∧ ((¬ (J1 59 2) = (-1)) → Zt none mX2_play 0 0 8 [(0, .ref 59), (2, .ref a2), (3, .int (nI m)), (4, .int (nI k + 1))] [] (g, J1, zU P 59 0 (some a)) (some (.int v)) (g, J, zU P 59 0 (some a))) ∧ ((J1 59 2 = (-1)) → zk g 59 2 ∧ Zt none mX2_play 0 0 8 [(0, .ref 59), (2, .ref a2), (3, .int (nI m)), (4, .int (nI k + 1))] [] (g, zU J1 59 2 (nI k), zU P 59 0 (some a)) (some (.int v)) (g, J, zU P 59 0 (some a))))) → ((stp d q (c.2.1 k) (c.2.2.1 k) (cl c k)).isSome = false → some (Value.int v) = some (.int (nI k)) ∧ ((g, J, zU P 59 0 (some a)) : zH) = (g, J1, zU P 59 0 (some a))) → Zt none mX2_play 0 0 8 [(0, .ref 59), (2, .ref a2), (3, .int (nI m)), (4, .int (nI k))] [] (g, K, zU P 59 0 (some a)) (some (.int v)) (g, J, zU P 59 0 (some a)) := by
        intro v J p1 p2
        refine wX2_play_8 ⟨fun h => absurd h (nI_ge (by omega) (by omega)), fun _ => ⟨T3.1, _, T3.2.2.2.1, nI (c.2.1 k), by rw [← b1]; exact c_got T3.2.1.1 T3.2.2.1.1 (by decide) (by omega), T3.1, _, T3.2.2.2.2.1, nI (c.2.2.1 k), by rw [← b2]; exact c_got T3.2.1.2.1 T3.2.2.1.2.1 (by decide) (by omega), T3.1, _, T3.2.2.2.2.2, c.2.2.2 k, by rw [← b3]; exact c_got T3.2.1.2.2 T3.2.2.1.2.2 (by decide) (by omega), S.k 59 2 (by decide), _, _, z, zq p1 p2⟩⟩
      cases hst : stp d q (c.2.1 k) (c.2.2.1 k) (cl c k) with
      | none =>
        rw [runQ_n hst]
        rw [hst] at hG1 pre
        exact ⟨J1, pre (fun h => (nomatch h)) (fun _ => ⟨rfl, rfl⟩), hK1.h ha DK, hG1, hV.up (by omega), hK1.2.trans hf, hK.tr hK1.p⟩
      | some q' =>
        rw [runQ_s hst]
        rw [hst] at hG1 pre
        have hV1 := stp_w hV (fun h => (cl_l CW0 (show k < c.1 by omega) h).2) hst
        have ef := hK1.2.trans hf
        by_cases k2 : c.2.1 k = 2
        · by_cases hf1 : f = -1
          · rw [if_pos ⟨k2, hf1⟩]
            obtain ⟨J, zz, z2⟩ := ih (k + 1) (zU J1 59 2 (nI k)) q' (nI k) (by omega) (fun x hx => by funext j; rw [zU_a _ _ (by omega), (hK.tr hK1.p) x hx]) ⟨by rw [zU_k _ _ (by decide)]; exact hG1.1, by rw [zU_k _ _ (by decide)]; exact hG1.2.1, hG1.2.2.same (by funext j; simp [zU]) (by funext j; simp [zU]) (by funext j; simp [zU]) (by funext j; simp [zU]) (by funext j; simp [zU]) (by funext j; simp [zU]) (by funext j; simp [zU])⟩ hV1 (zU_s _ _ _ _)
            rw [← nI_1] at zz
            exact ⟨J, pre (fun _ => ⟨fun h => absurd (by rw [k2]; rfl) h, fun _ => ⟨S.k 59 2 (by decide), fun h => absurd (by rw [ef, hf1]) h, fun _ => ⟨S.k 59 2 (by decide), zz⟩⟩⟩) (fun h => (nomatch h)), z2⟩
          · rw [if_neg (fun h => hf1 h.2)]
            obtain ⟨J, zz, z2⟩ := ih (k + 1) J1 q' f (by omega) (hK.tr hK1.p) hG1 hV1 ef
            rw [← nI_1] at zz
            exact ⟨J, pre (fun _ => ⟨fun h => absurd (by rw [k2]; rfl) h, fun _ => ⟨S.k 59 2 (by decide), fun _ => zz, fun h => absurd (ef.symm.trans h) hf1⟩⟩) (fun h => (nomatch h)), z2⟩
        · rw [if_neg (fun h => k2 h.1)]
          obtain ⟨J, zz, z2⟩ := ih (k + 1) J1 q' f (by omega) (hK.tr hK1.p) hG1 hV1 ef
          rw [← nI_1] at zz
          exact ⟨J, pre (fun _ => ⟨fun _ => zz, fun h => absurd ((nI_eq (b := 2) (by omega) (by decide)).mp h) k2⟩) (fun h => (nomatch h)), z2⟩
  obtain ⟨J, z, z2⟩ := loop m 0 I1 q0 (-1) (by omega) k1 G1 (q0_w d) e1
  exact ⟨J, eX2_play (wX2_play_0 ⟨S.k 59 2 (by decide), _, _, z1, z⟩), E, z2⟩
theorem c_forged (E : GE g P a d) (G : GS I q) (V : QW d n q) (hs : s < 4) : Cl mX2_forgeriesOn [.ref 59, .int (nI s)] (g, I, P) (some (.int (nI (nsum (qG q s) (qZ q s))))) (g, I, P) := by
  obtain ⟨S, Q, -⟩ := E
  obtain ⟨a1, a2, a3, a4, a5⟩ := G.2.2 s hs
  obtain ⟨w1, w2, -⟩ := V.2 s hs
  have key : ∀ m k, k + m = qZ q s → Zt none mX2_forgeriesOn 0 0 4 [(0, .ref 59), (1, .int (nI s)), (2, .int (nI (nsum (qG q s) k))), (3, .int (nI k))] [] (g, I, P) (some (.int (nI (nsum (qG q s) (qZ q s))))) (g, I, P) := by
    intro m
    induction m with
    | zero =>
      intro k hk
      obtain rfl : k = qZ q s := hk
      exact wX2_forgeriesOn_4 ⟨S.k 59 2 (by decide), 66, Q.p 59 4 66 (by decide), _, c_got (S.k 66 13 (by decide)) (S.l 66 4 (by decide)) (by decide) hs, fun _ => ⟨rfl, rfl⟩, fun q => absurd (by rw [a1]; exact Int32.le_refl _) q⟩
    | succ m ih =>
      intro k hk
      have ih := ih (k + 1) (by omega)
      refine wX2_forgeriesOn_4 ⟨S.k 59 2 (by decide), 66, Q.p 59 4 66 (by decide), _, c_got (S.k 66 13 (by decide)) (S.l 66 4 (by decide)) (by decide) hs, fun h => ?_, fun _ => ⟨S.k 59 2 (by decide), 72, Q.p 59 10 72 (by decide), _, by rw [n12]; exact c_got (S.k 72 13 (by decide)) (S.l 72 48 (by decide)) (by decide) (by omega), ?_⟩⟩
      · rw [a1] at h
        exact absurd h (nI_ge (by omega) (by omega))
      · rw [(a5 k (by omega)).2.2, nI_add, nI_1]; exact ih
  exact eX2_forgeriesOn (wX2_forgeriesOn_0 (key (qZ q s) 0 (by omega)))
theorem r_feigned (S : Sg g) (Q : Sp P) (G : RS I q) (V : QW d n q) (hs : s < 4) : Cl mX12_feignedOn [.ref 95, .int (nI s)] (g, I, P) (some (.int (nI (nsum (qG q s) (qZ q s))))) (g, I, P) := by
  obtain ⟨a1, a2, a3, a4, a5⟩ := G.2 s hs
  obtain ⟨w1, w2, w3, w4, w5, w6⟩ := V.2 s hs
  obtain ⟨i1, i2⟩ := ix4 S (c := 103) (S.l 103 4 (by decide)) hs
  have key : ∀ m k, k + m = qZ q s → Zt none mX12_feignedOn 0 0 4 [(0, .ref 95), (1, .int (nI s)), (2, .int (nI (nsum (qG q s) k))), (3, .int (nI k))] [] (g, I, P) (some (.int (nI (nsum (qG q s) (qZ q s))))) (g, I, P) := by
    intro m
    induction m with
    | zero =>
      intro k hk
      obtain rfl : k = qZ q s := hk
      exact wX12_feignedOn_4 ⟨S.k 95 12 (by decide), 103, Q.p 95 21 103 (by decide), S.k 103 13 (by decide), i1, fun _ => ⟨rfl, rfl⟩, fun q => absurd (by rw [i2, a1]; exact Int32.le_refl _) q⟩
    | succ m ih =>
      intro k hk
      have ih := ih (k + 1) (by omega)
      have e : nsum (qG q s) (k + 1) = nsum (qG q s) k + qG q s k := rfl
      rw [e] at ih
      obtain ⟨v1, v2⟩ := ix (x := 12 * nI s + nI k) (k := 12 * s + k) (N := 48) (m12 _ _) (by omega) (by decide)
      have wg := (w6 k (by omega)).2.2
      refine wX12_feignedOn_4 ⟨S.k 95 12 (by decide), 103, Q.p 95 21 103 (by decide), S.k 103 13 (by decide), i1, fun h => ?_, fun _ => ⟨S.k 95 12 (by decide), 102, Q.p 95 20 102 (by decide), S.k 102 14 (by decide), by rw [S.l 102 48 (by decide)]; exact v1, pk_eq (qG q s k) 0 (fun h => ?_) (fun h => ?_) (by rw [v2]; exact (a5 k (by omega)).2.2) rfl⟩⟩
      · rw [i2, a1] at h
        exact absurd h (nI_ge (by omega) (by omega))
      · rw [h, Nat.add_zero] at ih
        rw [Int32.add_zero, nI_1]; exact ih
      · rw [show qG q s k = 1 by omega] at ih
        rw [nI_1, nI_1]; exact ih
  exact eX12_feignedOn (wX12_feignedOn_0 (key (qZ q s) 0 (by omega)))
theorem c_lookL {b m : Nat} {f : Nat → Nat → Nat} (E : GE g P a d) (D : HlD I a d) (G : GS I q) (V : QW d n q) (kb : zk g b 13) (lb : g.2.2 b = 48) (hm : m < 2 ^ 31) (hf : ∀ s k, s < 4 → k < qZ q s → I b (12 * s + k) = nI (f s k)) : Cl mX2_lookAtLetter [.ref 59, .ref b, .int (nI m)] (g, I, P) (some (.int (if m / 12 < hS d ∧ m % 12 < qZ q (m / 12) then nI (f (m / 12) (m % 12)) else -2))) (g, I, P) := by
  have E0 := E
  obtain ⟨S, Q, T, W, X, e1, -⟩ := E
  have h4 := W.1.2
  refine eX2_lookAtLetter (wX2_lookAtLetter_0 ⟨S.k 59 2 (by decide), _, by rw [show (12 : Int32) = nI 12 from rfl, pk_div hm (by decide) (by decide)]; exact c_gStone E0 D (by omega), zp (fun h => ⟨?_, rfl⟩) (fun h => ?_)⟩)
  · have h := of_decide_eq_false h
    rw [if_neg (fun q => h q.1)]
  · have h := of_decide_eq_true h
    obtain ⟨a1, -⟩ := G.2.2 (m / 12) (by omega)
    have w2 := (V.2 (m / 12) (by omega)).2.1
    refine ⟨S.k 59 2 (by decide), 66, Q.p 59 4 66 (by decide), _, by rw [show (12 : Int32) = nI 12 from rfl, pk_div hm (by decide) (by decide)]; exact c_got (S.k 66 13 (by decide)) (S.l 66 4 (by decide)) (by decide) (by omega), ?_⟩
    refine pk_le (qZ q (m / 12)) (m % 12) (fun h2 => ⟨?_, rfl⟩) (fun h2 => ⟨_, c_got kb lb (by decide) (by omega), ?_, rfl⟩) a1 (by rw [show (12 : Int32) = nI 12 from rfl]; exact pk_rem hm (by decide) (by decide))
    · rw [if_neg (fun q => by omega)]
    · have := hf (m / 12) (m % 12) (by omega) h2
      rw [show 12 * (m / 12) + m % 12 = m by omega] at this
      rw [if_pos ⟨h, h2⟩, this]
theorem c_look {x : Int32} (E : GE g P a d) (D : HlD I a d) (G : GS I q) (V : QW d n q) : Cl mX2_look [.ref 59, .int x] (g, I, P) (some (.int (F_now d q x))) (g, I, P) := by
  have E0 := E
  obtain ⟨S, Q, T, W, X, e1, -⟩ := E
  have h4 := W.1.2
  by_cases hx : x < 0
  · have e : F_now d q x = -2 := by unfold F_now; rw [if_pos hx]
    rw [e]
    exact eX2_look (wX2_look_0 ⟨fun _ => ⟨fun _ => ⟨fun _ => ⟨fun _ => ⟨rfl, rfl⟩, fun h => absurd (Int32.lt_trans hx (by decide)) h⟩, fun h => absurd (Int32.lt_trans hx (by decide)) h⟩, fun h => absurd (Int32.lt_trans hx (by decide)) h⟩, fun h => absurd hx (by rw [h]; decide)⟩)
  · obtain ⟨m, hm, rfl⟩ := nI_of hx
    unfold F_now
    rw [if_neg hx, nI_clamp hm]
    refine eX2_look (wX2_look_0 (pq_eq m 0 (fun m0 => pk_lt m 200 (fun m2 => pk_lt m 100 (fun m1 => pk_lt m 10 (fun m3 => ⟨?_, rfl⟩) (fun m3 => ?_)) (fun m1 => ⟨S.k 59 2 (by decide), 70, Q.p 59 8 70 (by decide), S.k 59 2 (by decide), _, by rw [show nI m - 100 = nI (m - 100) from pk_sub (b := 100) m1]; exact c_lookL (f := qL q) E0 D G V (S.k 70 13 (by decide)) (S.l 70 48 (by decide)) (by omega) (fun s k hs hk => ((G.2.2 s hs).2.2.2.2 k hk).1), ?_, rfl⟩)) (fun m2 => ⟨S.k 59 2 (by decide), 71, Q.p 59 9 71 (by decide), S.k 59 2 (by decide), _, by rw [show nI m - 200 = nI (m - 200) from pk_sub (b := 200) m2]; exact c_lookL (f := qD q) E0 D G V (S.k 71 13 (by decide)) (S.l 71 48 (by decide)) (by omega) (fun s k hs hk => ((G.2.2 s hs).2.2.2.2 k hk).2.1), ?_, rfl⟩)) (fun m0 => ⟨S.k 59 2 (by decide), by rw [if_pos m0, G.1], rfl⟩)))
    · rw [if_neg m0, if_pos m3]
    · rw [if_neg m0, if_neg (by omega), if_pos m1]
      rw [show (10 : Int32) = nI 10 from rfl, pk_rem hm (by decide) (by decide), pk_div hm (by decide) (by decide)]
      refine ⟨S.k 59 2 (by decide), _, c_gStone E0 D (by omega), zp (fun h => ⟨?_, rfl⟩) (fun h => ⟨S.k 59 2 (by decide), _, ?_, rfl, rfl⟩)⟩
      · rw [if_neg (of_decide_eq_false h)]
      · have h := of_decide_eq_true h
        have hs : m % 10 < 4 := by omega
        rw [if_pos h]
        obtain ⟨a1, a2, a3, a4, a5⟩ := G.2.2 (m % 10) hs
        obtain ⟨w1, w2, w3, w4, w5, w6⟩ := V.2 (m % 10) hs
        have dd : ∀ i, i < 2 ^ 31 → nI (m / 10) = nI i → m / 10 = i := fun i hi h => (nI_eq (by omega) hi).mp h
        refine eX2_lookAtStone (wX2_lookAtStone_0 ⟨fun h => ⟨S.k 59 2 (by decide), 66, Q.p 59 4 66 (by decide), _, c_got (S.k 66 13 (by decide)) (S.l 66 4 (by decide)) (by decide) hs, ?_, rfl⟩, fun h => ⟨S.k 59 2 (by decide), _, c_gopen E0 G V hs, ?_, rfl⟩, fun h => ⟨S.k 59 2 (by decide), 68, Q.p 59 6 68 (by decide), _, c_got (S.k 68 13 (by decide)) (S.l 68 4 (by decide)) (by decide) hs, ?_, rfl⟩, fun h => ⟨S.k 59 2 (by decide), 69, Q.p 59 7 69 (by decide), _, c_got (S.k 69 13 (by decide)) (S.l 69 4 (by decide)) (by decide) hs, ?_, rfl⟩, fun h => ⟨S.k 59 2 (by decide), _, c_gopen E0 G V hs, S.k 59 2 (by decide), _, c_gfit E0 D G V hs (by omega) (G.fitL V hs), ?_, rfl⟩, fun h => ⟨S.k 59 2 (by decide), _, c_forged E0 G V hs, ?_, rfl⟩, fun r1 r2 r3 r4 r5 r6 => ⟨?_, rfl⟩⟩)
        · rw [if_pos (dd 1 (by decide) h), a1]
        · have := dd 2 (by decide) h
          rw [if_neg (by omega), if_pos this]
        · have := dd 3 (by decide) h
          rw [if_neg (by omega), if_neg (by omega), if_pos this, a3]
        · have := dd 4 (by decide) h
          rw [if_neg (by omega), if_neg (by omega), if_neg (by omega), if_pos this, a4]
        · have := dd 5 (by decide) h
          rw [if_neg (by omega), if_neg (by omega), if_neg (by omega), if_neg (by omega), if_pos this]; rfl
        · have := dd 6 (by decide) h
          rw [if_neg (by omega), if_neg (by omega), if_neg (by omega), if_neg (by omega), if_neg (by omega), if_pos this]
        · have ne : ∀ i, ¬ nI (m / 10) = nI i → m / 10 ≠ i := fun i h e => h (by rw [e])
          rw [if_neg (ne 1 r1), if_neg (ne 2 r2), if_neg (ne 3 r3), if_neg (ne 4 r4), if_neg (ne 5 r5), if_neg (ne 6 r6)]
    · rw [if_neg m0, if_neg (by omega), if_neg (by omega), if_pos m2]
    · rw [if_neg m0, if_neg (by omega), if_neg (by omega), if_neg (by omega)]
      by_cases m3 : m < 300
      · rw [if_pos m3]
      · rw [if_neg m3, if_neg (fun h => by omega)]
theorem r_now {x : Int32} (S : Sg g) (Q : Sp P) (W : HW d) (D : MhD I h0 d) (G : RS I q) (V : QW d n q) (hx : ¬ x < 0) : Cl mX12_nowOf [.ref 95, .int x] (g, I, P) (some (.int (F_now d q x))) (g, I, P) := by
  have h4 := W.1.2
  obtain ⟨m, hm, rfl⟩ := nI_of hx
  unfold F_now
  rw [if_neg hx, nI_clamp hm]
  refine eX12_nowOf (wX12_nowOf_0 (pq_eq m 0 (fun m0 => pk_lt m 100 (fun m1 => ⟨_, r_isInN (lo := 10) (hi := 69) hm (by decide) (by decide), zp (fun h => ⟨?_, rfl⟩) (fun h => ?_)⟩) (fun m1 y46 h46 y48 h48 => pk_le 300 m (fun m3 => ⟨?_, rfl⟩) (fun m3 => ?_))) (fun m0 => ⟨S.k 95 12 (by decide), by rw [if_pos m0, G.1], rfl⟩)))
  · have h := of_decide_eq_false h
    rw [if_neg m0]
    by_cases m3 : m < 10
    · rw [if_pos m3]
    · rw [if_neg m3, if_pos m1]
      by_cases hs : m % 10 < hS d
      · rw [if_pos hs, if_neg (by omega), if_neg (by omega), if_neg (by omega), if_neg (by omega), if_neg (by omega), if_neg (by omega)]
      · rw [if_neg hs]
  · have h := of_decide_eq_true h
    rw [if_neg m0, if_neg (by omega), if_pos m1]
    rw [show (10 : Int32) = nI 10 from rfl, pk_rem hm (by decide) (by decide), pk_div hm (by decide) (by decide)]
    refine ⟨S.k 95 12 (by decide), _, r_gStone S W D (by omega), zq (fun h2 => ?_) (fun h2 => ⟨?_, rfl⟩)⟩
    · have h2 := of_decide_eq_true h2
      have hs : m % 10 < 4 := by omega
      rw [if_pos h2]
      obtain ⟨a1, a2, a3, a4, a5⟩ := G.2 (m % 10) hs
      obtain ⟨w1, w2, w3, w4, w5, w6⟩ := V.2 (m % 10) hs
      obtain ⟨i1, i2⟩ := ix4 S (c := 103) (S.l 103 4 (by decide)) hs
      obtain ⟨j1, j2⟩ := ix4 S (c := 104) (S.l 104 4 (by decide)) hs
      obtain ⟨k1, k2⟩ := ix4 S (c := 105) (S.l 105 4 (by decide)) hs
      obtain ⟨l1, l2⟩ := ix4 S (c := 106) (S.l 106 4 (by decide)) hs
      have dd : ∀ i, i < 2 ^ 31 → nI (m / 10) = nI i → m / 10 = i := fun i hi h => (nI_eq (by omega) hi).mp h
      refine ⟨fun h => ⟨S.k 95 12 (by decide), 103, Q.p 95 21 103 (by decide), S.k 103 13 (by decide), i1, ?_, rfl⟩, fun h => ⟨S.k 95 12 (by decide), 103, Q.p 95 21 103 (by decide), S.k 103 13 (by decide), i1, S.k 95 12 (by decide), 104, Q.p 95 22 104 (by decide), S.k 104 13 (by decide), j1, ?_, rfl⟩, fun h => ⟨S.k 95 12 (by decide), 105, Q.p 95 23 105 (by decide), S.k 105 13 (by decide), k1, ?_, rfl⟩, fun h => ⟨S.k 95 12 (by decide), 106, Q.p 95 24 106 (by decide), S.k 106 13 (by decide), l1, ?_, rfl⟩, fun h => ⟨S.k 95 12 (by decide), _, r_gfit S Q W D G V hs, ?_, rfl⟩, fun r1 r2 r3 r4 r5 => ⟨S.k 95 12 (by decide), _, r_feigned S Q G V hs, ?_, rfl⟩⟩
      · rw [if_pos (dd 1 (by decide) h), i2, a1]
      · have := dd 2 (by decide) h
        rw [if_neg (by omega), if_pos this, i2, a1, a2, pk_sub w1]
      · have := dd 3 (by decide) h
        rw [if_neg (by omega), if_neg (by omega), if_pos this, k2, a3]
      · have := dd 4 (by decide) h
        rw [if_neg (by omega), if_neg (by omega), if_neg (by omega), if_pos this, l2, a4]
      · have := dd 5 (by decide) h
        rw [if_neg (by omega), if_neg (by omega), if_neg (by omega), if_neg (by omega), if_pos this]
      · have ne : ∀ i, ¬ nI (m / 10) = nI i → m / 10 ≠ i := fun i h e => h (by rw [e])
        have n1 := ne 1 r1
        have n2 := ne 2 r2
        have n3 := ne 3 r3
        have n4 := ne 4 r4
        have n5 := ne 5 r5
        rw [if_neg n1, if_neg n2, if_neg n3, if_neg n4, if_neg n5, if_pos (by omega)]
    · rw [if_neg (of_decide_eq_false h2)]
  · rw [if_neg m0, if_neg (by omega), if_neg (by omega), if_neg (by omega), if_neg (by omega)]
  · have e1 : nI m - 100 - (nI m - 100) / 100 * 100 = nI ((m - 100) % 100) := by
      rw [show nI m - 100 = nI (m - 100) from pk_sub (b := 100) m1, show (100 : Int32) = nI 100 from rfl, pk_rem (by omega) (by decide) (by decide)]
    rw [e1, show (12 : Int32) = nI 12 from rfl, pk_div (by omega) (by decide) (by decide)] at h46
    rw [e1, show (12 : Int32) = nI 12 from rfl, pk_rem (by omega) (by decide) (by decide)] at h48
    subst h46 h48
    rw [if_neg m0, if_neg (by omega), if_neg (by omega)]
    refine ⟨S.k 95 12 (by decide), _, r_gStone S W D (by omega), zp (fun h => ⟨?_, rfl⟩) (fun h => ?_)⟩
    · have h := of_decide_eq_false h
      by_cases m2 : m < 200
      · rw [if_pos m2, show (m - 100) / 12 = (m - 100) % 100 / 12 by omega, if_neg (fun q => h q.1)]
      · rw [if_neg m2, if_pos m3, show (m - 200) / 12 = (m - 100) % 100 / 12 by omega, if_neg (fun q => h q.1)]
    · have h := of_decide_eq_true h
      have hs : (m - 100) % 100 / 12 < 4 := by omega
      obtain ⟨a1, a2, a3, a4, a5⟩ := G.2 _ hs
      have w2 := (V.2 _ hs).2.1
      obtain ⟨i1, i2⟩ := ix4 S (c := 103) (S.l 103 4 (by decide)) hs
      refine ⟨S.k 95 12 (by decide), 103, Q.p 95 21 103 (by decide), S.k 103 13 (by decide), i1, pk_le (qZ q ((m - 100) % 100 / 12)) ((m - 100) % 100 % 12) (fun h2 => ⟨?_, rfl⟩) (fun h2 => ?_) (by rw [i2]; exact a1) rfl⟩
      · by_cases m2 : m < 200
        · rw [if_pos m2, show (m - 100) / 12 = (m - 100) % 100 / 12 by omega, show (m - 100) % 12 = (m - 100) % 100 % 12 by omega, if_neg (fun q => by omega)]
        · rw [if_neg m2, if_pos m3, show (m - 200) / 12 = (m - 100) % 100 / 12 by omega, show (m - 200) % 12 = (m - 100) % 100 % 12 by omega, if_neg (fun q => by omega)]
      · obtain ⟨v1, v2⟩ := ix (x := 12 * nI ((m - 100) % 100 / 12) + nI ((m - 100) % 100 % 12)) (k := 12 * ((m - 100) % 100 / 12) + (m - 100) % 100 % 12) (N := 48) (m12 _ _) (by omega) (by decide)
        obtain ⟨b1, b2, b3⟩ := a5 _ h2
        refine pk_le 200 m (fun m2 => ⟨S.k 95 12 (by decide), 101, Q.p 95 19 101 (by decide), S.k 101 13 (by decide), by rw [S.l 101 48 (by decide)]; exact v1, ?_, rfl⟩) (fun m2 => ⟨S.k 95 12 (by decide), 100, Q.p 95 18 100 (by decide), S.k 100 13 (by decide), by rw [S.l 100 48 (by decide)]; exact v1, ?_, rfl⟩)
        · rw [if_neg (by omega), if_pos m3, show (m - 200) / 12 = (m - 100) % 100 / 12 by omega, show (m - 200) % 12 = (m - 100) % 100 % 12 by omega, if_pos ⟨h, h2⟩, v2, b2]
        · rw [if_pos m2, show (m - 100) / 12 = (m - 100) % 100 / 12 by omega, show (m - 100) % 12 = (m - 100) % 100 % 12 by omega, if_pos ⟨h, h2⟩, v2, b1]
end STATE
