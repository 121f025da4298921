/-! ===== the ground: deeds ===== -/
def GE (g : zG) (P : Nat → Nat → Option Nat) (a : Nat) (d : HD) : Prop := Sg g ∧ Sp P ∧ HlS g P a ∧ HW d ∧ HX d ∧ P 59 0 = some a ∧ a + 5 < 41
def GS (I : Nat → Nat → Int32) (q : QD) : Prop := I 59 1 = qS q ∧ I 59 3 = nI (qF q) ∧ RelA 66 67 68 69 70 71 72 I q
def KG (I J : Nat → Nat → Int32) : Prop := (∀ c, c ≠ 59 → ¬ (66 ≤ c ∧ c ≤ 72) → J c = I c) ∧ J 59 2 = I 59 2
theorem KG.rf (I : Nat → Nat → Int32) : KG I I := ⟨fun _ _ _ => rfl, rfl⟩
theorem KG.tr {I J K : Nat → Nat → Int32} (h : KG I J) (h2 : KG J K) : KG I K := ⟨fun c c1 c2 => (h2.1 c c1 c2).trans (h.1 c c1 c2), h2.2.trans h.2⟩
theorem KG.p {I J : Nat → Nat → Int32} (h : KG I J) : Kp I J := fun c hc => h.1 c (by omega) (by omega)
theorem KG.u {I J : Nat → Nat → Int32} (h : KG I J) (c k : Nat) (x : Int32) (hc : 66 ≤ c ∧ c ≤ 72) : KG I (zU J c k x) := ⟨fun b b1 b2 => by funext j; rw [zU_a _ _ (by omega), h.1 b b1 b2], by rw [zU_a _ _ (by omega)]; exact h.2⟩
theorem KG.u9 {I J : Nat → Nat → Int32} (h : KG I J) (k : Nat) (x : Int32) (hk : k ≠ 2) : KG I (zU J 59 k x) := ⟨fun b b1 b2 => by funext j; rw [zU_a _ _ b1, h.1 b b1 b2], by rw [zU_k _ _ (by omega)]; exact h.2⟩
theorem zmx (x : Nat) (hx : x < 2 ^ 31) : zmmax 0 (nI x - 1) = nI (x - 1) := by
  cases x with
  | zero => decide
  | succ x =>
    rw [nI_d1, show (0 : Int32) = nI 0 from rfl, zmmax_n (by decide) (by omega)]
    congr 1
theorem n12 (s k : Nat) : nI s * 12 + nI k = nI (12 * s + k) := by rw [show (12 : Int32) = nI 12 from rfl, pk_mul, nI_add, Nat.mul_comm]
theorem m12 (s k : Nat) : 12 * nI s + nI k = nI (12 * s + k) := by rw [show (12 : Int32) = nI 12 from rfl, pk_mul, nI_add]
section GROUND
variable {g : zG} {I : Nat → Nat → Int32} {P : Nat → Nat → Option Nat} {a : Nat} {d : HD} {q : QD} {n s : Nat}
theorem KG.h {J : Nat → Nat → Int32} (k : KG I J) (ha : a + 5 < 41) (D : HlD I a d) : HlD J a d := D.keep (fun j hj => k.1 _ (by omega) (by omega))
theorem c_gStone {x : Nat} (E : GE g P a d) (D : HlD I a d) (hx : x < 2 ^ 31) : Cl mX2_isStone [.ref 59, .int (nI x)] (g, I, P) (some (.int (zb (decide (x < hS d))))) (g, I, P) := by
  obtain ⟨S, Q, T, W, X, e1, -⟩ := E
  have h4 := W.1.2
  refine eX2_isStone (wX2_isStone_0 ⟨fun q => absurd q (nI_pos (by omega)), fun _ => ⟨S.k 59 2 (by decide), _, e1, T.1, pk_le (hS d) x (fun h => ⟨?_, rfl⟩) (fun h => ⟨?_, rfl⟩) D.1 rfl⟩⟩)
  · rw [decide_eq_false (by omega)]; rfl
  · rw [decide_eq_true h]; rfl
theorem c_gopen (E : GE g P a d) (G : GS I q) (W : QW d n q) (hs : s < 4) : Cl mX2_open [.ref 59, .int (nI s)] (g, I, P) (some (.int (nI (qZ q s - qP q s)))) (g, I, P) := by
  obtain ⟨S, Q, -⟩ := E
  obtain ⟨a1, a2, -⟩ := G.2.2 s hs
  have w1 := (W.2 s hs).1
  refine eX2_open (wX2_open_0 ⟨S.k 59 2 (by decide), 66, Q.p 59 4 66 (by decide), _, c_got (S.k 66 13 (by decide)) (S.l 66 4 (by decide)) (by decide) hs, S.k 59 2 (by decide), 67, Q.p 59 5 67 (by decide), _, c_got (S.k 67 13 (by decide)) (S.l 67 4 (by decide)) (by decide) hs, ?_, rfl⟩)
  rw [a1, a2, pk_sub w1]
theorem c_gfit {m : Nat} {f : Nat → Nat} (E : GE g P a d) (D : HlD I a d) (G : GS I q) (W : QW d n q) (hs : s < 4) (hm : qP q s + m ≤ 12) (hf : ∀ k, k < m → f k < 2 ^ 31 ∧ I 70 (12 * s + qP q s + k) = nI (f k)) : Cl mX2_fitting [.ref 59, .int (nI s), .int (nI m)] (g, I, P) (some (.int (fit d (qB q s) m f))) (g, I, P) := by
  obtain ⟨S, Q, T, HW0, X, e1, -⟩ := E
  obtain ⟨a1, a2, a3, a4, -⟩ := G.2.2 s hs
  have w5 := (W.2 s hs).2.2.2.2.1
  refine eX2_fitting (wX2_fitting_0 ⟨S.k 59 2 (by decide), 67, Q.p 59 5 67 (by decide), _, c_got (S.k 67 13 (by decide)) (S.l 67 4 (by decide)) (by decide) hs, S.k 59 2 (by decide), _, e1, S.k 59 2 (by decide), 70, Q.p 59 8 70 (by decide), T.1, _, by rw [a2, n12]; exact c_begins T HW0 D (S.k 70 13 (by decide)) (S.l 70 48 (by decide)) (by decide) (by omega) hf, S.k 59 2 (by decide), _, e1, S.k 59 2 (by decide), 69, Q.p 59 7 69 (by decide), _, c_got (S.k 69 13 (by decide)) (S.l 69 4 (by decide)) (by decide) hs, T.1, _, by rw [a4]; exact c_behindA T HW0 D w5, ?_, rfl⟩)
  rw [fit_c HW0]
theorem c_gadd {l p f : Nat} (E : GE g P a d) (G : GS I q) (W : QW d n q) (hs : s < 4) (hz : qZ q s < 12) : ∃ J, Cl mX2_add [.ref 59, .int (nI s), .int (nI l), .int (nI p), .int (nI f)] (g, I, P) none (g, J, P) ∧ GS J (qAdd q s l p f) ∧ KG I J := by
  obtain ⟨S, Q, -⟩ := E
  obtain ⟨g1, g2, R⟩ := G
  obtain ⟨a1, -⟩ := R s hs
  have wF := W.1
  refine ⟨_, eX2_add (wX2_add_0 ⟨S.k 59 2 (by decide), 66, Q.p 59 4 66 (by decide), _, c_got (S.k 66 13 (by decide)) (S.l 66 4 (by decide)) (by decide) hs, S.k 59 2 (by decide), 70, Q.p 59 8 70 (by decide), _, by rw [a1, n12]; exact c_put (S.k 70 13 (by decide)) (S.l 70 48 (by decide)) (by decide) (by omega), S.k 59 2 (by decide), 71, Q.p 59 9 71 (by decide), _, by rw [a1, n12]; exact c_put (S.k 71 13 (by decide)) (S.l 71 48 (by decide)) (by decide) (by omega), S.k 59 2 (by decide), 72, Q.p 59 10 72 (by decide), _, by rw [a1, n12]; exact c_put (S.k 72 13 (by decide)) (S.l 72 48 (by decide)) (by decide) (by omega), S.k 59 2 (by decide), 66, Q.p 59 4 66 (by decide), _, c_put (S.k 66 13 (by decide)) (S.l 66 4 (by decide)) (by decide) hs, S.k 59 2 (by decide), S.k 59 2 (by decide), rfl, rfl⟩), ⟨?_, ?_, R.add (fun j hj => (W.2 j hj).2.1) hz ?_ ?_ ?_ ?_ ?_ ?_ ?_ ?_ ?_ ?_ ?_⟩, ?_⟩
  · simp [zU, g1, qAdd]
  · rw [zU_s, zU_a _ _ (by decide), zU_a _ _ (by decide), zU_a _ _ (by decide), zU_a _ _ (by decide), g2, a1, nI_1, zmmax_n (by omega) (by omega)]
    rfl
  · rw [zU_a _ _ (by decide), zU_s, a1, nI_1]
  · intro j hj; simp [zU, hj]
  · funext j; simp [zU]
  · funext j; simp [zU]
  · funext j; simp [zU]
  · simp [zU]
  · intro i hi; simp [zU, hi]
  · simp [zU]
  · intro i hi; simp [zU, hi]
  · simp [zU]
  · intro i hi; simp [zU, hi]
  · exact (((((KG.rf I).u 70 _ _ (by decide)).u 71 _ _ (by decide)).u 72 _ _ (by decide)).u 66 _ _ (by decide)).u9 3 _ (by decide)
theorem c_falsify {l : Nat} (E : GE g P a d) (G : GS I q) (W : QW d n q) (hs : s < 4) : ∃ J, Cl mX2_falsify [.ref 59, .int (nI s), .int (nI l)] (g, I, P) (some (.int (zb (stG q s l).isSome))) (g, J, P) ∧ GS J ((stG q s l).getD q) ∧ KG I J := by
  have E0 := E
  obtain ⟨S, Q, -⟩ := E
  obtain ⟨a1, -⟩ := G.2.2 s hs
  have wz := (W.2 s hs).2.1
  unfold stG
  by_cases hz : qZ q s < 12
  · rw [if_pos hz]
    obtain ⟨J, z, z2⟩ := c_gadd (l := l) (p := 5) (f := 1) E0 G W hs hz
    exact ⟨J, eX2_falsify (wX2_falsify_0 ⟨S.k 59 2 (by decide), 66, Q.p 59 4 66 (by decide), _, c_got (S.k 66 13 (by decide)) (S.l 66 4 (by decide)) (by decide) hs, pk_lt (qZ q s) 12 (fun _ => ⟨S.k 59 2 (by decide), _, z, rfl, rfl⟩) (fun h => absurd hz (by omega)) a1 rfl⟩), z2⟩
  · rw [if_neg hz]
    exact ⟨I, eX2_falsify (wX2_falsify_0 ⟨S.k 59 2 (by decide), 66, Q.p 59 4 66 (by decide), _, c_got (S.k 66 13 (by decide)) (S.l 66 4 (by decide)) (by decide) hs, pk_lt (qZ q s) 12 (fun h => absurd h hz) (fun _ => ⟨rfl, rfl⟩) a1 rfl⟩), G, KG.rf I⟩
theorem c_chip (E : GE g P a d) (G : GS I q) (W : QW d n q) (hs : s < 4) : ∃ J, Cl mX2_chipOff [.ref 59, .int (nI s)] (g, I, P) (some (.int (zb (stC q s).isSome))) (g, J, P) ∧ GS J ((stC q s).getD q) ∧ KG I J := by
  have E0 := E
  obtain ⟨S, Q, -⟩ := E
  obtain ⟨a1, -⟩ := G.2.2 s hs
  obtain ⟨w1, w2, -⟩ := W.2 s hs
  unfold stC
  by_cases hz : qP q s < qZ q s
  · rw [if_pos hz]
    refine ⟨_, eX2_chipOff (wX2_chipOff_0 ⟨S.k 59 2 (by decide), _, c_gopen E0 G W hs, pk_le 1 (qZ q s - qP q s) (fun _ => ⟨S.k 59 2 (by decide), 66, Q.p 59 4 66 (by decide), S.k 59 2 (by decide), 66, Q.p 59 4 66 (by decide), _, c_got (S.k 66 13 (by decide)) (S.l 66 4 (by decide)) (by decide) hs, _, c_put (S.k 66 13 (by decide)) (S.l 66 4 (by decide)) (by decide) hs, rfl, rfl⟩) (fun h => absurd hz (by omega))⟩), ⟨?_, ?_, G.2.2.chip ?_ ?_ ?_ ?_ ?_ ?_ ?_ ?_⟩, (KG.rf I).u 66 _ _ (by decide)⟩
    · simp [zU, G.1, qChip]
    · simp [zU, G.2.1, qChip]
    · rw [zU_s, a1]; exact pk_sub (b := 1) (by omega)
    · intro j hj; simp [zU, hj]
    · funext j; simp [zU]
    · funext j; simp [zU]
    · funext j; simp [zU]
    · funext j; simp [zU]
    · funext j; simp [zU]
    · funext j; simp [zU]
  · rw [if_neg hz]
    exact ⟨I, eX2_chipOff (wX2_chipOff_0 ⟨S.k 59 2 (by decide), _, c_gopen E0 G W hs, pk_le 1 (qZ q s - qP q s) (fun h => absurd h (by omega)) (fun _ => ⟨rfl, rfl⟩)⟩), G, KG.rf I⟩
theorem GS.fitL (G : GS I q) (W : QW d n q) (hs : s < 4) : ∀ k, k < qZ q s - qP q s → (fun k => qL q s (qP q s + k)) k < 2 ^ 31 ∧ I 70 (12 * s + qP q s + k) = nI ((fun k => qL q s (qP q s + k)) k) := by
  intro k hk
  obtain ⟨-, -, -, -, -, w6⟩ := W.2 s hs
  obtain ⟨-, -, -, -, a5⟩ := G.2.2 s hs
  have b1 := (w6 (qP q s + k) (by omega)).1
  have b2 := (a5 (qP q s + k) (by omega)).1
  refine ⟨?_, ?_⟩
  · show qL q s (qP q s + k) < 2 ^ 31
    omega
  · rw [Nat.add_assoc]; exact b2
theorem c_overgrow (E : GE g P a d) (D : HlD I a d) (G : GS I q) (W : QW d n q) (hs : s < 4) : ∃ J, Cl mX2_overgrow [.ref 59, .int (nI s)] (g, I, P) (some (.int (zb (stM d q s).isSome))) (g, J, P) ∧ GS J ((stM d q s).getD q) ∧ KG I J := by
  have E0 := E
  obtain ⟨S, Q, T, HW0, X, e1, e5⟩ := E
  have h10 := HW0.2.1
  obtain ⟨a1, a2, a3, a4, a5⟩ := G.2.2 s hs
  obtain ⟨w1, w2, w3, w4, w5, w6⟩ := W.2 s hs
  have cf := c_gfit E0 D G W hs (by omega) (G.fitL W hs)
  have key : ∀ m w, w + m = hN d → ∃ J, Zt none mX2_overgrow 0 0 13 [(0, .ref 59), (1, .int (nI s)), (2, .int (fitQ d q s)), (3, .int (nI w))] [] (g, I, P) (some (.int (zb ((lst (mW d q s) m w).map (qTell q s)).isSome))) (g, J, P) ∧ GS J (((lst (mW d q s) m w).map (qTell q s)).getD q) ∧ KG I J := by
    intro m
    induction m with
    | zero =>
      intro w hw
      obtain rfl : w = hN d := hw
      exact ⟨I, wX2_overgrow_13 ⟨S.k 59 2 (by decide), _, e1, T.1, fun _ => ⟨rfl, rfl⟩, fun q => absurd (by rw [D.2.1]; exact Int32.le_refl _) q⟩, G, KG.rf I⟩
    | succ m ih =>
      intro w hw
      have nb : ¬ I a 1 ≤ nI w := by rw [D.2.1]; exact nI_ge (by omega) (by omega)
      have hz := (HW0.2.2.1 w (by omega)).2
      cases hm : mW d q s w with
      | false =>
        rw [lst_f hm]
        obtain ⟨J, z, z2⟩ := ih (w + 1) (by omega)
        rw [← nI_1] at z
        refine ⟨J, wX2_overgrow_13 ⟨S.k 59 2 (by decide), _, e1, T.1, fun q => absurd q nb, fun _ => ⟨_, c_has (by omega), zp (fun _ => z) (fun h => ⟨S.k 59 2 (by decide), _, e1, T.1, _, c_sizeOf T HW0 D (by omega), S.k 59 2 (by decide), _, c_gopen E0 G W hs, pq_eq (hZ d w) (qZ q s - qP q s) (fun _ => z) (fun h2 => ?_)⟩)⟩⟩, z2⟩
        unfold mW at hm
        rw [h, decide_eq_true h2] at hm
        cases hm
      | true =>
        rw [lst_t hm]
        unfold mW at hm
        rw [Bool.and_eq_true] at hm
        have h2 := of_decide_eq_true hm.2
        refine ⟨_, wX2_overgrow_13 ⟨S.k 59 2 (by decide), _, e1, T.1, fun q => absurd q nb, fun _ => ⟨_, c_has (by omega), fun h => absurd h (by rw [hm.1]; decide), fun _ => ⟨S.k 59 2 (by decide), _, e1, T.1, _, c_sizeOf T HW0 D (by omega), S.k 59 2 (by decide), _, c_gopen E0 G W hs, pq_eq (hZ d w) (qZ q s - qP q s) (fun h => absurd h2 h) (fun _ => ⟨S.k 59 2 (by decide), 67, Q.p 59 5 67 (by decide), S.k 59 2 (by decide), 66, Q.p 59 4 66 (by decide), _, c_got (S.k 66 13 (by decide)) (S.l 66 4 (by decide)) (by decide) hs, _, c_put (S.k 67 13 (by decide)) (S.l 67 4 (by decide)) (by decide) hs, S.k 59 2 (by decide), 68, Q.p 59 6 68 (by decide), S.k 59 2 (by decide), 68, Q.p 59 6 68 (by decide), _, c_got (S.k 68 13 (by decide)) (S.l 68 4 (by decide)) (by decide) hs, _, c_put (S.k 68 13 (by decide)) (S.l 68 4 (by decide)) (by decide) hs, S.k 59 2 (by decide), 69, Q.p 59 7 69 (by decide), _, c_put (S.k 69 13 (by decide)) (S.l 69 4 (by decide)) (by decide) hs, rfl, rfl⟩)⟩⟩⟩, ⟨?_, ?_, G.2.2.tell (w := w) ?_ ?_ ?_ ?_ ?_ ?_ ?_ ?_ ?_ ?_⟩, (((KG.rf I).u 67 _ _ (by decide)).u 68 _ _ (by decide)).u 69 _ _ (by decide)⟩
        · simp [zU, G.1, qTell]
        · simp [zU, G.2.1, qTell]
        · funext j; simp [zU]
        · funext j; simp [zU]
        · funext j; simp [zU]
        · funext j; simp [zU]
        · simp [zU, a1]
        · intro j hj; simp [zU, hj]
        · rw [zU_a _ _ (by decide), zU_s, zU_a _ _ (by decide), a3, nI_1]
        · intro j hj; simp [zU, hj]
        · simp [zU]
        · intro j hj; simp [zU, hj]
  obtain ⟨J, z, z2⟩ := key (hN d) 0 (by omega)
  exact ⟨J, eX2_overgrow (wX2_overgrow_0 ⟨S.k 59 2 (by decide), _, c_gopen E0 G W hs, S.k 59 2 (by decide), _, cf, z⟩), z2⟩
theorem c_freeze {l : Nat} (E : GE g P a d) (D : HlD I a d) (G : GS I q) (W : QW d n q) (hs : s < 4) (hl : l < 6) : ∃ J, Cl mX2_freeze [.ref 59, .int (nI s), .int (nI l)] (g, I, P) (some (.int (zb (stF d q s l).isSome))) (g, J, P) ∧ GS J ((stF d q s l).getD q) ∧ KG I J := by
  have E0 := E
  obtain ⟨S, Q, T, HW0, X, e1, e5⟩ := E
  obtain ⟨a1, a2, a3, a4, a5⟩ := G.2.2 s hs
  obtain ⟨w1, w2, w3, w4, w5, w6⟩ := W.2 s hs
  have wall : ∀ j, j < 4 → qZ q j ≤ 12 := fun j hj => (W.2 j hj).2.1
  unfold stF
  by_cases hz : qZ q s < 12
  · rw [if_pos hz]
    have cp : Cl mX11_put [.ref 70, .int (nI s * 12 + nI (qZ q s)), .int (nI l)] (g, I, P) none (g, zU I 70 (12 * s + qZ q s) (nI l), P) := by rw [n12]; exact c_put (S.k 70 13 (by decide)) (S.l 70 48 (by decide)) (by decide) (by omega)
    generalize hJ : zU I 70 (12 * s + qZ q s) (nI l) = J1 at cp
    have K1 : KG I J1 := by rw [← hJ]; exact (KG.rf I).u 70 _ _ (by decide)
    have D1 : HlD J1 a d := K1.h e5 D
    have G1 : GS J1 q := by
      rw [← hJ]
      refine ⟨by simp [zU, G.1], by simp [zU, G.2.1], G.2.2.put wall hz ?_ ?_ ?_ ?_ ?_ ?_ ?_⟩
      · funext j; simp [zU]
      · funext j; simp [zU]
      · funext j; simp [zU]
      · funext j; simp [zU]
      · intro i hi; simp [zU, hi]
      · intro i hi; simp [zU]
      · intro i hi; simp [zU]
    have fl := G1.fitL W hs
    have eL : J1 70 (12 * s + qZ q s) = nI l := by rw [← hJ, zU_s]
    have cf := c_gfit (m := qZ q s - qP q s + 1) (f := fun k => up2 (qL q) s (qZ q s) l s (qP q s + k)) E0 D1 G1 W hs (by omega) (fun k hk => by
      show up2 (qL q) s (qZ q s) l s (qP q s + k) < 2 ^ 31 ∧ J1 70 (12 * s + qP q s + k) = nI (up2 (qL q) s (qZ q s) l s (qP q s + k))
      by_cases e : k = qZ q s - qP q s
      · have e2 : qP q s + k = qZ q s := by omega
        rw [Nat.add_assoc, e2, up2_s]
        exact ⟨by omega, eL⟩
      · rw [up2_n (fun h => by omega)]
        exact fl k (by omega))
    have ef : fit d (qB q s) (qZ q s - qP q s + 1) (fun k => up2 (qL q) s (qZ q s) l s (qP q s + k)) = fitQ d (qAdd q s l 9 0) s := by
      show _ = fit d (qB q s) (up1 (qZ q) s (qZ q s + 1) s - qP q s) (fun k => up2 (qL q) s (qZ q s) l s (qP q s + k))
      rw [up1_s, show qZ q s + 1 - qP q s = qZ q s - qP q s + 1 by omega]
    rw [ef] at cf
    by_cases hf : fitQ d (qAdd q s l 9 0) s = 0
    · rw [if_pos hf]
      exact ⟨J1, eX2_freeze (wX2_freeze_0 ⟨S.k 59 2 (by decide), 66, Q.p 59 4 66 (by decide), _, c_got (S.k 66 13 (by decide)) (S.l 66 4 (by decide)) (by decide) hs, pk_lt (qZ q s) 12 (fun _ => ⟨S.k 59 2 (by decide), 70, Q.p 59 8 70 (by decide), _, by rw [a1]; exact cp, S.k 59 2 (by decide), _, c_gopen E0 G1 W hs, S.k 59 2 (by decide), _, by rw [nI_1]; exact cf, fun h => absurd hf h, fun _ => ⟨rfl, rfl⟩⟩) (fun h => absurd hz (by omega)) a1 rfl⟩), G1, K1⟩
    · rw [if_neg hf]
      have loop : ∀ m k (K : Nat → Nat → Int32), k + m = qZ q s → KG I K → GS K (qDec q s k) → ∃ J, Zt none mX2_freeze 0 0 51 [(0, .ref 59), (1, .int (nI s)), (2, .int (nI l)), (3, .int (nI (qZ q s))), (4, .int (nI k))] [] (g, K, P) (some (.int 1)) (g, J, P) ∧ GS J (qAdd (qDec q s (qZ q s)) s l 9 0) ∧ KG I J := by
        intro m
        induction m with
        | zero =>
          intro k K hk hK hG
          obtain rfl : k = qZ q s := hk
          obtain ⟨J, z, z2, z3⟩ := c_gadd (l := l) (p := 9) (f := 0) E0 hG (qDec_w W) hs hz
          exact ⟨J, wX2_freeze_51 ⟨fun _ => ⟨S.k 59 2 (by decide), _, z, rfl, rfl⟩, fun q => absurd (Int32.le_refl _) q⟩, z2, hK.tr z3⟩
        | succ m ih =>
          intro k K hk hK hG
          have e71 : K 71 (12 * s + k) = nI (qD q s k) := by
            have := ((hG.2.2 s hs).2.2.2.2 k (by show k < qZ q s; omega)).2.1
            have e : qD (qDec q s k) s k = qD q s k := by
              show (if s = s ∧ k < k then _ else _) = _
              rw [if_neg (fun h => Nat.lt_irrefl _ h.2)]
            rw [e] at this; exact this
          have wd := (w6 k (by omega)).2.1
          obtain ⟨J, z, z2⟩ := ih (k + 1) (zU K 71 (12 * s + k) (nI (qD q s k - 1))) (by omega) (hK.u 71 _ _ (by decide)) ⟨by rw [zU_a _ _ (by decide)]; exact hG.1, by rw [zU_a _ _ (by decide)]; exact hG.2.1, hG.2.2.dec wall (by omega) w2 (by funext j; simp [zU]) (by funext j; simp [zU]) (by funext j; simp [zU]) (by funext j; simp [zU]) (by funext j; simp [zU]) (by funext j; simp [zU]) (zU_s _ _ _ _) (fun i hi => by simp [zU, hi])⟩
          refine ⟨J, wX2_freeze_51 ⟨fun q => absurd q (nI_ge (by omega) (by omega)), fun _ => ⟨S.k 59 2 (by decide), 71, Q.p 59 9 71 (by decide), S.k 59 2 (by decide), 71, Q.p 59 9 71 (by decide), _, by rw [n12]; exact c_got (S.k 71 13 (by decide)) (S.l 71 48 (by decide)) (by decide) (by omega), _, by rw [e71, zmx _ (by omega), n12]; exact c_put (S.k 71 13 (by decide)) (S.l 71 48 (by decide)) (by decide) (by omega), by rw [nI_1]; exact z⟩⟩, z2⟩
      have e0 : qDec q s 0 = q := by
        unfold qDec
        have : (fun j i => if j = s ∧ i < 0 then qD q j i - 1 else qD q j i) = qD q := by
          funext j i
          rw [if_neg (fun h => absurd h.2 (by omega))]
        rw [this]
      obtain ⟨J, z, z2⟩ := loop (qZ q s) 0 J1 (by omega) K1 (by rw [e0]; exact G1)
      exact ⟨J, eX2_freeze (wX2_freeze_0 ⟨S.k 59 2 (by decide), 66, Q.p 59 4 66 (by decide), _, c_got (S.k 66 13 (by decide)) (S.l 66 4 (by decide)) (by decide) hs, pk_lt (qZ q s) 12 (fun _ => ⟨S.k 59 2 (by decide), 70, Q.p 59 8 70 (by decide), _, by rw [a1]; exact cp, S.k 59 2 (by decide), _, c_gopen E0 G1 W hs, S.k 59 2 (by decide), _, by rw [nI_1]; exact cf, fun _ => by rw [a1]; exact z, fun h => absurd h hf⟩) (fun h => absurd hz (by omega)) a1 rfl⟩), z2⟩
  · rw [if_neg hz]
    exact ⟨I, eX2_freeze (wX2_freeze_0 ⟨S.k 59 2 (by decide), 66, Q.p 59 4 66 (by decide), _, c_got (S.k 66 13 (by decide)) (S.l 66 4 (by decide)) (by decide) hs, pk_lt (qZ q s) 12 (fun h => absurd h hz) (fun _ => ⟨rfl, rfl⟩) a1 rfl⟩), G, KG.rf I⟩
theorem c_does {k l : Nat} {x : Int32} (E : GE g P a d) (D : HlD I a d) (G : GS I q) (W : QW d n q) (hk : k ≤ 4) (hs : s < 4) (hx : k ≤ 1 → x = nI l ∧ l < 6) : ∃ J, Cl mX2_does [.ref 59, .int (nI k), .int (nI s), .int x] (g, I, P) (some (.int (zb (stp d q k s l).isSome))) (g, J, P) ∧ GS J ((stp d q k s l).getD q) ∧ KG I J := by
  have E0 := E
  obtain ⟨S, Q, T, HW0, X, e1, e5⟩ := E
  have no : ∀ {r : Prop} (i : Nat), i < 2 ^ 31 → k ≠ i → nI k = nI i → r := fun i hi hne h => absurd ((nI_eq (by omega) hi).mp h) hne
  unfold stp
  by_cases h1 : s < hS d
  · cases h2 : tb (qS q) s with
    | true =>
      rw [if_neg (fun h => absurd h.2 (by decide))]
      refine ⟨I, eX2_does (wX2_does_0 ⟨S.k 59 2 (by decide), _, c_gStone E0 D (by omega), fun h => absurd h (by rw [decide_eq_true h1]; decide), fun _ => ⟨S.k 59 2 (by decide), _, by rw [G.1]; exact c_has (by omega), fun h => absurd h (by rw [h2]; decide), fun _ => ⟨rfl, rfl⟩⟩⟩), G, KG.rf I⟩
    | false =>
      rw [if_pos ⟨h1, rfl⟩]
      have pre : ∀ (o : Option QD) (J : Nat → Nat → Int32), ((k = 0) → Cl mX2_freeze [.ref 59, .int (nI s), .int x] (g, I, P) (some (.int (zb o.isSome))) (g, J, P)) → ((k = 1) → Cl mX2_falsify [.ref 59, .int (nI s), .int x] (g, I, P) (some (.int (zb o.isSome))) (g, J, P)) → ((k = 2) → Cl mX2_overgrow [.ref 59, .int (nI s)] (g, I, P) (some (.int (zb o.isSome))) (g, J, P)) → ((k = 3) → Cl mX2_chipOff [.ref 59, .int (nI s)] (g, I, P) (some (.int (zb o.isSome))) (g, J, P)) → ((k = 4) → o.isSome = true ∧ J = zU I 59 1 (qS q ||| (1 : Int32) <<< (nI s &&& 31))) → Cl mX2_does [.ref 59, .int (nI k), .int (nI s), .int x] (g, I, P) (some (.int (zb o.isSome))) (g, J, P) := by
        intro o J k0 k1 k2 k3 k4
        refine eX2_does (wX2_does_0 ⟨S.k 59 2 (by decide), _, c_gStone E0 D (by omega), fun h => absurd h (by rw [decide_eq_true h1]; decide), fun _ => ⟨S.k 59 2 (by decide), _, by rw [G.1]; exact c_has (by omega), fun _ => ⟨fun h => ⟨S.k 59 2 (by decide), _, _, k0 ((nI_eq (b := 0) (by omega) (by decide)).mp h), zb_or _, rfl, rfl⟩, fun h => ⟨S.k 59 2 (by decide), _, _, k1 ((nI_eq (b := 1) (by omega) (by decide)).mp h), zb_or _, rfl, rfl⟩, fun h => ⟨S.k 59 2 (by decide), _, _, k2 ((nI_eq (b := 2) (by omega) (by decide)).mp h), zb_or _, rfl, rfl⟩, fun h => ⟨S.k 59 2 (by decide), _, _, k3 ((nI_eq (b := 3) (by omega) (by decide)).mp h), zb_or _, rfl, rfl⟩, fun h => ⟨S.k 59 2 (by decide), _, c_bit (by omega), S.k 59 2 (by decide), ?_, ?_⟩, fun r0 r1 r2 r3 r4 => ?_⟩, fun h => absurd h (by rw [h2]; decide)⟩⟩)
        · rw [(k4 ((nI_eq (b := 4) (by omega) (by decide)).mp h)).1]; rfl
        · rw [(k4 ((nI_eq (b := 4) (by omega) (by decide)).mp h)).2, G.1]
        · exfalso
          have b0 : k ≠ 0 := fun h => r0 (by rw [h]; rfl)
          have b1 : k ≠ 1 := fun h => r1 (by rw [h]; rfl)
          have b2 : k ≠ 2 := fun h => r2 (by rw [h]; rfl)
          have b3 : k ≠ 3 := fun h => r3 (by rw [h]; rfl)
          have b4 : k ≠ 4 := fun h => r4 (by rw [h]; rfl)
          omega
      by_cases k0 : k = 0
      · rw [if_pos k0]
        obtain ⟨J, z, z2⟩ := c_freeze (l := l) E0 D G W hs (hx (by omega)).2
        rw [← (hx (by omega)).1] at z
        exact ⟨J, pre _ J (fun _ => z) (fun h => by omega) (fun h => by omega) (fun h => by omega) (fun h => by omega), z2⟩
      · rw [if_neg k0]
        by_cases k1 : k = 1
        · rw [if_pos k1]
          obtain ⟨J, z, z2⟩ := c_falsify (l := l) E0 G W hs
          rw [← (hx (by omega)).1] at z
          exact ⟨J, pre _ J (fun h => by omega) (fun _ => z) (fun h => by omega) (fun h => by omega) (fun h => by omega), z2⟩
        · rw [if_neg k1]
          by_cases k2 : k = 2
          · rw [if_pos k2]
            obtain ⟨J, z, z2⟩ := c_overgrow E0 D G W hs
            exact ⟨J, pre _ J (fun h => by omega) (fun h => by omega) (fun _ => z) (fun h => by omega) (fun h => by omega), z2⟩
          · rw [if_neg k2]
            by_cases k3 : k = 3
            · rw [if_pos k3]
              obtain ⟨J, z, z2⟩ := c_chip E0 G W hs
              exact ⟨J, pre _ J (fun h => by omega) (fun h => by omega) (fun h => by omega) (fun _ => z) (fun h => by omega), z2⟩
            · rw [if_neg k3]
              refine ⟨_, pre (some (qSpl q s)) _ (fun h => by omega) (fun h => by omega) (fun h => by omega) (fun h => by omega) (fun _ => ⟨rfl, rfl⟩), ⟨zU_s _ _ _ _, by rw [zU_k _ _ (by decide)]; exact G.2.1, G.2.2.same ?_ ?_ ?_ ?_ ?_ ?_ ?_⟩, (KG.rf I).u9 1 _ (by decide)⟩
              · funext j; simp [zU]
              · funext j; simp [zU]
              · funext j; simp [zU]
              · funext j; simp [zU]
              · funext j; simp [zU]
              · funext j; simp [zU]
              · funext j; simp [zU]
  · rw [if_neg (fun h => h1 h.1)]
    exact ⟨I, eX2_does (wX2_does_0 ⟨S.k 59 2 (by decide), _, c_gStone E0 D (by omega), fun _ => ⟨rfl, rfl⟩, fun h => absurd (by rw [decide_eq_false h1]; rfl) h⟩), G, KG.rf I⟩
end GROUND
