/-! ===== what the reference's row holds, kept; end ===== -/
section KEEP2
variable {g : zG} {I J : Nat → Nat → Int32} {P : Nat → Nat → Option Nat} {t : TD} {im : Nat → Option TD}
theorem MhA.keep {h0 : Nat} {d : HD} (W : HW d) (h : MhA I h0 d) (e : ∀ k, h0 ≤ k → k < h0 + 99 → J 96 k = I 96 k) : MhA J h0 d := by
  obtain ⟨h1, h2, h3, h4, h5, h6, h7, h8⟩ := h
  have hn := W.2.1
  refine ⟨(e _ (by omega) (by omega)).trans h1, (e _ (by omega) (by omega)).trans h2, (e _ (by omega) (by omega)).trans h3, fun w hw => (e _ (by omega) (by omega)).trans (h4 w hw), fun w hw => (e _ (by omega) (by omega)).trans (h5 w hw), fun w hw => (e _ (by omega) (by omega)).trans (h6 w hw), fun w k hw hk => ?_, fun q hq => (e _ (by omega) (by omega)).trans (h8 q hq)⟩
  have := (W.2.2.1 w hw).2
  exact (e _ (by omega) (by omega)).trans (h7 w k hw hk)
theorem McA.keep {o : Nat} {c : CD} (W : CW c) (h : McA I o c) (e : ∀ k, o ≤ k → k < o + 121 → J 96 k = I 96 k) : McA J o c := by
  obtain ⟨h1, h2⟩ := h
  have hn := W.1
  refine ⟨(e _ (by omega) (by omega)).trans h1, fun k hk => ?_⟩
  obtain ⟨a, b, c⟩ := h2 k hk
  exact ⟨(e _ (by omega) (by omega)).trans a, (e _ (by omega) (by omega)).trans b, (e _ (by omega) (by omega)).trans c⟩
theorem MlA.keep {o : Nat} {l : LD} (W : LW l) (h : MlA I o l) (e : ∀ k, o ≤ k → k < o + 79 → J 96 k = I 96 k) : MlA J o l := by
  obtain ⟨h1, h2⟩ := h
  have hn := W.1
  refine ⟨(e _ (by omega) (by omega)).trans h1, fun k hk => ?_⟩
  have h3 := (W.2 k hk).1.2
  obtain ⟨a, b⟩ := h2 k hk
  exact ⟨(e _ (by omega) (by omega)).trans a, fun i hi => (e _ (by omega) (by omega)).trans (b i hi)⟩
theorem MgA.keep {o : Nat} {q : GD} (W : GW q) (h : MgA I o q) (e : ∀ k, o ≤ k → k < o + 17 → J 96 k = I 96 k) : MgA J o q := by
  obtain ⟨h1, h2⟩ := h
  have hn := W.1
  refine ⟨(e _ (by omega) (by omega)).trans h1, fun k hk => ?_⟩
  obtain ⟨a, b⟩ := h2 k hk
  exact ⟨(e _ (by omega) (by omega)).trans a, (e _ (by omega) (by omega)).trans b⟩
/-- hills, centuries, lines, logs of the reference's row -/
def MtB (I : Nat → Nat → Int32) (o : Nat) (t : TD) : Prop := (∀ i, i < tNh t → MhA I (o + 610 + 99 * i) (tH t i)) ∧ (∀ i, i < tNc t → McA I (o + 808 + 121 * i) (tC t i)) ∧ (∀ i, i < tNl t → MlA I (o + 1050 + 79 * i) (tL t i)) ∧ ∀ i, i < tNg t → MgA I (o + 1208 + 17 * i) (tG t i)
theorem MtB.keep {o : Nat} (W : TW t) (h : MtB I o t) (e : ∀ k, o + 610 ≤ k → k < o + 1242 → J 96 k = I 96 k) : MtB J o t := by
  obtain ⟨h1, h2, h3, h4⟩ := h
  obtain ⟨-, ⟨w1, w2⟩, ⟨w3, w4⟩, ⟨w5, w6⟩, w7, w8⟩ := W
  exact ⟨fun i hi => (h1 i hi).keep (w2 i hi).1 (fun k q1 q2 => e k (by omega) (by omega)), fun i hi => (h2 i hi).keep (w4 i hi) (fun k q1 q2 => e k (by omega) (by omega)), fun i hi => (h3 i hi).keep (w6 i hi) (fun k q1 q2 => e k (by omega) (by omega)), fun i hi => (h4 i hi).keep (w8 i hi) (fun k q1 q2 => e k (by omega) (by omega))⟩
theorem MtA.keep2 {o : Nat} (W : TW t) (h : MtA I o t) (e : ∀ k, o ≤ k → k < o + 1242 → J 96 k = I 96 k) : MtA J o t := by
  obtain ⟨⟨a1, a2, a3, a4⟩, ⟨c1, c2, c3, c4⟩, hB⟩ := h
  have hl := W.1.1
  exact ⟨⟨(e _ (by omega) (by omega)).trans a1, (e _ (by omega) (by omega)).trans a2, (e _ (by omega) (by omega)).trans a3, fun k hk => (e _ (by omega) (by omega)).trans (a4 k hk)⟩, ⟨(e _ (by omega) (by omega)).trans c1, (e _ (by omega) (by omega)).trans c2, (e _ (by omega) (by omega)).trans c3, (e _ (by omega) (by omega)).trans c4⟩, MtB.keep W hB (fun k q1 q2 => e k (by omega) q2)⟩
/-- hills, centuries, lines, logs of a Told -/
def TlB (I : Nat → Nat → Int32) (a : Nat) (t : TD) : Prop := (∀ i, i < tNh t → HlD I (a + 7 + 16 * i) (tH t i)) ∧ (∀ i, i < tNc t → CnD I (a + 13 + 16 * i) (tC t i)) ∧ (∀ i, i < tNl t → LnD I (a + 17 + 16 * i) (tL t i)) ∧ ∀ i, i < tNg t → LgD I (a + 20 + 16 * i) (tG t i)
theorem TlB.keep {a : Nat} (W : TW t) (h : TlB I a t) (e : ∀ j, 7 ≤ j → j < 39 → J (a + j) = I (a + j)) : TlB J a t := by
  obtain ⟨h3, h4, h5, h6⟩ := h
  refine ⟨fun i hi => ?_, fun i hi => ?_, fun i hi => ?_, fun i hi => ?_⟩
  · have := W.2.1.1; exact (h3 i hi).keep (fun j hj => by rw [Nat.add_assoc, Nat.add_assoc]; exact e _ (by omega) (by omega))
  · have := W.2.2.1.1; exact (h4 i hi).keep (fun j hj => by rw [Nat.add_assoc, Nat.add_assoc]; exact e _ (by omega) (by omega))
  · have := W.2.2.2.1.1; exact (h5 i hi).keep (fun j hj => by rw [Nat.add_assoc, Nat.add_assoc]; exact e _ (by omega) (by omega))
  · have := W.2.2.2.2.1; exact (h6 i hi).keep (fun j hj => by rw [Nat.add_assoc, Nat.add_assoc]; exact e _ (by omega) (by omega))
/-- a change of what is told now leaves the images -/
theorem LI.re {t' : TD} {R : Nat → Nat → Option Nat} (L : LI g I P t im) (hP : KpP P R) (h114 : ∀ a, 114 ≤ a → J a = I a) (h97 : J 97 = I 97) (h96 : ∀ k, 1242 ≤ k → J 96 k = I 96 k) (hb : (J 8 2 = 0 ∨ J 8 2 = 1) ∧ (J 24 2 = 0 ∨ J 24 2 = 1)) (W : TW t') (D : TlD J 1 t') (M : MtA J 0 t') : LI g J R t' im := by
  obtain ⟨h1, h2, h3, h4, h5, h6, h7, h8⟩ := L
  refine ⟨h1, hP.2, W, D, M, ⟨fun k hk hn => ?_, fun k t hk ht => ?_, fun j k x y hj hk hjk hx hy => ?_⟩, fun k hk => ?_, hb, fun k x hk hx => ?_⟩
  · rw [hP.1 40 (by omega)]; exact h6.1 k hk hn
  · obtain ⟨x, x1, x2, x3, x4, x5, x6⟩ := h6.2.1 k t hk ht
    exact ⟨x, by rw [hP.1 40 (by omega)]; exact x1, x2, x3, x4.keep (fun j hj => hP.1 _ (by omega)), x5.keep x6 (fun j hj => h114 _ (by omega)), x6⟩
  · rw [hP.1 40 (by omega)] at hx hy
    exact h6.2.2 j k x y hj hk hjk hx hy
  · refine ⟨?_, fun t ht => ?_⟩
    · rw [h97]; exact (h7 k hk).1
    · obtain ⟨x, -, -, -, -, -, x6⟩ := h6.2.1 k t hk ht
      exact ((h7 k hk).2 t ht).keep2 x6 (fun j q1 q2 => h96 j (by omega))
  · rw [hP.1 40 (by omega)] at hx
    obtain ⟨_, _, hge, _⟩ := h6.at hk hx
    rw [h114 (x + 7) (by omega), h114 (x + 23) (by omega)]; exact h8.2 k x hk hx
theorem b_end (L : LI g I P t im) (x1 : Int32) : ∃ (w : Int32) (I1 : Nat → Nat → Int32) (J : Nat → Nat → Int32) (t' : TD), Cl mX11_end [.ref 0, .int x1] (g, I, P) (some (.int w)) (g, I1, P) ∧ Cl mX12_end [.ref 95, .int x1] (g, I1, P) (some (.int w)) (g, J, P) ∧ LI g J P t' im := by
  have L0 := L
  obtain ⟨S, Q, W, D, M, -⟩ := L
  have e4 : (4 : Int32).toNatClampNeg = 4 := by decide
  have v4 : vp_in 4 (g.2.2 96) := by rw [S.l 96 4968 (by decide)]; exact vp_in_nI (n := 4) (by decide) (by decide)
  by_cases h : ¬ x1 < 0 ∧ x1 ≤ nI (tLen t)
  · obtain ⟨h0, hle⟩ := h
    obtain ⟨n, hn, rfl⟩ := nI_of h0
    have hnl : n ≤ tLen t := (nI_leI hn (by have := W.1.1; omega)).mp hle
    have hW := W.1.1
    refine ⟨nI n, zU I 1 1 (nI n), zU (zU I 1 1 (nI n)) 96 4 (nI n), ((n, tByte t), t.2), ?_, ?_, ?_⟩
    · refine eX11_end (wX11_end_0 ⟨fun q => absurd q h0, fun _ => ⟨S.k 0 11 (by decide), 1, Q.p 0 0 1 (by decide), S.k 1 9 (by decide), fun _ => ⟨S.k 0 11 (by decide), 1, Q.p 0 0 1 (by decide), S.k 1 9 (by decide), rfl, rfl⟩, fun q => ?_⟩⟩)
      rw [D.1.1] at q
      exact absurd hle q
    · refine eX12_end (wX12_end_0 ⟨fun q => absurd q h0, fun _ => ⟨S.k 95 12 (by decide), 96, Q.p 95 0 96 (by decide), S.k 96 13 (by decide), v4, fun _ => ⟨S.k 95 12 (by decide), 96, Q.p 95 0 96 (by decide), S.k 96 13 (by decide), v4, rfl, by rw [e4]⟩, fun q => ?_⟩⟩)
      rw [e4, zU_a I _ (by decide), show I 96 4 = nI (tLen t) from M.1.1] at q
      exact absurd hle q
    · have hJ : ∀ a, a ≠ 1 → a ≠ 96 → zU (zU I 1 1 (nI n)) 96 4 (nI n) a = I a := fun a q1 q2 => by funext k; rw [zU_a _ _ q2, zU_a _ _ q1]
      have hJ96 : ∀ k, k ≠ 4 → zU (zU I 1 1 (nI n)) 96 4 (nI n) 96 k = I 96 k := fun k q => by rw [zU_k _ _ q, zU_a _ _ (by decide)]
      have hJ1 : ∀ k, k ≠ 1 → zU (zU I 1 1 (nI n)) 96 4 (nI n) 1 k = I 1 k := fun k q => by rw [zU_a _ _ (by decide), zU_k _ _ q]
      have W' : TW ((n, tByte t), t.2) := ⟨⟨by show n ≤ 600; omega, fun k hk => W.1.2 k (Nat.lt_of_lt_of_le hk hnl)⟩, W.2⟩
      refine L0.re (KpP.rf Q) (fun a ha => hJ a (by omega) (by omega)) (hJ 97 (by decide) (by decide)) (fun k hk => hJ96 k (by omega)) (by rw [hJ 8 (by decide) (by decide), hJ 24 (by decide) (by decide)]; exact L0.2.2.2.2.2.2.2.1) W' ⟨⟨?_, ?_, ?_, fun k hk => ?_⟩, ?_, ?_⟩ ⟨⟨?_, ?_, ?_, fun k hk => ?_⟩, ?_, ?_⟩
      · rw [zU_a _ _ (by decide), zU_s]
      · exact (hJ1 2 (by decide)).trans D.1.2.1
      · exact (hJ1 3 (by decide)).trans D.1.2.2.1
      · rw [hJ 2 (by decide) (by decide)]; exact D.1.2.2.2 k (Nat.lt_of_lt_of_le hk hnl)
      · rw [hJ 3 (by decide) (by decide)]; exact D.2.1
      · exact TlB.keep W' (show TlB I 1 ((n, tByte t), t.2) from D.2.2) (fun j q1 q2 => hJ _ (by omega) (by omega))
      · exact zU_s _ _ _ _
      · exact (hJ96 5 (by decide)).trans M.1.2.1
      · exact (hJ96 6 (by decide)).trans M.1.2.2.1
      · exact (hJ96 _ (by omega)).trans (M.1.2.2.2 k (Nat.lt_of_lt_of_le hk hnl))
      · obtain ⟨c1, c2, c3, c4⟩ := M.2.1
        exact ⟨(hJ96 _ (by decide)).trans c1, (hJ96 _ (by decide)).trans c2, (hJ96 _ (by decide)).trans c3, (hJ96 _ (by decide)).trans c4⟩
      · exact MtB.keep W' (show MtB I 0 ((n, tByte t), t.2) from M.2.2) (fun k q1 q2 => hJ96 k (by omega))
  · refine ⟨-1, I, I, t, ?_, ?_, L0⟩
    · refine eX11_end (wX11_end_0 ⟨fun _ => ⟨rfl, rfl⟩, fun q => ⟨S.k 0 11 (by decide), 1, Q.p 0 0 1 (by decide), S.k 1 9 (by decide), fun q2 => ?_, fun _ => ⟨rfl, rfl⟩⟩⟩)
      rw [D.1.1] at q2
      exact absurd ⟨q, q2⟩ h
    · refine eX12_end (wX12_end_0 ⟨fun _ => ⟨rfl, rfl⟩, fun q => ⟨S.k 95 12 (by decide), 96, Q.p 95 0 96 (by decide), S.k 96 13 (by decide), v4, fun q2 => ?_, fun _ => ⟨rfl, rfl⟩⟩⟩)
      rw [e4, show I 96 4 = nI (tLen t) from M.1.1] at q2
      exact absurd ⟨q, q2⟩ h
end KEEP2
