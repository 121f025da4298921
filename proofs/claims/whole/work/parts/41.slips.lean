/-! ===== slips ===== -/
section SLIPS
variable {g : zG} {I : Nat → Nat → Int32} {P : Nat → Nat → Option Nat} {t : TD} {im : Nat → Option TD} {a : Nat} {d : HD}
theorem Er.k82 {J : Nat → Nat → Int32} {n : Nat} {f : Nat → Nat} (E : Er g I P a d n f) (h : K82 I J) : Er g J P a d n f := by
  obtain ⟨S, Q, T, W, D, e1, e2, e3, e4, e5⟩ := E
  exact ⟨S, Q, T, W, D.keep (fun j hj => h _ (by omega)), e1, (by rw [h 73 (by decide)]; exact e2), e3, e4, fun i hi => by rw [h 80 (by decide)]; exact e5 i hi⟩
/-- words from which the line is at most x changes away -/
def slp (d : HD) (f : Nat → Nat) (n x w : Nat) : Bool := decide (ed (hL d w) f (hZ d w) n ≤ x)
theorem c_slips {n x : Nat} {f : Nat → Nat} (E : Er g I P a d n f) (hx : x < 2 ^ 31) : ∃ J, Cl mX1_slipsUpTo [.ref 73, .int (nI x)] (g, I, P) (some (.int (bs (slp d f n x) (hN d)))) (g, J, P) ∧ K82 I J := by
  have key : ∀ m w (K : Nat → Nat → Int32), w + m = hN d → K82 I K → ∃ J, Zt none mX1_slipsUpTo 0 0 4 [(0, .ref 73), (1, .int (nI x)), (2, .int (bs (slp d f n x) w)), (3, .int (nI w))] [] (g, K, P) (some (.int (bs (slp d f n x) (hN d)))) (g, J, P) ∧ K82 I J := by
    intro m
    induction m with
    | zero =>
      intro w K hw hK
      obtain rfl : w = hN d := hw
      obtain ⟨S, Q, T, W, D, e1, e2, e3, e4, e5⟩ := E.k82 hK
      exact ⟨K, wX1_slipsUpTo_4 ⟨S.k 73 1 (by decide), _, e1, T.1, fun _ => ⟨rfl, rfl⟩, fun q => absurd (by rw [D.2.1]; exact Int32.le_refl _) q⟩, hK⟩
    | succ m ih =>
      intro w K hw hK
      obtain ⟨S, Q, T, W, D, e1, e2, e3, e4, e5⟩ := E.k82 hK
      have h10 := W.2.1
      obtain ⟨K1, z, z2⟩ := c_changesTo (w := w) (b := 80) (o := 0) (n := n) (v := f) S Q T W D (by omega) (by omega) (S.k 80 13 (by decide)) (S.l 80 12 (by decide)) (by decide) (by omega) e3 (by decide) (fun k hk => by rw [Nat.zero_add]; exact e5 k hk)
      have h12 := ed_le (hL d w) f (hZ d w) n
      have hz := (W.2.2.1 w (by omega)).2
      have hK1 : K82 I K1 := fun c hc => (z2 c hc).trans (hK c hc)
      obtain ⟨J, y, y2⟩ := ih (w + 1) K1 (by omega) hK1
      refine ⟨J, wX1_slipsUpTo_4 ⟨S.k 73 1 (by decide), _, e1, T.1, fun q => ?_, fun _ => ⟨S.k 73 1 (by decide), _, e1, S.k 73 1 (by decide), 80, Q.p 73 2 80 (by decide), S.k 73 1 (by decide), S.k 73 1 (by decide), _, _, by rw [e2]; exact z, pk_lt x (ed (hL d w) f (hZ d w) n) (fun h => ?_) (fun h => ⟨_, c_bit (by omega), ?_⟩)⟩⟩, y2⟩
      · rw [D.2.1] at q
        exact absurd q (nI_ge (by omega) (by omega))
      · rw [bs_f (decide_eq_false (by omega))] at y
        rw [nI_1]; exact y
      · rw [bs_t (decide_eq_true h)] at y
        rw [nI_1]; exact y
  obtain ⟨J, z, z2⟩ := key (hN d) 0 I (by omega) (fun _ _ => rfl)
  exact ⟨J, eX1_slipsUpTo (wX1_slipsUpTo_0 z), z2⟩
theorem r_slips {n x h0 l0 : Nat} {f : Nat → Nat} (S : Sg g) (Q : Sp P) (W : HW d) (D : MhD I h0 d) (E : MeD I l0 n f) (hn : n ≤ 12) (hf : ∀ k, k < n → f k < 6) (hx : x < 2 ^ 31) : ∃ J, Zt none mX12_slips 0 0 35 [(0, .ref 95), (4, .int (nI x)), (5, .int 0), (6, .int 0)] [] (g, I, P) (some (.int (bs (slp d f n x) (hN d)))) (g, J, P) ∧ Ke I J := by
  have h10 := W.2.1
  have key : ∀ m w (K : Nat → Nat → Int32), w + m = hN d → Ke I K → ∃ J, Zt none mX12_slips 0 0 35 [(0, .ref 95), (4, .int (nI x)), (5, .int (bs (slp d f n x) w)), (6, .int (nI w))] [] (g, K, P) (some (.int (bs (slp d f n x) (hN d)))) (g, J, P) ∧ Ke I J := by
    intro m
    induction m with
    | zero =>
      intro w K hw hK
      obtain rfl : w = hN d := hw
      exact ⟨K, wX12_slips_35 ⟨S.k 95 12 (by decide), fun _ => ⟨rfl, rfl⟩, fun q => absurd (by rw [(hK.h D).2.2.2.1]; exact Int32.le_refl _) q⟩, hK⟩
    | succ m ih =>
      intro w K hw hK
      have hz := (W.2.2.1 w (by omega)).2
      have inner : ∀ m k (K : Nat → Nat → Int32), k + m = n → Ke I K → (∀ j, j < k → K 108 j = nI (f j)) → ∃ J, Zt none mX12_slips 0 0 47 [(0, .ref 95), (4, .int (nI x)), (5, .int (bs (slp d f n x) w)), (6, .int (nI w)), (7, .int (nI k))] [] (g, K, P) (some (.int (bs (slp d f n x) (hN d)))) (g, J, P) ∧ Ke I J := by
        intro m
        induction m with
        | zero =>
          intro k K hk hK h1
          obtain rfl : k = n := hk
          have e27 : K 95 27 = nI k := (hK.e E).2.2.1
          have hK1 : Ke I (zU K 95 31 (nI k)) := hK.u5 _ _ (Or.inl rfl)
          have O : Mo (zU K 95 31 (nI k)) k f := ⟨hn, zU_s _ _ _ _, fun j hj => ⟨by rw [zU_a _ _ (by decide)]; exact h1 j hj, hf j hj⟩⟩
          obtain ⟨J2, z2, O2, R2, f2⟩ := r_takes0 (w := w) S Q W (hK1.h D) (by omega) O
          obtain ⟨J3, z3, f3⟩ := r_changesOf S Q O2 R2
          rw [ed_sym] at z3
          have h12 := ed_le (hL d w) f (hZ d w) k
          have hK3 : Ke I J3 := (hK1.tr f2).tr ⟨fun c a1 a2 a3 a4 => f3 c a4, fun k _ _ => by rw [f3 95 (by decide)]⟩
          obtain ⟨J, y, y2⟩ := ih (w + 1) J3 (by omega) hK3
          refine ⟨J, wX12_slips_47 ⟨S.k 95 12 (by decide), fun _ => ⟨S.k 95 12 (by decide), S.k 95 12 (by decide), S.k 95 12 (by decide), _, by rw [e27]; exact z2, S.k 95 12 (by decide), _, _, z3, pk_lt x (ed (hL d w) f (hZ d w) k) (fun h => ?_) (fun h b hb => ?_)⟩, fun q => absurd (by rw [e27]; exact Int32.le_refl _) q⟩, y2⟩
          · rw [bs_f (decide_eq_false (by omega))] at y
            rw [nI_1, or_z]; exact y
          · rw [bs_t (decide_eq_true h)] at y
            rw [nI_1, hb]; exact y
        | succ m ihk =>
          intro k K hk hK h1
          have E2 := hK.e E
          obtain ⟨J, y, y2⟩ := ihk (k + 1) (zU K 108 k (nI (f k))) (by omega) (hK.u _ _ _ (Or.inl rfl)) (fun j hj => by
            by_cases e : j = k
            · subst e; rw [zU_s]
            · rw [zU_k _ _ e]; exact h1 j (by omega))
          refine ⟨J, wX12_slips_47 ⟨S.k 95 12 (by decide), fun q => ?_, fun _ => ⟨S.k 95 12 (by decide), 108, Q.p 95 29 108 (by decide), S.k 95 12 (by decide), _, r_inLine S Q E2 (by omega), S.k 108 13 (by decide), ?_, ?_⟩⟩, y2⟩
          · rw [E2.2.2.1] at q
            exact absurd q (nI_ge (by omega) (by omega))
          · rw [S.l 108 12 (by decide)]; exact vp_in_nI (by omega) (by decide)
          · rw [nI_clamp (by omega), nI_1]; exact y
      obtain ⟨J, y, y2⟩ := inner n 0 K (by omega) hK (fun j hj => by omega)
      refine ⟨J, wX12_slips_35 ⟨S.k 95 12 (by decide), fun q => ?_, fun _ => y⟩, y2⟩
      rw [(hK.h D).2.2.2.1] at q
      exact absurd q (nI_ge (by omega) (by omega))
  exact key (hN d) 0 I (by omega) (Ke.rf I)
theorem b_slips (L : LI g I P t im) (x1 x2 x3 x4 : Int32) : ∃ (w : Int32) (I1 : Nat → Nat → Int32) (P1 : Nat → Nat → Option Nat) (J : Nat → Nat → Int32), Cl mX11_slips [.ref 0, .int x1, .int x2, .int x3, .int x4] (g, I, P) (some (.int w)) (g, I1, P1) ∧ Kp I I1 ∧ KpP P P1 ∧ Cl mX12_slips [.ref 95, .int x1, .int x2, .int x3, .int x4] (g, I1, P1) (some (.int w)) (g, J, P1) ∧ Km I1 J := by
  refine u_slips L (fun i j k hp hl hk => ?_)
  have L0 := L
  obtain ⟨S, Q0, TW0, -, M0, -⟩ := L
  by_cases hx : ¬ x4 < 0 ∧ ¬ 3 < x4
  · obtain ⟨x, -, hx3, rfl⟩ := inN (lo := 0) (hi := 3) (by decide) (by decide) hx.1 hx.2
    obtain ⟨I1, z, kI, kP, E, M1⟩ := hear L0 hp hl hk
    have E0 := E
    obtain ⟨-, Q, -, HW0, -, -, -, e12, -, ef⟩ := E
    obtain ⟨I2, zc, kc⟩ := c_slips E0 (x := x) (by omega)
    obtain ⟨J1, J2, z1, z2, D2, ⟨l0, E2⟩, f2⟩ := hearR S Q TW0 (M1.keep (kc 96 (by decide))) hp hl hk
    obtain ⟨J3, z3, f3⟩ := r_slips (x := x) S Q HW0 D2 E2 e12 (fun q hq => (ef q hq).2) (by omega)
    refine ⟨_, I2, _, J3, ?_, kI.tr kc.p, kP, eX12_slips (wX12_slips_0 ⟨S.k 95 12 (by decide), _, _, z1, fun q => absurd q (by decide), fun _ => ⟨S.k 95 12 (by decide), _, _, z2, fun q => absurd q (by decide), fun _ => ⟨_, r_isInN (lo := 0) (hi := 3) (by omega) (by decide) (by decide), zq (fun _ => z3) (fun q => ?_)⟩⟩⟩), f2.m.tr f3.m⟩
    · refine eX11_slips (wX11_slips_0 ⟨fun q => absurd q hx.1, fun _ => ⟨fun q => absurd q hx.2, fun _ => ⟨S.k 0 11 (by decide), 73, Q0.p 0 4 73 (by decide), S.k 0 11 (by decide), 1, Q0.p 0 0 1 (by decide), S.k 1 9 (by decide), _, c_hillY L0 hp, fun q => (nomatch q), fun b hb => ⟨S.k 0 11 (by decide), 1, Q0.p 0 0 1 (by decide), S.k 1 9 (by decide), _, c_linesY L0 hl, fun q => (nomatch q), fun b2 hb2 => ?_⟩⟩⟩⟩)
      cases hb
      cases hb2
      exact ⟨S.k 73 1 (by decide), _, _, _, z, fun _ => ⟨S.k 0 11 (by decide), 73, Q.p 0 4 73 (by decide), S.k 73 1 (by decide), _, _, zc, rfl, rfl⟩, fun q => absurd q (by decide)⟩
    · have := of_decide_eq_false q; omega
  · obtain ⟨J1, J2, z1, z2, D2, ⟨l0, E2⟩, f2⟩ := hearR S Q0 TW0 M0 hp hl hk
    refine ⟨-1, I, P, J2, ?_, Kp.rf I, KpP.rf Q0, eX12_slips (wX12_slips_0 ⟨S.k 95 12 (by decide), _, _, z1, fun q => absurd q (by decide), fun _ => ⟨S.k 95 12 (by decide), _, _, z2, fun q => absurd q (by decide), fun _ => ⟨_, r_isIn, zq (fun q => absurd (of_decide_eq_true q) hx) (fun _ => ⟨rfl, rfl⟩)⟩⟩⟩), f2.m⟩
    exact eX11_slips (wX11_slips_0 ⟨fun _ => ⟨rfl, rfl⟩, fun q => ⟨fun _ => ⟨rfl, rfl⟩, fun q2 => absurd ⟨q, q2⟩ hx⟩⟩)
end SLIPS
