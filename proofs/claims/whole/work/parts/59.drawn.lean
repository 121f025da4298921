/-! ===== drawn ===== -/
def stir (x : Int32) : Int32 := x * 1103515245 + 12345
def blw (x : Int32) (n : Nat) : Nat := x.toBitVec.toNat / 65536 % n
theorem zus16 (x : Int32) : zus x 16 = nI (x.toBitVec.toNat / 65536) := by
  have h : (zus x 16).toBitVec.toNat = x.toBitVec.toNat / 65536 := by
    unfold zus
    rw [pk_ushr x _ 16 (by decide)]
  have hx := x.toBitVec.isLt
  apply Int32.toBitVec_inj.mp
  apply BitVec.eq_of_toNat_eq
  rw [h, pk_tn (by omega)]
theorem blw_v {x : Int32} {n : Nat} (h0 : 0 < n) (hn : n < 2 ^ 31) : zus x 16 - zus x 16 / nI n * nI n = nI (blw x n) := by
  have hx := x.toBitVec.isLt
  rw [zus16, pk_rem (by omega) h0 hn]
  rfl
theorem blw_lt {x : Int32} {n : Nat} (h0 : 0 < n) : blw x n < n := Nat.mod_lt _ h0
def dkd (x : Int32) : Nat := if blw x 8 < 5 then 0 else if blw x 8 = 5 then 2 else if blw x 8 = 6 then 1 else 3
theorem dkd_le (x : Int32) : dkd x ≤ 3 := by
  unfold dkd
  by_cases c1 : blw x 8 < 5
  · rw [if_pos c1]; decide
  · rw [if_neg c1]
    by_cases c2 : blw x 8 = 5
    · rw [if_pos c2]; decide
    · rw [if_neg c2]
      by_cases c3 : blw x 8 = 6
      · rw [if_pos c3]; decide
      · rw [if_neg c3]; decide
def dst (d : HD) (p : Int32 × QD) : Int32 × QD := if dkd (stir p.1) ≤ 1 then (stir (stir (stir p.1)), (stp d p.2 (dkd (stir p.1)) (blw (stir (stir p.1)) (hS d)) (blw (stir (stir (stir p.1))) 6)).getD p.2) else (stir (stir p.1), (stp d p.2 (dkd (stir p.1)) (blw (stir (stir p.1)) (hS d)) 0).getD p.2)
def dsn (d : HD) (x : Int32) : Nat → Int32 × QD
  | 0 => (x, q0)
  | n + 1 => dst d (dsn d x n)
theorem stp_wD {d : HD} {n k s l : Nat} {q : QD} (h : QW d n q) (hl : k ≤ 1 → l < 6) : QW d (n + 1) ((stp d q k s l).getD q) := by
  cases e : stp d q k s l with
  | none => exact h.up (by omega)
  | some q' => exact stp_w h hl e
theorem dsn_w (d : HD) (x : Int32) : ∀ n, QW d n (dsn d x n).2 := by
  intro n
  induction n with
  | zero => exact q0_w d
  | succ n ih =>
    show QW d (n + 1) (dst d (dsn d x n)).2
    unfold dst
    by_cases h : dkd (stir (dsn d x n).1) ≤ 1
    · rw [if_pos h]; exact stp_wD ih (fun _ => blw_lt (by decide))
    · rw [if_neg h]; exact stp_wD ih (fun h2 => absurd h2 h)
section DRAWN
variable {g : zG} {I : Nat → Nat → Int32} {P : Nat → Nat → Option Nat} {t : TD} {im : Nat → Option TD} {a : Nat} {d : HD} {q : QD} {n s h0 : Nat}
theorem c_stir {x : Int32} : Cl mX2_stir [.int x] (g, I, P) (some (.int (stir x))) (g, I, P) := eX2_stir (wX2_stir_0 ⟨rfl, rfl⟩)
theorem c_below {x : Int32} {m : Nat} (h0 : 0 < m) (hm : m < 2 ^ 31) : Cl mX2_below [.int x, .int (nI m)] (g, I, P) (some (.int (nI (blw x m)))) (g, I, P) := by
  refine eX2_below (wX2_below_0 ⟨fun _ => ⟨fun h => absurd ((nI_eq (b := 0) hm (by decide)).mp h) (by omega), by rw [blw_v h0 hm], rfl⟩, fun h => absurd (nI_le (a := 1) h0 hm) h⟩)
theorem c_draw {x : Int32} {m : Nat} (S : Sg g) (Q : Sp P) (T : HlS g P a) (W : HW d) (X : HX d) (D : HlD I a d) (ha : a + 5 < 41) (hm : m < 2 ^ 31) : ∃ J, Cl mX2_draw [.ref 59, .ref a, .int x, .int (nI m)] (g, I, P) none (g, J, zU P 59 0 (some a)) ∧ GE g (zU P 59 0 (some a)) a d ∧ HlD J a d ∧ GS J (dsn d x m).2 ∧ Kp I J := by
  have h4 := W.1
  obtain ⟨I1, z1, G1, e1, k1⟩ := c_begin (I := I) (a := a) S Q
  have E : GE g (zU P 59 0 (some a)) a d := ⟨S, Sp_59 Q _, T.keep (by funext j; rw [zU_a _ _ (by omega)]), W, X, zU_s _ _ _ _, ha⟩
  have loop : ∀ r k (K : Nat → Nat → Int32), k + r = m → Kp I K → GS K (dsn d x k).2 → ∃ J, Zt none mX2_draw 0 0 11 [(0, .ref 59), (1, .ref a), (3, .int (nI m)), (4, .int (dsn d x k).1), (5, .int (nI k))] [] (g, K, zU P 59 0 (some a)) none (g, J, zU P 59 0 (some a)) ∧ HlD J a d ∧ GS J (dsn d x m).2 ∧ Kp I J := by
    intro r
    induction r with
    | zero =>
      intro k K hk hK hG
      obtain rfl : k = m := hk
      exact ⟨K, wX2_draw_11 ⟨fun _ => ⟨rfl, rfl⟩, fun q => absurd (Int32.le_refl _) q⟩, D.keep (fun j hj => hK _ (by omega)), hG, hK⟩
    | succ r ih =>
      intro k K hk hK hG
      have DK : HlD K a d := D.keep (fun j hj => hK _ (by omega))
      have V := dsn_w d x k
      have es : dsn d x (k + 1) = dst d (dsn d x k) := rfl
      generalize hp : dsn d x k = p at hG V es ⊢
      have b2 := blw_lt (x := stir (stir p.1)) (n := hS d) (by omega)
      have b1 := blw_lt (x := stir p.1) (n := 8) (by decide)
      have b3 := blw_lt (x := stir (stir (stir p.1))) (n := 6) (by decide)
      -- the deed and what follows
      have fin : ∃ J, Zt none mX2_draw 0 0 83 [(0, .ref 59), (1, .ref a), (3, .int (nI m)), (4, .int (stir (stir p.1))), (5, .int (nI k)), (7, .int (nI (blw (stir (stir p.1)) (hS d))))] [.int (nI (dkd (stir p.1)))] (g, K, zU P 59 0 (some a)) none (g, J, zU P 59 0 (some a)) ∧ HlD J a d ∧ GS J (dsn d x m).2 ∧ Kp I J := by
        unfold dst at es
        have dl := dkd_le (stir p.1)
        by_cases hd : dkd (stir p.1) ≤ 1
        · rw [if_pos hd] at es
          obtain ⟨J1, z, hG1, hK1⟩ := c_does (k := dkd (stir p.1)) (s := blw (stir (stir p.1)) (hS d)) (x := nI (blw (stir (stir (stir p.1))) 6)) (l := blw (stir (stir (stir p.1))) 6) E DK hG V (by omega) (by omega) (fun _ => ⟨rfl, b3⟩)
          obtain ⟨J, zz, z2⟩ := ih (k + 1) J1 (by omega) (hK.tr hK1.p) (by rw [es]; exact hG1)
          rw [es, ← nI_1] at zz
          have st : Zt none mX2_draw 0 0 99 [(0, .ref 59), (1, .ref a), (3, .int (nI m)), (4, .int (stir (stir p.1))), (5, .int (nI k)), (7, .int (nI (blw (stir (stir p.1)) (hS d)))), (8, .int (nI (dkd (stir p.1))))] [] (g, K, zU P 59 0 (some a)) none (g, J, zU P 59 0 (some a)) := wX2_draw_99 ⟨_, c_stir, _, c_below (m := 6) (by decide) (by decide), S.k 59 2 (by decide), _, _, z, zz⟩
          refine ⟨J, wX2_draw_83 ⟨fun _ => st, fun h0 => ⟨fun h1 => ?_, fun _ => st⟩⟩, z2⟩
          exfalso
          rcases (show dkd (stir p.1) = 0 ∨ dkd (stir p.1) = 1 by omega) with e | e
          · exact h0 (by rw [e]; rfl)
          · exact h1 (by rw [e]; rfl)
        · rw [if_neg hd] at es
          obtain ⟨J1, z, hG1, hK1⟩ := c_does (k := dkd (stir p.1)) (s := blw (stir (stir p.1)) (hS d)) (x := -1) (l := 0) E DK hG V (by omega) (by omega) (fun h => absurd h hd)
          obtain ⟨J, zz, z2⟩ := ih (k + 1) J1 (by omega) (hK.tr hK1.p) (by rw [es]; exact hG1)
          rw [es, ← nI_1] at zz
          exact ⟨J, wX2_draw_83 ⟨fun h => absurd ((nI_eq (b := 0) (by omega) (by decide)).mp h) (by omega), fun _ => ⟨fun _ => ⟨S.k 59 2 (by decide), _, _, z, zz⟩, fun h => absurd ((nI_eq (b := 1) (by omega) (by decide)).mp h) (by omega)⟩⟩, z2⟩
      obtain ⟨J, zf, z2⟩ := fin
      refine ⟨J, wX2_draw_11 ⟨fun q => absurd q (nI_ge (by omega) (by omega)), fun _ => ⟨_, c_stir, _, c_below (m := 8) (by decide) (by decide), _, c_stir, T.1, _, by rw [DK.1]; exact c_below (by omega) (by omega), pk_le 5 (blw (stir p.1) 8) (fun h5 => pq_eq (blw (stir p.1) 8) 5 (fun n5 => pq_eq (blw (stir p.1) 8) 6 (fun n6 => ?_) (fun n6 => ?_)) (fun n5 => ?_)) (fun h5 => ?_)⟩⟩, z2⟩
      · have e : dkd (stir p.1) = 3 := by unfold dkd; rw [if_neg (by omega), if_neg n5, if_neg n6]
        rw [e] at zf; exact zf
      · have e : dkd (stir p.1) = 1 := by unfold dkd; rw [if_neg (by omega), if_neg n5, if_pos n6]
        rw [e] at zf; exact zf
      · have e : dkd (stir p.1) = 2 := by unfold dkd; rw [if_neg (by omega), if_pos n5]
        rw [e] at zf; exact zf
      · have e : dkd (stir p.1) = 0 := by unfold dkd; rw [if_pos h5]
        rw [e] at zf; exact zf
  obtain ⟨J, z, z2⟩ := loop m 0 I1 (by omega) k1 G1
  exact ⟨J, eX2_draw (wX2_draw_0 ⟨S.k 59 2 (by decide), _, _, z1, z⟩), E, z2⟩
/-- only the stones and the slots 17, 25, 40 are changed -/
def KX (I J : Nat → Nat → Int32) : Prop := (∀ c, c ≠ 95 → ¬ (100 ≤ c ∧ c ≤ 106) → J c = I c) ∧ ∀ k, k ≠ 17 → k ≠ 25 → k ≠ 40 → J 95 k = I 95 k
theorem KX.tr {I J K : Nat → Nat → Int32} (h : KX I J) (h2 : KX J K) : KX I K := ⟨fun c c1 c2 => (h2.1 c c1 c2).trans (h.1 c c1 c2), fun k k1 k2 k3 => (h2.2 k k1 k2 k3).trans (h.2 k k1 k2 k3)⟩
theorem KS.x {I J : Nat → Nat → Int32} (h : KS I J) : KX I J := ⟨h.1, fun k k1 k2 _ => h.2 k k1 k2⟩
theorem KX.m {I J : Nat → Nat → Int32} (h : KX I J) : Km I J := fun c hc => h.1 c (by omega) (by omega)
theorem KX.u (I : Nat → Nat → Int32) (x : Int32) : KX I (zU I 95 40 x) := ⟨fun b b1 b2 => by funext j; rw [zU_a _ _ b1], fun j _ _ j3 => by rw [zU_k _ _ j3]⟩
theorem KX.h {J : Nat → Nat → Int32} (k : KX I J) (D : MhD I h0 d) : MhD J h0 d := by
  unfold MhD MhA
  rw [k.2 13 (by decide) (by decide) (by decide), k.2 14 (by decide) (by decide) (by decide), k.2 15 (by decide) (by decide) (by decide), k.1 96 (by decide) (by decide)]
  exact D
theorem RS.u40 (G : RS I q) (x : Int32) : RS (zU I 95 40 x) q := ⟨by rw [zU_k _ _ (by decide)]; exact G.1, G.2.same (by funext j; simp [zU]) (by funext j; simp [zU]) (by funext j; simp [zU]) (by funext j; simp [zU]) (by funext j; simp [zU]) (by funext j; simp [zU]) (by funext j; simp [zU])⟩
theorem r_below {x : Int32} {m : Nat} (S : Sg g) (hx : I 95 40 = x) (hm0 : 0 < m) (hm : m < 2 ^ 31) : Cl mX12_below [.ref 95, .int (nI m)] (g, I, P) (some (.int (nI (blw (stir x) m)))) (g, zU I 95 40 (stir x), P) := by
  refine eX12_below (wX12_below_0 ⟨S.k 95 12 (by decide), S.k 95 12 (by decide), S.k 95 12 (by decide), fun h => absurd ((nI_eq (b := 0) hm (by decide)).mp h) (by omega), ?_, ?_⟩)
  · rw [zU_s, hx]
    exact congrArg (fun z => some (Value.int z)) (blw_v (x := stir x) hm0 hm).symm
  · rw [hx]; rfl
theorem r_draws {p : Int32 × QD} (S : Sg g) (Q : Sp P) (W : HW d) (D : MhD I h0 d) (G : RS I p.2) (V : QW d n p.2) (hx : I 95 40 = p.1) : ∃ J, Cl mX12_draws [.ref 95] (g, I, P) none (g, J, P) ∧ RS J (dst d p).2 ∧ J 95 40 = (dst d p).1 ∧ KX I J := by
  have h4 := W.1
  have b2 := blw_lt (x := stir (stir p.1)) (n := hS d) (by omega)
  have b1 := blw_lt (x := stir p.1) (n := 8) (by decide)
  have b3 := blw_lt (x := stir (stir (stir p.1))) (n := 6) (by decide)
  have y1 := r_below (g := g) (I := I) (P := P) (m := 8) S hx (by decide) (by decide)
  have k1 : KX I (zU I 95 40 (stir p.1)) := KX.u I _
  have D1 := k1.h D
  have y2 := r_below (g := g) (I := zU I 95 40 (stir p.1)) (P := P) (x := stir p.1) (m := hS d) S (zU_s _ _ _ _) (by omega) (by omega)
  have k2 : KX I (zU (zU I 95 40 (stir p.1)) 95 40 (stir (stir p.1))) := k1.tr (KX.u _ _)
  have G2 : RS (zU (zU I 95 40 (stir p.1)) 95 40 (stir (stir p.1))) p.2 := (G.u40 _).u40 _
  have e2 : zU (zU I 95 40 (stir p.1)) 95 40 (stir (stir p.1)) 95 40 = stir (stir p.1) := zU_s _ _ _ _
  generalize zU (zU I 95 40 (stir p.1)) 95 40 (stir (stir p.1)) = I2 at y2 k2 G2 e2
  have D2 := k2.h D
  have y3 := r_below (g := g) (I := I2) (P := P) (x := stir (stir p.1)) (m := 6) S e2 (by decide) (by decide)
  have k3 : KX I (zU I2 95 40 (stir (stir (stir p.1)))) := k2.tr (KX.u _ _)
  have G3 : RS (zU I2 95 40 (stir (stir (stir p.1)))) p.2 := G2.u40 _
  have e3 : zU I2 95 40 (stir (stir (stir p.1))) 95 40 = stir (stir (stir p.1)) := zU_s _ _ _ _
  generalize zU I2 95 40 (stir (stir (stir p.1))) = I3 at y3 k3 G3 e3
  have D3 := k3.h D
  have y2' : Cl mX12_below [.ref 95, .int (zU I 95 40 (stir p.1) 95 14)] (g, zU I 95 40 (stir p.1), P) (some (.int (nI (blw (stir (stir p.1)) (hS d))))) (g, I2, P) := by rw [D1.2.2.1]; exact y2
  unfold dst
  by_cases c5 : blw (stir p.1) 8 < 5
  · have e : dkd (stir p.1) = 0 := by unfold dkd; rw [if_pos c5]
    rw [e, if_pos (by decide)]
    obtain ⟨J, z, hG, hK⟩ := r_does (k := 0) (s := blw (stir (stir p.1)) (hS d)) (x := nI (blw (stir (stir (stir p.1))) 6)) (l := blw (stir (stir (stir p.1))) 6) S Q W D3 G3 V (by decide) (by omega) (fun _ => ⟨rfl, b3⟩)
    exact ⟨J, eX12_draws (wX12_draws_0 ⟨S.k 95 12 (by decide), _, _, y1, S.k 95 12 (by decide), S.k 95 12 (by decide), _, _, y2', pk_le 5 (blw (stir p.1) 8) (fun h => absurd c5 (by omega)) (fun _ => ⟨S.k 95 12 (by decide), _, _, y3, S.k 95 12 (by decide), _, _, z, rfl, rfl⟩)⟩), hG, (hK.2 40 (by decide)).trans e3, k3.tr hK.toS.x⟩
  · by_cases c6 : blw (stir p.1) 8 = 5
    · have e : dkd (stir p.1) = 2 := by unfold dkd; rw [if_neg c5, if_pos c6]
      rw [e, if_neg (by decide)]
      obtain ⟨J, z, hG, hK⟩ := r_does (k := 2) (s := blw (stir (stir p.1)) (hS d)) (x := -1) (l := 0) S Q W D2 G2 V (by decide) (by omega) (fun h => absurd h (by decide))
      exact ⟨J, eX12_draws (wX12_draws_0 ⟨S.k 95 12 (by decide), _, _, y1, S.k 95 12 (by decide), S.k 95 12 (by decide), _, _, y2', pk_le 5 (blw (stir p.1) 8) (fun _ => pq_eq (blw (stir p.1) 8) 5 (fun h => absurd c6 h) (fun _ => ⟨S.k 95 12 (by decide), _, _, z, rfl, rfl⟩)) (fun h => absurd h c5)⟩), hG, (hK.2 40 (by decide)).trans e2, k2.tr hK.toS.x⟩
    · by_cases c7 : blw (stir p.1) 8 = 6
      · have e : dkd (stir p.1) = 1 := by unfold dkd; rw [if_neg c5, if_neg c6, if_pos c7]
        rw [e, if_pos (by decide)]
        obtain ⟨J, z, hG, hK⟩ := r_does (k := 1) (s := blw (stir (stir p.1)) (hS d)) (x := nI (blw (stir (stir (stir p.1))) 6)) (l := blw (stir (stir (stir p.1))) 6) S Q W D3 G3 V (by decide) (by omega) (fun _ => ⟨rfl, b3⟩)
        exact ⟨J, eX12_draws (wX12_draws_0 ⟨S.k 95 12 (by decide), _, _, y1, S.k 95 12 (by decide), S.k 95 12 (by decide), _, _, y2', pk_le 5 (blw (stir p.1) 8) (fun _ => pq_eq (blw (stir p.1) 8) 5 (fun _ => pq_eq (blw (stir p.1) 8) 6 (fun h => absurd c7 h) (fun _ => ⟨S.k 95 12 (by decide), _, _, y3, S.k 95 12 (by decide), _, _, z, rfl, rfl⟩)) (fun h => absurd h c6)) (fun h => absurd h c5)⟩), hG, (hK.2 40 (by decide)).trans e3, k3.tr hK.toS.x⟩
      · have e : dkd (stir p.1) = 3 := by unfold dkd; rw [if_neg c5, if_neg c6, if_neg c7]
        rw [e, if_neg (by decide)]
        obtain ⟨J, z, hG, hK⟩ := r_does (k := 3) (s := blw (stir (stir p.1)) (hS d)) (x := -1) (l := 0) S Q W D2 G2 V (by decide) (by omega) (fun h => absurd h (by decide))
        exact ⟨J, eX12_draws (wX12_draws_0 ⟨S.k 95 12 (by decide), _, _, y1, S.k 95 12 (by decide), S.k 95 12 (by decide), _, _, y2', pk_le 5 (blw (stir p.1) 8) (fun _ => pq_eq (blw (stir p.1) 8) 5 (fun _ => pq_eq (blw (stir p.1) 8) 6 (fun _ => ⟨S.k 95 12 (by decide), _, _, z, rfl, rfl⟩) (fun h => absurd h c7)) (fun h => absurd h c6)) (fun h => absurd h c5)⟩), hG, (hK.2 40 (by decide)).trans e2, k2.tr hK.toS.x⟩
theorem r_drawn {x y : Int32} {m : Nat} (S : Sg g) (Q : Sp P) (W : HW d) (D : MhD I h0 d) (hm : m < 2 ^ 31) (hy : ¬ y < 0) : ∃ I1 J, Cl mX12_begins [.ref 95] (g, zU I 95 40 x, P) none (g, I1, P) ∧ Zt none mX12_drawn 0 0 38 [(0, .ref 95), (3, .int (nI m)), (4, .int y), (5, .int 0)] [] (g, I1, P) (some (.int (F_now d (dsn d x m).2 y))) (g, J, P) ∧ KX I J := by
  obtain ⟨I1, z1, G1, e1, k1⟩ := r_begins (I := zU I 95 40 x) S Q
  have kk : KX I I1 := (KX.u I x).tr k1.x
  have e40 : I1 95 40 = x := (k1.2 40 (by decide) (by decide)).trans (zU_s _ _ _ _)
  have loop : ∀ r k (K : Nat → Nat → Int32), k + r = m → KX I K → RS K (dsn d x k).2 → K 95 40 = (dsn d x k).1 → ∃ J, Zt none mX12_drawn 0 0 38 [(0, .ref 95), (3, .int (nI m)), (4, .int y), (5, .int (nI k))] [] (g, K, P) (some (.int (F_now d (dsn d x m).2 y))) (g, J, P) ∧ KX I J := by
    intro r
    induction r with
    | zero =>
      intro k K hk hK hG h40
      obtain rfl : k = m := hk
      exact ⟨K, wX12_drawn_38 ⟨fun _ => ⟨S.k 95 12 (by decide), _, r_now S Q W (hK.h D) hG (dsn_w d x k) hy, rfl, rfl⟩, fun q => absurd (Int32.le_refl _) q⟩, hK⟩
    | succ r ih =>
      intro k K hk hK hG h40
      obtain ⟨J1, z, hG1, h1, hK1⟩ := r_draws S Q W (hK.h D) hG (dsn_w d x k) h40
      obtain ⟨J, zz, z2⟩ := ih (k + 1) J1 (by omega) (hK.tr hK1) hG1 h1
      exact ⟨J, wX12_drawn_38 ⟨fun q => absurd q (nI_ge (by omega) (by omega)), fun _ => ⟨S.k 95 12 (by decide), _, z, by rw [nI_1]; exact zz⟩⟩, z2⟩
  obtain ⟨J, z, z2⟩ := loop m 0 I1 (by omega) kk G1 e40
  exact ⟨I1, J, z1, z, z2⟩
theorem b_drawn (L : LI g I P t im) (x1 x2 x3 x4 : Int32) : ∃ (w : Int32) (I1 : Nat → Nat → Int32) (P1 : Nat → Nat → Option Nat) (J : Nat → Nat → Int32), Cl mX11_drawn [.ref 0, .int x1, .int x2, .int x3, .int x4] (g, I, P) (some (.int w)) (g, I1, P1) ∧ Kp I I1 ∧ KpP P P1 ∧ Cl mX12_drawn [.ref 95, .int x1, .int x2, .int x3, .int x4] (g, I1, P1) (some (.int w)) (g, J, P1) ∧ Km I1 J := by
  have L0 := L
  obtain ⟨S, Q, W, D, M, -⟩ := L
  have n2 := W.2.1.1
  cases hp : pk x1 (tNh t) with
  | none => exact ⟨-2, I, P, I, eX11_drawn (wX11_drawn_0 ⟨S.k 0 11 (by decide), 1, Q.p 0 0 1 (by decide), S.k 1 9 (by decide), _, c_hillN L0 hp, fun _ => ⟨rfl, rfl⟩, fun b hb => (nomatch hb)⟩), Kp.rf I, KpP.rf Q, eX12_drawn (wX12_drawn_0 ⟨S.k 95 12 (by decide), _, _, r_isHill0 S Q W M hp, fun _ => ⟨rfl, rfl⟩, fun q => absurd rfl q⟩), Km.rf I⟩
  | some i =>
    have hi : i < tNh t := (pk_some (by omega) hp).1
    obtain ⟨hW, hX⟩ := W.2.1.2 i hi
    have T := HlS_i S Q (i := i) (by omega)
    have D1 : HlD I (8 + 16 * i) (tH t i) := D.2.2.1 i hi
    by_cases hx : ¬ x3 < 0 ∧ ¬ 60 < x3
    · obtain ⟨m, -, m2, rfl⟩ := inN (lo := 0) (hi := 60) (by decide) (by decide) hx.1 hx.2
      obtain ⟨I1, zc, E1, D3, G3, kc⟩ := c_draw (x := x2) (m := m) S Q T hW hX D1 (by omega) (by omega)
      have Q1 := E1.2.1
      obtain ⟨J1, z, E, f, -⟩ := r_isHill S Q1 W (M.keep (kc 96 (by decide))) hp
      have cc : Cl mX11_drawn [.ref 0, .int x1, .int x2, .int (nI m), .int x4] (g, I, P) (some (.int (F_now (tH t i) (dsn (tH t i) x2 m).2 x4))) (g, I1, zU P 59 0 (some (8 + 16 * i))) := by
        refine eX11_drawn (wX11_drawn_0 ⟨S.k 0 11 (by decide), 1, Q.p 0 0 1 (by decide), S.k 1 9 (by decide), _, c_hillY L0 hp, fun q => (nomatch q), fun b hb => ?_⟩)
        cases hb
        exact ⟨fun h => absurd h hx.1, fun _ => ⟨fun _ => ⟨S.k 0 11 (by decide), 59, Q.p 0 3 59 (by decide), S.k 59 2 (by decide), _, _, zc, S.k 0 11 (by decide), 59, Q1.p 0 3 59 (by decide), S.k 59 2 (by decide), _, c_look E1 D3 G3 (dsn_w _ _ m), rfl, rfl⟩, fun h => absurd (Int32.not_lt.mp hx.2) h⟩⟩
      by_cases h4 : x4 < 0
      · have e : F_now (tH t i) (dsn (tH t i) x2 m).2 x4 = -2 := by unfold F_now; rw [if_pos h4]
        rw [e] at cc
        refine ⟨-2, I1, _, J1, cc, kc, KpP_59 Q _, eX12_drawn (wX12_drawn_0 ⟨S.k 95 12 (by decide), _, _, z, fun q => absurd q (by decide), fun _ => ⟨_, r_isIn, fun _ => ⟨rfl, rfl⟩, fun _ => ⟨fun h => absurd h (Int32.not_le.mpr h4), fun _ => ⟨rfl, rfl⟩⟩⟩⟩), f.m⟩
      · obtain ⟨J2, J, z2, z3, kr⟩ := r_drawn (x := x2) (m := m) S Q1 hW E (by omega) h4
        refine ⟨_, I1, _, J, cc, kc, KpP_59 Q _, eX12_drawn (wX12_drawn_0 ⟨S.k 95 12 (by decide), _, _, z, fun q => absurd q (by decide), fun _ => ⟨_, r_isIn, fun h => ?_, fun _ => ⟨fun _ => ⟨S.k 95 12 (by decide), S.k 95 12 (by decide), _, z2, z3⟩, fun h => absurd (Int32.not_lt.mp h4) h⟩⟩⟩), f.m.tr kr.m⟩
        rw [decide_eq_true hx] at h
        exact absurd h (by decide)
    · obtain ⟨J1, z, E, f, -⟩ := r_isHill S Q W M hp
      refine ⟨-2, I, P, J1, eX11_drawn (wX11_drawn_0 ⟨S.k 0 11 (by decide), 1, Q.p 0 0 1 (by decide), S.k 1 9 (by decide), _, c_hillY L0 hp, fun q => (nomatch q), fun b hb => ?_⟩), Kp.rf I, KpP.rf Q, eX12_drawn (wX12_drawn_0 ⟨S.k 95 12 (by decide), _, _, z, fun q => absurd q (by decide), fun _ => ⟨_, r_isIn, fun _ => ⟨rfl, rfl⟩, fun h => ?_⟩⟩), f.m⟩
      · cases hb
        exact ⟨fun _ => ⟨rfl, rfl⟩, fun q => ⟨fun q2 => absurd ⟨q, Int32.not_lt.mpr q2⟩ hx, fun _ => ⟨rfl, rfl⟩⟩⟩
      · rw [decide_eq_false hx] at h
        exact absurd rfl h
end DRAWN
