/-! ===== odds, sure, asked, soonest ===== -/
theorem pk_word {x : Int32} {d : HD} (W : HW d) : decide (¬ x < 0 ∧ x < nI (hN d)) = (pk x (hN d)).isSome := by
  have := W.2.1
  by_cases h0 : x < 0
  · rw [pk_neg h0]; simp [h0]
  · by_cases h : x < nI (hN d)
    · rw [pk_ok h0 (Int32.not_le.mpr h)]; simp [h0, h]
    · rw [pk_ge (Int32.not_lt.mp h)]; simp [h]
theorem lc_n {a b : Nat} (ha : a < 2 ^ 63) (hb : b < 2 ^ 63) : (0 ≤ lg_cmp (lN a) (lN b) ↔ b ≤ a) ∧ (lg_cmp (lN a) (lN b) ≤ 0 ↔ a ≤ b) := by
  have e1 : (lN a > lN b) ↔ b < a := pk_lLT hb ha
  have e2 : (lN a = lN b) ↔ a = b := pk_lEQ ha hb
  unfold lg_cmp
  by_cases h1 : lN a > lN b
  · rw [if_pos h1]
    have := e1.mp h1
    exact ⟨⟨fun _ => by omega, fun _ => by decide⟩, ⟨fun h => absurd h (by decide), fun h => by omega⟩⟩
  · rw [if_neg h1]
    have h1' : ¬ b < a := fun h => h1 (e1.mpr h)
    by_cases h2 : lN a = lN b
    · rw [if_pos h2]
      have := e2.mp h2
      exact ⟨⟨fun _ => by omega, fun _ => by decide⟩, ⟨fun _ => by omega, fun h => by decide⟩⟩
    · rw [if_neg h2]
      have h2' : a ≠ b := fun h => h2 (e2.mpr h)
      exact ⟨⟨fun h => absurd h (by decide), fun h => by omega⟩, ⟨fun _ => by omega, fun h => by decide⟩⟩
section ODDS
variable {g : zG} {I : Nat → Nat → Int32} {P : Nat → Nat → Option Nat} {t : TD} {im : Nat → Option TD} {a : Nat} {d : HD}
theorem c_hasWordP {x : Int32} (S : HlS g P a) (W : HW d) (D : HlD I a d) : Cl mX3_hasWord [.ref a, .int x] (g, I, P) (some (.int (zb (pk x (hN d)).isSome))) (g, I, P) := by
  rw [← pk_word W]; exact c_hasWord S D
theorem r_isWordP {x : Int32} {h0 : Nat} (S : Sg g) (W : HW d) (D : MhD I h0 d) : Cl mX12_isWord [.ref 95, .int x] (g, I, P) (some (.int (zb (pk x (hN d)).isSome))) (g, I, P) := by
  have := W.2.1
  exact eX12_isWord (wX12_isWord_0 ⟨S.k 95 12 (by decide), _, by rw [D.2.2.2.1]; exact r_pk (by omega), zb_or _, rfl, rfl⟩)
theorem r_half {x y : Nat} {u : Int32} (hx : x < 2 ^ 31) (hy : y < 2 ^ 31) (h0 : y ≠ 0) : Cl mX12_least [.long (nI x).toInt64, .long (nI y).toInt64, .int u] (g, I, P) (some (.long (F_half x y u))) (g, I, P) := by
  rw [nI_l hx, nI_l hy]
  unfold F_half
  rw [if_neg h0]
  exact r_least (by omega) (by omega) (by omega)
theorem b_odds (L : LI g I P t im) (x1 x2 x3 x4 y : Int32) : ∃ (w : Int64) (I1 : Nat → Nat → Int32) (P1 : Nat → Nat → Option Nat) (J : Nat → Nat → Int32), Cl mX11_odds [.ref 0, .int x1, .int x2, .int x3, .int x4, .int y] (g, I, P) (some (.long w)) (g, I1, P1) ∧ Kp I I1 ∧ KpP P P1 ∧ Cl mX12_odds [.ref 95, .int x1, .int x2, .int x3, .int x4, .int y] (g, I1, P1) (some (.long w)) (g, J, P1) ∧ Km I1 J := by
  refine u_odds L (fun i j k hp hl hk => ?_)
  have L0 := L
  obtain ⟨S, Q0, TW0, -⟩ := L
  obtain ⟨I1, z, kI, kP, E, M1⟩ := hear L0 hp hl hk
  have ch := c_heard E
  obtain ⟨-, Q, T, HW0, D1, -, -, e12, -, ef⟩ := E
  obtain ⟨J1, J2, z1, z2, D2, ⟨l0, E2⟩, f2⟩ := hearR S Q TW0 M1 hp hl hk
  have rs := r_saidOf S Q HW0 D2 E2 (fun q hq => by have := (ef q hq).2; omega)
  have h10 := HW0.2.1
  generalize bs (beg (tH t i) ((tL t j).2.2 k) ((tL t j).2.1 k)) (hN (tH t i)) = s at rs ch
  generalize tH t i = d at *
  have ho := oft_le (s := s) HW0
  have pre : ∀ {w : Int64}, (Cl mX3_hasWord [.ref (8 + 16 * i), .int x4] (g, I1, zU P 73 0 (some (8 + 16 * i))) (some (.int (zb (pk x4 (hN d)).isSome))) (g, I1, zU P 73 0 (some (8 + 16 * i))) ∧ ((¬ zb (pk x4 (hN d)).isSome = 0) → ∃ w103 : Int32, Cl mX11_has [.int s, .int x4] (g, I1, zU P 73 0 (some (8 + 16 * i))) (some (.int w103)) (g, I1, zU P 73 0 (some (8 + 16 * i))) ∧ ((w103 = 0) → w = F_half 0 (oft d s) y) ∧ ((¬ w103 = 0) → ∃ o, o < 2 ^ 31 ∧ Cl mX3_oftenOf [.ref (8 + 16 * i), .int x4] (g, I1, zU P 73 0 (some (8 + 16 * i))) (some (.int (nI o))) (g, I1, zU P 73 0 (some (8 + 16 * i))) ∧ w = F_half o (oft d s) y)) ∧ (zb (pk x4 (hN d)).isSome = 0 → w = -1)) → Cl mX11_odds [.ref 0, .int x1, .int x2, .int x3, .int x4, .int y] (g, I, P) (some (.long w)) (g, I1, zU P 73 0 (some (8 + 16 * i))) := by
    rintro w ⟨hw, hy, hn⟩
    refine eX11_odds (wX11_odds_0 ⟨S.k 0 11 (by decide), 1, Q0.p 0 0 1 (by decide), S.k 1 9 (by decide), _, c_hillY L0 hp, fun q => (nomatch q), fun b hb => ⟨S.k 0 11 (by decide), 73, Q0.p 0 4 73 (by decide), S.k 0 11 (by decide), 1, Q0.p 0 0 1 (by decide), S.k 1 9 (by decide), _, c_linesY L0 hl, fun q => (nomatch q), fun b2 hb2 => ?_⟩⟩)
    cases hb
    cases hb2
    refine ⟨S.k 73 1 (by decide), _, _, _, z, fun q => absurd q (by decide), fun _ => ⟨T.1, _, hw, fun q => ?_, fun q => ⟨by rw [hn q], rfl⟩⟩⟩
    obtain ⟨v, hv, v0, v1⟩ := hy q
    refine ⟨S.k 0 11 (by decide), 73, Q.p 0 4 73 (by decide), S.k 73 1 (by decide), _, ch, v, hv, fun q2 => ⟨T.1, _, c_oft T HW0 D1, _, c_half (x := 0) (by decide) (by omega), by rw [v0 q2], rfl⟩, fun q2 => ?_⟩
    obtain ⟨o, o1, o2, o3⟩ := v1 q2
    exact ⟨T.1, _, o2, T.1, _, c_oft T HW0 D1, _, c_half o1 (by omega), by rw [o3], rfl⟩
  have hw0 := c_hasWordP (x := x4) T HW0 D1
  have hr0 := r_isWordP (x := x4) (P := zU P 73 0 (some (8 + 16 * i))) S HW0 D2
  cases hx : pk x4 (hN d) with
  | none =>
    rw [hx] at hr0
    refine ⟨-1, I1, _, J2, pre ⟨hw0, fun q => ?_, fun _ => rfl⟩, kI, kP, eX12_odds (wX12_odds_0 ⟨S.k 95 12 (by decide), _, _, z1, fun q => absurd q (by decide), fun _ => ⟨S.k 95 12 (by decide), _, _, z2, fun q => absurd q (by decide), fun _ => ⟨S.k 95 12 (by decide), _, hr0, fun q => absurd rfl q, fun _ => ⟨rfl, rfl⟩⟩⟩⟩), f2.m⟩
    rw [hx] at q; exact absurd rfl q
  | some v =>
    rw [hx] at hr0
    obtain ⟨hv, rfl⟩ := pk_some (by omega) hx
    have ov := HW0.2.2.2.1 v hv
    refine ⟨F_half (if tb s v = true then hO d v else 0) (oft d s) y, I1, _, J2, pre ⟨hw0, fun _ => ⟨_, c_has (by omega), zp (fun h => ?_) (fun h => ⟨hO d v, by omega, c_oftenOf T HW0 D1 hv, ?_⟩)⟩, fun q => ?_⟩, kI, kP, eX12_odds (wX12_odds_0 ⟨S.k 95 12 (by decide), _, _, z1, fun q => absurd q (by decide), fun _ => ⟨S.k 95 12 (by decide), _, _, z2, fun q => absurd q (by decide), fun _ => ⟨S.k 95 12 (by decide), _, hr0, fun _ => ⟨S.k 95 12 (by decide), _, rs, S.k 95 12 (by decide), _, r_oft S Q HW0 D2, pq_eq (oft d s) 0 (fun h0 => ⟨_, r_holds, zp (fun h => ⟨_, r_half (x := 0) (by decide) (by omega) h0, ?_, rfl⟩) (fun h => ⟨S.k 95 12 (by decide), _, r_oftenOf S Q HW0 D2 hv, _, r_half (by omega) (by omega) h0, ?_, rfl⟩)⟩) (fun h0 => ⟨?_, rfl⟩)⟩, fun q => absurd q zsI⟩⟩⟩), f2.m⟩
    · rw [if_neg (by rw [h]; decide)]
    · rw [if_pos h]
    · rw [hx] at q; exact absurd q zsI
    · rw [if_neg (by rw [h]; decide)]
    · rw [if_pos h]
    · unfold F_half; rw [if_pos h0]
theorem b_sure (L : LI g I P t im) (x1 x2 x3 y : Int32) : ∃ (w : Int64) (I1 : Nat → Nat → Int32) (P1 : Nat → Nat → Option Nat) (J : Nat → Nat → Int32), Cl mX11_sure [.ref 0, .int x1, .int x2, .int x3, .int y] (g, I, P) (some (.long w)) (g, I1, P1) ∧ Kp I I1 ∧ KpP P P1 ∧ Cl mX12_sure [.ref 95, .int x1, .int x2, .int x3, .int y] (g, I1, P1) (some (.long w)) (g, J, P1) ∧ Km I1 J := by
  refine u_sure L (fun i j k hp hl hk => ?_)
  have L0 := L
  obtain ⟨S, Q0, TW0, -⟩ := L
  obtain ⟨I1, z, kI, kP, E, M1⟩ := hear L0 hp hl hk
  have ch := c_heard E
  obtain ⟨-, Q, T, HW0, D1, -, e1, e12, -, ef⟩ := E
  obtain ⟨J1, J2, z1, z2, D2, ⟨l0, E2⟩, f2⟩ := hearR S Q TW0 M1 hp hl hk
  have rs := r_saidOf S Q HW0 D2 E2 (fun q hq => by have := (ef q hq).2; omega)
  have h10 := HW0.2.1
  have hb : ∀ w, w < hN (tH t i) → tb (bs (beg (tH t i) ((tL t j).2.2 k) ((tL t j).2.1 k)) (hN (tH t i))) w = true → (tL t j).2.1 k ≤ hZ (tH t i) w := fun w hw h => beg_le HW0 hw h
  generalize bs (beg (tH t i) ((tL t j).2.2 k) ((tL t j).2.1 k)) (hN (tH t i)) = s at rs ch hb
  generalize tH t i = d at *
  generalize (tL t j).2.1 k = n at *
  have ho := oft_le (s := s) HW0
  have hq := hSure_le (s := s) (n := n) HW0
  refine ⟨F_half (hSure d s n) (oft d s) y, I1, _, J2, ?_, kI, kP, ?_, f2.m⟩
  · refine eX11_sure (wX11_sure_0 ⟨S.k 0 11 (by decide), 1, Q0.p 0 0 1 (by decide), S.k 1 9 (by decide), _, c_hillY L0 hp, fun q => (nomatch q), fun b hb => ⟨S.k 0 11 (by decide), 73, Q0.p 0 4 73 (by decide), S.k 0 11 (by decide), 1, Q0.p 0 0 1 (by decide), S.k 1 9 (by decide), _, c_linesY L0 hl, fun q => (nomatch q), fun b2 hb2 => ?_⟩⟩)
    cases hb
    cases hb2
    exact ⟨S.k 73 1 (by decide), _, _, _, z, fun q => absurd q (by decide), fun _ => ⟨S.k 0 11 (by decide), 73, Q.p 0 4 73 (by decide), S.k 73 1 (by decide), _, ch, S.k 0 11 (by decide), 73, Q.p 0 4 73 (by decide), S.k 73 1 (by decide), T.1, _, by rw [e1]; exact c_sureS T HW0 D1 e12 hb, T.1, _, c_oft T HW0 D1, _, c_half (by omega) (by omega), rfl, rfl⟩⟩
  · refine eX12_sure (wX12_sure_0 ⟨S.k 95 12 (by decide), _, _, z1, fun q => absurd q (by decide), fun _ => ⟨S.k 95 12 (by decide), _, _, z2, fun _ => ⟨S.k 95 12 (by decide), _, rs, S.k 95 12 (by decide), _, r_oft S Q HW0 D2, pq_eq (oft d s) 0 (fun h0 => ⟨S.k 95 12 (by decide), S.k 95 12 (by decide), _, by rw [E2.2.2.1]; exact r_sureS S Q HW0 D2 e12 hb, S.k 95 12 (by decide), _, r_oft S Q HW0 D2, _, r_half (by omega) (by omega) h0, rfl, rfl⟩) (fun h0 => ⟨?_, rfl⟩)⟩, fun q => absurd q (by decide)⟩⟩)
    unfold F_half; rw [if_pos h0]
theorem b_asked (L : LI g I P t im) (x1 x2 y : Int32) : ∃ (w : Int64) (J : Nat → Nat → Int32), Cl mX11_asked [.ref 0, .int x1, .int x2, .int y] (g, I, P) (some (.long w)) (g, I, P) ∧ Cl mX12_asked [.ref 95, .int x1, .int x2, .int y] (g, I, P) (some (.long w)) (g, J, P) ∧ Km I J := by
  have L0 := L
  obtain ⟨S, Q, W, D, M, -⟩ := L
  have n2 := W.2.1.1
  cases hp : pk x1 (tNh t) with
  | none => exact ⟨-1, I, eX11_asked (wX11_asked_0 ⟨S.k 0 11 (by decide), 1, Q.p 0 0 1 (by decide), S.k 1 9 (by decide), _, c_hillN L0 hp, fun _ => ⟨rfl, rfl⟩, fun b hb => (nomatch hb)⟩), eX12_asked (wX12_asked_0 ⟨S.k 95 12 (by decide), _, _, r_isHill0 S Q W M hp, fun _ => ⟨rfl, rfl⟩, fun q => absurd rfl q⟩), Km.rf I⟩
  | some i =>
    have hi : i < tNh t := (pk_some (by omega) hp).1
    have hW := (W.2.1.2 i hi).1
    have T := HlS_i S Q (i := i) (by omega)
    have D1 : HlD I (8 + 16 * i) (tH t i) := D.2.2.1 i hi
    obtain ⟨J, z, E, f, -⟩ := r_isHill S Q W M hp
    generalize tH t i = d at *
    by_cases hx : ¬ x2 < 0 ∧ x2 < 6
    · obtain ⟨hx0, hx6⟩ := hx
      obtain ⟨q, hq, rfl⟩ := nI_of hx0
      have hq6 : q < 6 := (nI_ltI (b := 6) hq (by decide)).mp hx6
      have ho := oft_le (s := hA d q) hW
      have hs := hSure_le (s := hA d q) (n := 0) hW
      refine ⟨F_half (hSure d (hA d q) 0) (oft d (hA d q)) y, J, ?_, ?_, f.m⟩
      · refine eX11_asked (wX11_asked_0 ⟨S.k 0 11 (by decide), 1, Q.p 0 0 1 (by decide), S.k 1 9 (by decide), _, c_hillY L0 hp, fun q => (nomatch q), fun b hb => ?_⟩)
        cases hb
        refine ⟨fun h => absurd h hx0, fun _ => ⟨fun _ => ⟨T.1, _, T.2.2.2.2.2.2.2, hA d q, ?_, T.1, _, c_sureS (n := 0) T hW D1 (by omega) (fun _ _ _ => Nat.zero_le _), T.1, _, c_oft T hW D1, _, c_half (by omega) (by omega), rfl, rfl⟩, fun h => absurd hx6 h⟩⟩
        rw [← D1.2.2.2.2.2.2.2 q hq6]
        exact c_got T.2.1.2.2.2.2 T.2.2.1.2.2.2.2 (by decide) hq6
      · refine eX12_asked (wX12_asked_0 ⟨S.k 95 12 (by decide), _, _, z, fun q => absurd q (by decide), fun _ => ⟨_, r_isInN (lo := 0) (hi := 5) hq (by decide) (by decide), zq (fun _ => ⟨S.k 95 12 (by decide), _, r_answers S Q E hq6, S.k 95 12 (by decide), _, r_oft S Q hW E, pq_eq (oft d (hA d q)) 0 (fun h0 => ⟨S.k 95 12 (by decide), _, r_sureS (n := 0) S Q hW E (by omega) (fun _ _ _ => Nat.zero_le _), S.k 95 12 (by decide), _, r_oft S Q hW E, _, r_half (by omega) (by omega) h0, rfl, rfl⟩) (fun h0 => ⟨?_, rfl⟩)⟩) (fun h => ?_)⟩⟩)
        · unfold F_half; rw [if_pos h0]
        · have := of_decide_eq_false h; omega
    · refine ⟨-1, J, ?_, ?_, f.m⟩
      · refine eX11_asked (wX11_asked_0 ⟨S.k 0 11 (by decide), 1, Q.p 0 0 1 (by decide), S.k 1 9 (by decide), _, c_hillY L0 hp, fun q => (nomatch q), fun b hb => ⟨fun _ => ⟨rfl, rfl⟩, fun h0 => ⟨fun h => absurd ⟨h0, h⟩ hx, fun _ => ⟨rfl, rfl⟩⟩⟩⟩)
      · refine eX12_asked (wX12_asked_0 ⟨S.k 95 12 (by decide), _, _, z, fun q => absurd q (by decide), fun _ => ⟨_, r_isIn, zq (fun h => ?_) (fun _ => ⟨rfl, rfl⟩)⟩⟩)
        have h := of_decide_eq_true h
        exfalso
        apply hx
        obtain ⟨q, -, hq, rfl⟩ := inN (lo := 0) (hi := 5) (by decide) (by decide) h.1 h.2
        exact ⟨h.1, nI_lt (b := 6) (by omega) (by decide)⟩
/-- the question that is soonest answered, of those below q -/
def soo (d : HD) : Nat → Option Nat
  | 0 => none
  | q + 1 => if oft d (hA d q) = 0 then soo d q else match soo d q with
    | none => some q
    | some b => if hSure d (hA d b) 0 * oft d (hA d q) ≤ hSure d (hA d q) 0 * oft d (hA d b) then some b else some q
theorem soo_0 {q : Nat} (h : oft d (hA d q) = 0) : soo d (q + 1) = soo d q := by
  show (if _ then _ else _) = _
  rw [if_pos h]
theorem soo_1 {q : Nat} (h : oft d (hA d q) ≠ 0) : soo d (q + 1) = match soo d q with
    | none => some q
    | some b => if hSure d (hA d b) 0 * oft d (hA d q) ≤ hSure d (hA d q) 0 * oft d (hA d b) then some b else some q := by
  show (if _ then _ else _) = _
  rw [if_neg h]
theorem soo_lt : ∀ q b, soo d q = some b → b < q := by
  intro q
  induction q with
  | zero => intro b h; cases h
  | succ q ih =>
    intro b h
    by_cases h0 : oft d (hA d q) = 0
    · rw [soo_0 h0] at h; have := ih b h; omega
    · rw [soo_1 h0] at h
      cases hb : soo d q with
      | none => rw [hb] at h; cases h; omega
      | some c =>
        rw [hb] at h
        simp only at h
        have := ih c hb
        by_cases hc : hSure d (hA d c) 0 * oft d (hA d q) ≤ hSure d (hA d q) 0 * oft d (hA d c)
        · rw [if_pos hc] at h; cases h; omega
        · rw [if_neg hc] at h; cases h; omega
theorem c_soonest (T : HlS g P a) (W : HW d) (D : HlD I a d) : Cl mX3_soonestAnswered [.ref a] (g, I, P) (some (.int (oI (soo d 6)))) (g, I, P) := by
  refine eX3_soonestAnswered (wX3_soonestAnswered_0 ?_)
  have key : ∀ m q A B, q + m = 6 → (∀ b, soo d q = some b → A = hSure d (hA d b) 0 ∧ B = oft d (hA d b)) → A ≤ 5940 → B ≤ 990 → Zt none mX3_soonestAnswered 0 0 10 [(0, .ref a), (1, .int (oI (soo d q))), (2, .long (lN A)), (4, .long (lN B)), (6, .int (nI q))] [] (g, I, P) (some (.int (oI (soo d 6)))) (g, I, P) := by
    intro m
    induction m with
    | zero =>
      intro q A B hq hAB hA1 hB1
      obtain rfl : q = 6 := hq
      exact wX3_soonestAnswered_10 ⟨fun _ => ⟨rfl, rfl⟩, fun q => absurd (by decide) q⟩
    | succ m ih =>
      intro q A B hq hAB hA1 hB1
      have ih := ih (q + 1)
      have ho := oft_le (s := hA d q) W
      have hs := hSure_le (s := hA d q) (n := 0) W
      have hg : Cl mX11_got [.ref (a + 5), .int (nI q)] (g, I, P) (some (.int (hA d q))) (g, I, P) := by
        rw [← D.2.2.2.2.2.2.2 q (by omega)]
        exact c_got T.2.1.2.2.2.2 T.2.2.1.2.2.2.2 (by decide) (by omega)
      refine wX3_soonestAnswered_10 ⟨fun q => absurd q (nI_ge (b := 6) (by omega) (by decide)), fun _ => ⟨T.1, _, T.2.2.2.2.2.2.2, _, hg, T.1, _, c_sureS (n := 0) T W D (by omega) (fun _ _ _ => Nat.zero_le _), T.1, _, c_oft T W D, ?_⟩⟩
      rw [nI_l (by omega), nI_l (by omega), nI_1]
      have c0 := (lc_n (a := oft d (hA d q)) (b := 0) (by omega) (by decide)).2
      refine ⟨fun h => ?_, fun h => ⟨fun h2 => ?_, fun h2 => ⟨fun h3 => ?_, fun h3 => ?_⟩⟩⟩
      · have h : oft d (hA d q) = 0 := by have := c0.mp h; omega
        have := ih A B (by omega) (by rw [soo_0 h]; exact hAB) hA1 hB1
        rw [soo_0 h] at this
        exact this
      · have h : oft d (hA d q) ≠ 0 := fun e => h (c0.mpr (by omega))
        cases hb : soo d q with
        | some b =>
          rw [hb] at h2
          have := soo_lt q b hb
          exact absurd h2 (nI_m1' (by omega))
        | none =>
          have e : soo d (q + 1) = some q := by rw [soo_1 h, hb]
          have := ih (hSure d (hA d q) 0) (oft d (hA d q)) (by omega) (by rw [e]; intro b hb; cases hb; exact ⟨rfl, rfl⟩) hs ho
          rw [e] at this
          exact this
      · have h : oft d (hA d q) ≠ 0 := fun e => h (c0.mpr (by omega))
        cases hb : soo d q with
        | none => rw [hb] at h2; exact absurd rfl h2
        | some b =>
          obtain ⟨rfl, rfl⟩ := hAB b hb
          have b1 : hSure d (hA d q) 0 * oft d (hA d b) ≤ 5940 * 990 := Nat.mul_le_mul hs hB1
          have b2 : hSure d (hA d b) 0 * oft d (hA d q) ≤ 5940 * 990 := Nat.mul_le_mul hA1 ho
          rw [lN_mul, lN_mul] at h3
          have h3 := (lc_n (by omega) (by omega)).1.mp h3
          have e : soo d (q + 1) = some b := by rw [soo_1 h, hb]; simp only; rw [if_pos h3]
          have := ih _ _ (by omega) (by rw [e]; intro c hc; cases hc; exact ⟨rfl, rfl⟩) hA1 hB1
          rw [e] at this
          exact this
      · have h : oft d (hA d q) ≠ 0 := fun e => h (c0.mpr (by omega))
        cases hb : soo d q with
        | none => rw [hb] at h2; exact absurd rfl h2
        | some b =>
          obtain ⟨rfl, rfl⟩ := hAB b hb
          have b1 : hSure d (hA d q) 0 * oft d (hA d b) ≤ 5940 * 990 := Nat.mul_le_mul hs hB1
          have b2 : hSure d (hA d b) 0 * oft d (hA d q) ≤ 5940 * 990 := Nat.mul_le_mul hA1 ho
          rw [lN_mul, lN_mul, (lc_n (by omega) (by omega)).1] at h3
          have e : soo d (q + 1) = some q := by rw [soo_1 h, hb]; simp only; rw [if_neg h3]
          have := ih (hSure d (hA d q) 0) (oft d (hA d q)) (by omega) (by rw [e]; intro c hc; cases hc; exact ⟨rfl, rfl⟩) hs ho
          rw [e] at this
          exact this
  exact key 6 0 0 0 rfl (fun b h => by cases h) (by decide) (by decide)
theorem b_soonest (L : LI g I P t im) (x1 : Int32) : ∃ (w : Int32) (J : Nat → Nat → Int32), Cl mX11_soonest [.ref 0, .int x1] (g, I, P) (some (.int w)) (g, I, P) ∧ Cl mX12_soonest [.ref 95, .int x1] (g, I, P) (some (.int w)) (g, J, P) ∧ Km I J := by
  have L0 := L
  obtain ⟨S, Q, W, D, M, -⟩ := L
  have n2 := W.2.1.1
  cases hp : pk x1 (tNh t) with
  | none => exact ⟨-1, I, eX11_soonest (wX11_soonest_0 ⟨S.k 0 11 (by decide), 1, Q.p 0 0 1 (by decide), S.k 1 9 (by decide), _, c_hillN L0 hp, fun _ => ⟨rfl, rfl⟩, fun b hb => (nomatch hb)⟩), eX12_soonest (wX12_soonest_0 ⟨S.k 95 12 (by decide), _, _, r_isHill0 S Q W M hp, fun q => absurd rfl q, fun _ => ⟨rfl, rfl⟩⟩), Km.rf I⟩
  | some i =>
    have hi : i < tNh t := (pk_some (by omega) hp).1
    have hW := (W.2.1.2 i hi).1
    have T := HlS_i S Q (i := i) (by omega)
    have D1 : HlD I (8 + 16 * i) (tH t i) := D.2.2.1 i hi
    obtain ⟨J, z, E, f, -⟩ := r_isHill S Q W M hp
    generalize tH t i = d at *
    refine ⟨_, J, eX11_soonest (wX11_soonest_0 ⟨S.k 0 11 (by decide), 1, Q.p 0 0 1 (by decide), S.k 1 9 (by decide), _, c_hillY L0 hp, fun q => (nomatch q), fun b hb => by cases hb; exact ⟨T.1, _, c_soonest T hW D1, rfl, rfl⟩⟩), eX12_soonest (wX12_soonest_0 ⟨S.k 95 12 (by decide), _, _, z, fun _ => ?_, fun q => absurd q (by decide)⟩), f.m⟩
    have sz : ∀ q, Cl mX12_sureIn [.ref 95, .int (hA d q), .int 0] (g, J, P) (some (.int (nI (hSure d (hA d q) 0)))) (g, J, P) := fun q => r_sureS (n := 0) S Q hW E (by omega) (fun _ _ _ => Nat.zero_le _)
    have key : ∀ m q, q + m = 6 → Zt none mX12_soonest 0 0 14 [(0, .ref 95), (2, .int (oI (soo d q))), (3, .int (nI q))] [] (g, J, P) (some (.int (oI (soo d 6)))) (g, J, P) := by
      intro m
      induction m with
      | zero =>
        intro q hq
        obtain rfl : q = 6 := hq
        exact wX12_soonest_14 ⟨fun _ => ⟨rfl, rfl⟩, fun q => absurd (by decide) q⟩
      | succ m ih =>
        intro q hq
        have ih := ih (q + 1) (by omega)
        have ho := oft_le (s := hA d q) hW
        have hs := hSure_le (s := hA d q) (n := 0) hW
        refine wX12_soonest_14 ⟨fun q => absurd q (nI_ge (b := 6) (by omega) (by decide)), fun _ => ⟨S.k 95 12 (by decide), _, r_answers S Q E (by omega), S.k 95 12 (by decide), _, r_oft S Q hW E, pq_eq (oft d (hA d q)) 0 (fun h => ?_) (fun h => ?_)⟩⟩
        · rw [soo_1 h] at ih
          cases hb : soo d q with
          | none => rw [hb] at ih; exact ⟨fun _ => by rw [nI_1]; exact ih, fun q => absurd rfl q⟩
          | some b =>
            rw [hb] at ih
            simp only at ih
            have hbq := soo_lt q b hb
            have hB1 := oft_le (s := hA d b) hW
            have hA1 := hSure_le (s := hA d b) (n := 0) hW
            have b1 : hSure d (hA d q) 0 * oft d (hA d b) ≤ 5940 * 990 := Nat.mul_le_mul hs hB1
            have b2 : hSure d (hA d b) 0 * oft d (hA d q) ≤ 5940 * 990 := Nat.mul_le_mul hA1 ho
            refine ⟨fun q => absurd q (nI_m1' (by omega)), fun _ => ⟨S.k 95 12 (by decide), _, sz q, S.k 95 12 (by decide), _, r_answers S Q E (by omega), S.k 95 12 (by decide), _, r_oft S Q hW E, S.k 95 12 (by decide), _, r_answers S Q E (by omega), S.k 95 12 (by decide), _, sz b, S.k 95 12 (by decide), _, r_oft S Q hW E, ?_⟩⟩
            rw [nI_1]
            refine pk_le (hSure d (hA d b) 0 * oft d (hA d q)) (hSure d (hA d q) 0 * oft d (hA d b)) (fun q => ?_) (fun q => ?_) (pk_mul _ _) (pk_mul _ _)
            · rw [if_pos q] at ih; exact ih
            · rw [if_neg (by omega)] at ih; exact ih
        · rw [soo_0 h] at ih
          rw [nI_1]; exact ih
    exact key 6 0 rfl
end ODDS
