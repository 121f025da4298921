/-! ===== no such hill, or no such line ===== -/
section UNHEARD
variable {g : zG} {I : Nat → Nat → Int32} {P : Nat → Nat → Option Nat} {t : TD} {im : Nat → Option TD}
theorem c_said0 {x1 x2 x3 x4 : Int32} (L : LI g I P t im) (nh : ∀ i j k, pk x1 (tNh t) = some i → pk x2 (tNl t) = some j → pk x3 (tL t j).1 = some k → False) : Cl mX11_said [.ref 0, .int x1, .int x2, .int x3, .int x4] (g, I, P) (some (.int (-2))) (g, I, P) := by
  have L0 := L
  obtain ⟨S, Q, W, D, -⟩ := L
  have n2 := W.2.2.2.1.1
  cases hp : pk x1 (tNh t) with
  | none =>
    cases hl : pk x2 (tNl t) with
    | none => exact eX11_said (wX11_said_0 ⟨S.k 0 11 (by decide), 73, Q.p 0 4 73 (by decide), S.k 0 11 (by decide), 1, Q.p 0 0 1 (by decide), S.k 1 9 (by decide), _, c_hillN L0 hp, fun _ => ⟨S.k 0 11 (by decide), 1, Q.p 0 0 1 (by decide), S.k 1 9 (by decide), _, c_linesN L0 hl, fun _ => ⟨S.k 73 1 (by decide), _, _, _, eX1_hearsa, fun q => absurd rfl q, fun _ => ⟨rfl, rfl⟩⟩, fun b hb => (nomatch hb)⟩, fun b hb => (nomatch hb)⟩)
    | some j => exact eX11_said (wX11_said_0 ⟨S.k 0 11 (by decide), 73, Q.p 0 4 73 (by decide), S.k 0 11 (by decide), 1, Q.p 0 0 1 (by decide), S.k 1 9 (by decide), _, c_hillN L0 hp, fun _ => ⟨S.k 0 11 (by decide), 1, Q.p 0 0 1 (by decide), S.k 1 9 (by decide), _, c_linesY L0 hl, fun q => (nomatch q), fun b hb => ⟨S.k 73 1 (by decide), _, _, _, eX1_hearsb, fun q => absurd rfl q, fun _ => ⟨rfl, rfl⟩⟩⟩, fun b hb => (nomatch hb)⟩)
  | some i =>
    cases hl : pk x2 (tNl t) with
    | none => exact eX11_said (wX11_said_0 ⟨S.k 0 11 (by decide), 73, Q.p 0 4 73 (by decide), S.k 0 11 (by decide), 1, Q.p 0 0 1 (by decide), S.k 1 9 (by decide), _, c_hillY L0 hp, fun q => (nomatch q), fun b hb => ⟨S.k 0 11 (by decide), 1, Q.p 0 0 1 (by decide), S.k 1 9 (by decide), _, c_linesN L0 hl, fun _ => ⟨S.k 73 1 (by decide), _, _, _, eX1_hearsc, fun q => absurd rfl q, fun _ => ⟨rfl, rfl⟩⟩, fun b hb => (nomatch hb)⟩⟩)
    | some j =>
      have hj : j < tNl t := (pk_some (by omega) hl).1
      cases hk : pk x3 (tL t j).1 with
      | none =>
        have z : ∀ a1, Cl mX1_hears [.ref 73, .ref a1, .ref (18 + 16 * j), .int x3] (g, I, P) (some (.int 0)) (g, I, P) := fun a1 => c_hears0 (LnS_i S Q (i := j) (by omega)) (D.2.2.2.2.1 j hj) hk
        exact eX11_said (wX11_said_0 ⟨S.k 0 11 (by decide), 73, Q.p 0 4 73 (by decide), S.k 0 11 (by decide), 1, Q.p 0 0 1 (by decide), S.k 1 9 (by decide), _, c_hillY L0 hp, fun q => (nomatch q), fun b hb => ⟨S.k 0 11 (by decide), 1, Q.p 0 0 1 (by decide), S.k 1 9 (by decide), _, c_linesY L0 hl, fun q => (nomatch q), fun b2 hb2 => by cases hb2; exact ⟨S.k 73 1 (by decide), _, _, _, z b, fun q => absurd rfl q, fun _ => ⟨rfl, rfl⟩⟩⟩⟩)
      | some k => exact (nh i j k hp hl hk).elim
theorem r_said0 {x1 x2 x3 x4 : Int32} (S : Sg g) (Q : Sp P) (W : TW t) (M : MtA I 0 t) (nh : ∀ i j k, pk x1 (tNh t) = some i → pk x2 (tNl t) = some j → pk x3 (tL t j).1 = some k → False) : ∃ J, Cl mX12_said [.ref 95, .int x1, .int x2, .int x3, .int x4] (g, I, P) (some (.int (-2))) (g, J, P) ∧ Km I J := by
  cases hp : pk x1 (tNh t) with
  | none => exact ⟨I, eX12_said (wX12_said_0 ⟨S.k 95 12 (by decide), _, _, r_isHill0 S Q W M hp, fun _ => ⟨rfl, rfl⟩, fun q => absurd rfl q⟩), Km.rf I⟩
  | some i =>
    obtain ⟨J, z, -, f, -⟩ := r_isHill S Q W M hp
    have M2 := f.Mt M
    have z2 : Cl mX12_isLine [.ref 95, .int x2, .int x3] (g, J, P) (some (.int 0)) (g, J, P) := by
      cases hl : pk x2 (tNl t) with
      | none => exact r_isLine0 S Q W M2 hl
      | some j =>
        cases hk : pk x3 (tL t j).1 with
        | none => exact r_isLine1 S Q W M2 hl hk
        | some k => exact (nh i j k hp hl hk).elim
    exact ⟨J, eX12_said (wX12_said_0 ⟨S.k 95 12 (by decide), _, _, z, fun q => absurd q (by decide), fun _ => ⟨S.k 95 12 (by decide), _, _, z2, fun _ => ⟨rfl, rfl⟩, fun q => absurd rfl q⟩⟩), f.m⟩
theorem u_said (L : LI g I P t im) {x1 x2 x3 x4 : Int32} (hh : ∀ i j k, pk x1 (tNh t) = some i → pk x2 (tNl t) = some j → pk x3 (tL t j).1 = some k → ∃ (w : Int32) (I1 : Nat → Nat → Int32) (P1 : Nat → Nat → Option Nat) (J : Nat → Nat → Int32), Cl mX11_said [.ref 0, .int x1, .int x2, .int x3, .int x4] (g, I, P) (some (.int w)) (g, I1, P1) ∧ Kp I I1 ∧ KpP P P1 ∧ Cl mX12_said [.ref 95, .int x1, .int x2, .int x3, .int x4] (g, I1, P1) (some (.int w)) (g, J, P1) ∧ Km I1 J) : ∃ (w : Int32) (I1 : Nat → Nat → Int32) (P1 : Nat → Nat → Option Nat) (J : Nat → Nat → Int32), Cl mX11_said [.ref 0, .int x1, .int x2, .int x3, .int x4] (g, I, P) (some (.int w)) (g, I1, P1) ∧ Kp I I1 ∧ KpP P P1 ∧ Cl mX12_said [.ref 95, .int x1, .int x2, .int x3, .int x4] (g, I1, P1) (some (.int w)) (g, J, P1) ∧ Km I1 J := by
  by_cases h : ∃ i j k, pk x1 (tNh t) = some i ∧ pk x2 (tNl t) = some j ∧ pk x3 (tL t j).1 = some k
  · obtain ⟨i, j, k, h1, h2, h3⟩ := h
    exact hh i j k h1 h2 h3
  · have nh : ∀ i j k, pk x1 (tNh t) = some i → pk x2 (tNl t) = some j → pk x3 (tL t j).1 = some k → False := fun i j k h1 h2 h3 => h ⟨i, j, k, h1, h2, h3⟩
    obtain ⟨J, z, zm⟩ := r_said0 L.1 L.2.1 L.2.2.1 L.2.2.2.2.1 nh
    exact ⟨_, I, P, J, c_said0 L nh, Kp.rf I, KpP.rf L.2.1, z, zm⟩
theorem c_odds0 {x1 x2 x3 x4 x5 : Int32} (L : LI g I P t im) (nh : ∀ i j k, pk x1 (tNh t) = some i → pk x2 (tNl t) = some j → pk x3 (tL t j).1 = some k → False) : Cl mX11_odds [.ref 0, .int x1, .int x2, .int x3, .int x4, .int x5] (g, I, P) (some (.long (-1))) (g, I, P) := by
  have L0 := L
  obtain ⟨S, Q, W, D, -⟩ := L
  have n2 := W.2.2.2.1.1
  cases hp : pk x1 (tNh t) with
  | none =>
    cases hl : pk x2 (tNl t) with
    | none => exact eX11_odds (wX11_odds_0 ⟨S.k 0 11 (by decide), 1, Q.p 0 0 1 (by decide), S.k 1 9 (by decide), _, c_hillN L0 hp, fun _ => ⟨S.k 0 11 (by decide), 73, Q.p 0 4 73 (by decide), S.k 0 11 (by decide), 1, Q.p 0 0 1 (by decide), S.k 1 9 (by decide), _, c_linesN L0 hl, fun _ => ⟨S.k 73 1 (by decide), _, _, _, eX1_hearsa, fun _ => ⟨rfl, rfl⟩, fun q => absurd rfl q⟩, fun b hb => (nomatch hb)⟩, fun b hb => (nomatch hb)⟩)
    | some j => exact eX11_odds (wX11_odds_0 ⟨S.k 0 11 (by decide), 1, Q.p 0 0 1 (by decide), S.k 1 9 (by decide), _, c_hillN L0 hp, fun _ => ⟨S.k 0 11 (by decide), 73, Q.p 0 4 73 (by decide), S.k 0 11 (by decide), 1, Q.p 0 0 1 (by decide), S.k 1 9 (by decide), _, c_linesY L0 hl, fun q => (nomatch q), fun b hb => ⟨S.k 73 1 (by decide), _, _, _, eX1_hearsb, fun _ => ⟨rfl, rfl⟩, fun q => absurd rfl q⟩⟩, fun b hb => (nomatch hb)⟩)
  | some i =>
    cases hl : pk x2 (tNl t) with
    | none => exact eX11_odds (wX11_odds_0 ⟨S.k 0 11 (by decide), 1, Q.p 0 0 1 (by decide), S.k 1 9 (by decide), _, c_hillY L0 hp, fun q => (nomatch q), fun b hb => ⟨S.k 0 11 (by decide), 73, Q.p 0 4 73 (by decide), S.k 0 11 (by decide), 1, Q.p 0 0 1 (by decide), S.k 1 9 (by decide), _, c_linesN L0 hl, fun _ => ⟨S.k 73 1 (by decide), _, _, _, eX1_hearsc, fun _ => ⟨rfl, rfl⟩, fun q => absurd rfl q⟩, fun b hb => (nomatch hb)⟩⟩)
    | some j =>
      have hj : j < tNl t := (pk_some (by omega) hl).1
      cases hk : pk x3 (tL t j).1 with
      | none =>
        have z : ∀ a1, Cl mX1_hears [.ref 73, .ref a1, .ref (18 + 16 * j), .int x3] (g, I, P) (some (.int 0)) (g, I, P) := fun a1 => c_hears0 (LnS_i S Q (i := j) (by omega)) (D.2.2.2.2.1 j hj) hk
        exact eX11_odds (wX11_odds_0 ⟨S.k 0 11 (by decide), 1, Q.p 0 0 1 (by decide), S.k 1 9 (by decide), _, c_hillY L0 hp, fun q => (nomatch q), fun b hb => ⟨S.k 0 11 (by decide), 73, Q.p 0 4 73 (by decide), S.k 0 11 (by decide), 1, Q.p 0 0 1 (by decide), S.k 1 9 (by decide), _, c_linesY L0 hl, fun q => (nomatch q), fun b2 hb2 => by cases hb2; exact ⟨S.k 73 1 (by decide), _, _, _, z b, fun _ => ⟨rfl, rfl⟩, fun q => absurd rfl q⟩⟩⟩)
      | some k => exact (nh i j k hp hl hk).elim
theorem r_odds0 {x1 x2 x3 x4 x5 : Int32} (S : Sg g) (Q : Sp P) (W : TW t) (M : MtA I 0 t) (nh : ∀ i j k, pk x1 (tNh t) = some i → pk x2 (tNl t) = some j → pk x3 (tL t j).1 = some k → False) : ∃ J, Cl mX12_odds [.ref 95, .int x1, .int x2, .int x3, .int x4, .int x5] (g, I, P) (some (.long (-1))) (g, J, P) ∧ Km I J := by
  cases hp : pk x1 (tNh t) with
  | none => exact ⟨I, eX12_odds (wX12_odds_0 ⟨S.k 95 12 (by decide), _, _, r_isHill0 S Q W M hp, fun _ => ⟨rfl, rfl⟩, fun q => absurd rfl q⟩), Km.rf I⟩
  | some i =>
    obtain ⟨J, z, -, f, -⟩ := r_isHill S Q W M hp
    have M2 := f.Mt M
    have z2 : Cl mX12_isLine [.ref 95, .int x2, .int x3] (g, J, P) (some (.int 0)) (g, J, P) := by
      cases hl : pk x2 (tNl t) with
      | none => exact r_isLine0 S Q W M2 hl
      | some j =>
        cases hk : pk x3 (tL t j).1 with
        | none => exact r_isLine1 S Q W M2 hl hk
        | some k => exact (nh i j k hp hl hk).elim
    exact ⟨J, eX12_odds (wX12_odds_0 ⟨S.k 95 12 (by decide), _, _, z, fun q => absurd q (by decide), fun _ => ⟨S.k 95 12 (by decide), _, _, z2, fun _ => ⟨rfl, rfl⟩, fun q => absurd rfl q⟩⟩), f.m⟩
theorem u_odds (L : LI g I P t im) {x1 x2 x3 x4 x5 : Int32} (hh : ∀ i j k, pk x1 (tNh t) = some i → pk x2 (tNl t) = some j → pk x3 (tL t j).1 = some k → ∃ (w : Int64) (I1 : Nat → Nat → Int32) (P1 : Nat → Nat → Option Nat) (J : Nat → Nat → Int32), Cl mX11_odds [.ref 0, .int x1, .int x2, .int x3, .int x4, .int x5] (g, I, P) (some (.long w)) (g, I1, P1) ∧ Kp I I1 ∧ KpP P P1 ∧ Cl mX12_odds [.ref 95, .int x1, .int x2, .int x3, .int x4, .int x5] (g, I1, P1) (some (.long w)) (g, J, P1) ∧ Km I1 J) : ∃ (w : Int64) (I1 : Nat → Nat → Int32) (P1 : Nat → Nat → Option Nat) (J : Nat → Nat → Int32), Cl mX11_odds [.ref 0, .int x1, .int x2, .int x3, .int x4, .int x5] (g, I, P) (some (.long w)) (g, I1, P1) ∧ Kp I I1 ∧ KpP P P1 ∧ Cl mX12_odds [.ref 95, .int x1, .int x2, .int x3, .int x4, .int x5] (g, I1, P1) (some (.long w)) (g, J, P1) ∧ Km I1 J := by
  by_cases h : ∃ i j k, pk x1 (tNh t) = some i ∧ pk x2 (tNl t) = some j ∧ pk x3 (tL t j).1 = some k
  · obtain ⟨i, j, k, h1, h2, h3⟩ := h
    exact hh i j k h1 h2 h3
  · have nh : ∀ i j k, pk x1 (tNh t) = some i → pk x2 (tNl t) = some j → pk x3 (tL t j).1 = some k → False := fun i j k h1 h2 h3 => h ⟨i, j, k, h1, h2, h3⟩
    obtain ⟨J, z, zm⟩ := r_odds0 L.1 L.2.1 L.2.2.1 L.2.2.2.2.1 nh
    exact ⟨_, I, P, J, c_odds0 L nh, Kp.rf I, KpP.rf L.2.1, z, zm⟩
theorem c_sure0 {x1 x2 x3 x4 : Int32} (L : LI g I P t im) (nh : ∀ i j k, pk x1 (tNh t) = some i → pk x2 (tNl t) = some j → pk x3 (tL t j).1 = some k → False) : Cl mX11_sure [.ref 0, .int x1, .int x2, .int x3, .int x4] (g, I, P) (some (.long (-1))) (g, I, P) := by
  have L0 := L
  obtain ⟨S, Q, W, D, -⟩ := L
  have n2 := W.2.2.2.1.1
  cases hp : pk x1 (tNh t) with
  | none =>
    cases hl : pk x2 (tNl t) with
    | none => exact eX11_sure (wX11_sure_0 ⟨S.k 0 11 (by decide), 1, Q.p 0 0 1 (by decide), S.k 1 9 (by decide), _, c_hillN L0 hp, fun _ => ⟨S.k 0 11 (by decide), 73, Q.p 0 4 73 (by decide), S.k 0 11 (by decide), 1, Q.p 0 0 1 (by decide), S.k 1 9 (by decide), _, c_linesN L0 hl, fun _ => ⟨S.k 73 1 (by decide), _, _, _, eX1_hearsa, fun _ => ⟨rfl, rfl⟩, fun q => absurd rfl q⟩, fun b hb => (nomatch hb)⟩, fun b hb => (nomatch hb)⟩)
    | some j => exact eX11_sure (wX11_sure_0 ⟨S.k 0 11 (by decide), 1, Q.p 0 0 1 (by decide), S.k 1 9 (by decide), _, c_hillN L0 hp, fun _ => ⟨S.k 0 11 (by decide), 73, Q.p 0 4 73 (by decide), S.k 0 11 (by decide), 1, Q.p 0 0 1 (by decide), S.k 1 9 (by decide), _, c_linesY L0 hl, fun q => (nomatch q), fun b hb => ⟨S.k 73 1 (by decide), _, _, _, eX1_hearsb, fun _ => ⟨rfl, rfl⟩, fun q => absurd rfl q⟩⟩, fun b hb => (nomatch hb)⟩)
  | some i =>
    cases hl : pk x2 (tNl t) with
    | none => exact eX11_sure (wX11_sure_0 ⟨S.k 0 11 (by decide), 1, Q.p 0 0 1 (by decide), S.k 1 9 (by decide), _, c_hillY L0 hp, fun q => (nomatch q), fun b hb => ⟨S.k 0 11 (by decide), 73, Q.p 0 4 73 (by decide), S.k 0 11 (by decide), 1, Q.p 0 0 1 (by decide), S.k 1 9 (by decide), _, c_linesN L0 hl, fun _ => ⟨S.k 73 1 (by decide), _, _, _, eX1_hearsc, fun _ => ⟨rfl, rfl⟩, fun q => absurd rfl q⟩, fun b hb => (nomatch hb)⟩⟩)
    | some j =>
      have hj : j < tNl t := (pk_some (by omega) hl).1
      cases hk : pk x3 (tL t j).1 with
      | none =>
        have z : ∀ a1, Cl mX1_hears [.ref 73, .ref a1, .ref (18 + 16 * j), .int x3] (g, I, P) (some (.int 0)) (g, I, P) := fun a1 => c_hears0 (LnS_i S Q (i := j) (by omega)) (D.2.2.2.2.1 j hj) hk
        exact eX11_sure (wX11_sure_0 ⟨S.k 0 11 (by decide), 1, Q.p 0 0 1 (by decide), S.k 1 9 (by decide), _, c_hillY L0 hp, fun q => (nomatch q), fun b hb => ⟨S.k 0 11 (by decide), 73, Q.p 0 4 73 (by decide), S.k 0 11 (by decide), 1, Q.p 0 0 1 (by decide), S.k 1 9 (by decide), _, c_linesY L0 hl, fun q => (nomatch q), fun b2 hb2 => by cases hb2; exact ⟨S.k 73 1 (by decide), _, _, _, z b, fun _ => ⟨rfl, rfl⟩, fun q => absurd rfl q⟩⟩⟩)
      | some k => exact (nh i j k hp hl hk).elim
theorem r_sure0 {x1 x2 x3 x4 : Int32} (S : Sg g) (Q : Sp P) (W : TW t) (M : MtA I 0 t) (nh : ∀ i j k, pk x1 (tNh t) = some i → pk x2 (tNl t) = some j → pk x3 (tL t j).1 = some k → False) : ∃ J, Cl mX12_sure [.ref 95, .int x1, .int x2, .int x3, .int x4] (g, I, P) (some (.long (-1))) (g, J, P) ∧ Km I J := by
  cases hp : pk x1 (tNh t) with
  | none => exact ⟨I, eX12_sure (wX12_sure_0 ⟨S.k 95 12 (by decide), _, _, r_isHill0 S Q W M hp, fun _ => ⟨rfl, rfl⟩, fun q => absurd rfl q⟩), Km.rf I⟩
  | some i =>
    obtain ⟨J, z, -, f, -⟩ := r_isHill S Q W M hp
    have M2 := f.Mt M
    have z2 : Cl mX12_isLine [.ref 95, .int x2, .int x3] (g, J, P) (some (.int 0)) (g, J, P) := by
      cases hl : pk x2 (tNl t) with
      | none => exact r_isLine0 S Q W M2 hl
      | some j =>
        cases hk : pk x3 (tL t j).1 with
        | none => exact r_isLine1 S Q W M2 hl hk
        | some k => exact (nh i j k hp hl hk).elim
    exact ⟨J, eX12_sure (wX12_sure_0 ⟨S.k 95 12 (by decide), _, _, z, fun q => absurd q (by decide), fun _ => ⟨S.k 95 12 (by decide), _, _, z2, fun q => absurd rfl q, fun _ => ⟨rfl, rfl⟩⟩⟩), f.m⟩
theorem u_sure (L : LI g I P t im) {x1 x2 x3 x4 : Int32} (hh : ∀ i j k, pk x1 (tNh t) = some i → pk x2 (tNl t) = some j → pk x3 (tL t j).1 = some k → ∃ (w : Int64) (I1 : Nat → Nat → Int32) (P1 : Nat → Nat → Option Nat) (J : Nat → Nat → Int32), Cl mX11_sure [.ref 0, .int x1, .int x2, .int x3, .int x4] (g, I, P) (some (.long w)) (g, I1, P1) ∧ Kp I I1 ∧ KpP P P1 ∧ Cl mX12_sure [.ref 95, .int x1, .int x2, .int x3, .int x4] (g, I1, P1) (some (.long w)) (g, J, P1) ∧ Km I1 J) : ∃ (w : Int64) (I1 : Nat → Nat → Int32) (P1 : Nat → Nat → Option Nat) (J : Nat → Nat → Int32), Cl mX11_sure [.ref 0, .int x1, .int x2, .int x3, .int x4] (g, I, P) (some (.long w)) (g, I1, P1) ∧ Kp I I1 ∧ KpP P P1 ∧ Cl mX12_sure [.ref 95, .int x1, .int x2, .int x3, .int x4] (g, I1, P1) (some (.long w)) (g, J, P1) ∧ Km I1 J := by
  by_cases h : ∃ i j k, pk x1 (tNh t) = some i ∧ pk x2 (tNl t) = some j ∧ pk x3 (tL t j).1 = some k
  · obtain ⟨i, j, k, h1, h2, h3⟩ := h
    exact hh i j k h1 h2 h3
  · have nh : ∀ i j k, pk x1 (tNh t) = some i → pk x2 (tNl t) = some j → pk x3 (tL t j).1 = some k → False := fun i j k h1 h2 h3 => h ⟨i, j, k, h1, h2, h3⟩
    obtain ⟨J, z, zm⟩ := r_sure0 L.1 L.2.1 L.2.2.1 L.2.2.2.2.1 nh
    exact ⟨_, I, P, J, c_sure0 L nh, Kp.rf I, KpP.rf L.2.1, z, zm⟩
theorem c_reading0 {x1 x2 x3 x4 : Int32} (L : LI g I P t im) (nh : ∀ i j k, pk x1 (tNh t) = some i → pk x2 (tNl t) = some j → pk x3 (tL t j).1 = some k → False) : Cl mX11_reading [.ref 0, .int x1, .int x2, .int x3, .int x4] (g, I, P) (some (.int (-1))) (g, I, P) := by
  have L0 := L
  obtain ⟨S, Q, W, D, -⟩ := L
  have n2 := W.2.2.2.1.1
  cases hp : pk x1 (tNh t) with
  | none =>
    cases hl : pk x2 (tNl t) with
    | none => exact eX11_reading (wX11_reading_0 ⟨S.k 0 11 (by decide), 73, Q.p 0 4 73 (by decide), S.k 0 11 (by decide), 1, Q.p 0 0 1 (by decide), S.k 1 9 (by decide), _, c_hillN L0 hp, fun _ => ⟨S.k 0 11 (by decide), 1, Q.p 0 0 1 (by decide), S.k 1 9 (by decide), _, c_linesN L0 hl, fun _ => ⟨S.k 73 1 (by decide), _, _, _, eX1_hearsa, fun q => absurd rfl q, fun _ => ⟨rfl, rfl⟩⟩, fun b hb => (nomatch hb)⟩, fun b hb => (nomatch hb)⟩)
    | some j => exact eX11_reading (wX11_reading_0 ⟨S.k 0 11 (by decide), 73, Q.p 0 4 73 (by decide), S.k 0 11 (by decide), 1, Q.p 0 0 1 (by decide), S.k 1 9 (by decide), _, c_hillN L0 hp, fun _ => ⟨S.k 0 11 (by decide), 1, Q.p 0 0 1 (by decide), S.k 1 9 (by decide), _, c_linesY L0 hl, fun q => (nomatch q), fun b hb => ⟨S.k 73 1 (by decide), _, _, _, eX1_hearsb, fun q => absurd rfl q, fun _ => ⟨rfl, rfl⟩⟩⟩, fun b hb => (nomatch hb)⟩)
  | some i =>
    cases hl : pk x2 (tNl t) with
    | none => exact eX11_reading (wX11_reading_0 ⟨S.k 0 11 (by decide), 73, Q.p 0 4 73 (by decide), S.k 0 11 (by decide), 1, Q.p 0 0 1 (by decide), S.k 1 9 (by decide), _, c_hillY L0 hp, fun q => (nomatch q), fun b hb => ⟨S.k 0 11 (by decide), 1, Q.p 0 0 1 (by decide), S.k 1 9 (by decide), _, c_linesN L0 hl, fun _ => ⟨S.k 73 1 (by decide), _, _, _, eX1_hearsc, fun q => absurd rfl q, fun _ => ⟨rfl, rfl⟩⟩, fun b hb => (nomatch hb)⟩⟩)
    | some j =>
      have hj : j < tNl t := (pk_some (by omega) hl).1
      cases hk : pk x3 (tL t j).1 with
      | none =>
        have z : ∀ a1, Cl mX1_hears [.ref 73, .ref a1, .ref (18 + 16 * j), .int x3] (g, I, P) (some (.int 0)) (g, I, P) := fun a1 => c_hears0 (LnS_i S Q (i := j) (by omega)) (D.2.2.2.2.1 j hj) hk
        exact eX11_reading (wX11_reading_0 ⟨S.k 0 11 (by decide), 73, Q.p 0 4 73 (by decide), S.k 0 11 (by decide), 1, Q.p 0 0 1 (by decide), S.k 1 9 (by decide), _, c_hillY L0 hp, fun q => (nomatch q), fun b hb => ⟨S.k 0 11 (by decide), 1, Q.p 0 0 1 (by decide), S.k 1 9 (by decide), _, c_linesY L0 hl, fun q => (nomatch q), fun b2 hb2 => by cases hb2; exact ⟨S.k 73 1 (by decide), _, _, _, z b, fun q => absurd rfl q, fun _ => ⟨rfl, rfl⟩⟩⟩⟩)
      | some k => exact (nh i j k hp hl hk).elim
theorem r_reading0 {x1 x2 x3 x4 : Int32} (S : Sg g) (Q : Sp P) (W : TW t) (M : MtA I 0 t) (nh : ∀ i j k, pk x1 (tNh t) = some i → pk x2 (tNl t) = some j → pk x3 (tL t j).1 = some k → False) : ∃ J, Cl mX12_reading [.ref 95, .int x1, .int x2, .int x3, .int x4] (g, I, P) (some (.int (-1))) (g, J, P) ∧ Km I J := by
  cases hp : pk x1 (tNh t) with
  | none => exact ⟨I, eX12_reading (wX12_reading_0 ⟨S.k 95 12 (by decide), _, _, r_isHill0 S Q W M hp, fun _ => ⟨rfl, rfl⟩, fun q => absurd rfl q⟩), Km.rf I⟩
  | some i =>
    obtain ⟨J, z, -, f, -⟩ := r_isHill S Q W M hp
    have M2 := f.Mt M
    have z2 : Cl mX12_isLine [.ref 95, .int x2, .int x3] (g, J, P) (some (.int 0)) (g, J, P) := by
      cases hl : pk x2 (tNl t) with
      | none => exact r_isLine0 S Q W M2 hl
      | some j =>
        cases hk : pk x3 (tL t j).1 with
        | none => exact r_isLine1 S Q W M2 hl hk
        | some k => exact (nh i j k hp hl hk).elim
    exact ⟨J, eX12_reading (wX12_reading_0 ⟨S.k 95 12 (by decide), _, _, z, fun q => absurd q (by decide), fun _ => ⟨S.k 95 12 (by decide), _, _, z2, fun _ => ⟨rfl, rfl⟩, fun q => absurd rfl q⟩⟩), f.m⟩
theorem u_reading (L : LI g I P t im) {x1 x2 x3 x4 : Int32} (hh : ∀ i j k, pk x1 (tNh t) = some i → pk x2 (tNl t) = some j → pk x3 (tL t j).1 = some k → ∃ (w : Int32) (I1 : Nat → Nat → Int32) (P1 : Nat → Nat → Option Nat) (J : Nat → Nat → Int32), Cl mX11_reading [.ref 0, .int x1, .int x2, .int x3, .int x4] (g, I, P) (some (.int w)) (g, I1, P1) ∧ Kp I I1 ∧ KpP P P1 ∧ Cl mX12_reading [.ref 95, .int x1, .int x2, .int x3, .int x4] (g, I1, P1) (some (.int w)) (g, J, P1) ∧ Km I1 J) : ∃ (w : Int32) (I1 : Nat → Nat → Int32) (P1 : Nat → Nat → Option Nat) (J : Nat → Nat → Int32), Cl mX11_reading [.ref 0, .int x1, .int x2, .int x3, .int x4] (g, I, P) (some (.int w)) (g, I1, P1) ∧ Kp I I1 ∧ KpP P P1 ∧ Cl mX12_reading [.ref 95, .int x1, .int x2, .int x3, .int x4] (g, I1, P1) (some (.int w)) (g, J, P1) ∧ Km I1 J := by
  by_cases h : ∃ i j k, pk x1 (tNh t) = some i ∧ pk x2 (tNl t) = some j ∧ pk x3 (tL t j).1 = some k
  · obtain ⟨i, j, k, h1, h2, h3⟩ := h
    exact hh i j k h1 h2 h3
  · have nh : ∀ i j k, pk x1 (tNh t) = some i → pk x2 (tNl t) = some j → pk x3 (tL t j).1 = some k → False := fun i j k h1 h2 h3 => h ⟨i, j, k, h1, h2, h3⟩
    obtain ⟨J, z, zm⟩ := r_reading0 L.1 L.2.1 L.2.2.1 L.2.2.2.2.1 nh
    exact ⟨_, I, P, J, c_reading0 L nh, Kp.rf I, KpP.rf L.2.1, z, zm⟩
theorem c_slips0 {x1 x2 x3 x4 : Int32} (L : LI g I P t im) (nh : ∀ i j k, pk x1 (tNh t) = some i → pk x2 (tNl t) = some j → pk x3 (tL t j).1 = some k → False) : Cl mX11_slips [.ref 0, .int x1, .int x2, .int x3, .int x4] (g, I, P) (some (.int (-1))) (g, I, P) := by
  have L0 := L
  obtain ⟨S, Q, W, D, -⟩ := L
  have n2 := W.2.2.2.1.1
  cases hp : pk x1 (tNh t) with
  | none =>
    cases hl : pk x2 (tNl t) with
    | none => exact eX11_slips (wX11_slips_0 ⟨fun _ => ⟨rfl, rfl⟩, fun _ => ⟨fun _ => ⟨rfl, rfl⟩, fun _ => ⟨S.k 0 11 (by decide), 73, Q.p 0 4 73 (by decide), S.k 0 11 (by decide), 1, Q.p 0 0 1 (by decide), S.k 1 9 (by decide), _, c_hillN L0 hp, fun _ => ⟨S.k 0 11 (by decide), 1, Q.p 0 0 1 (by decide), S.k 1 9 (by decide), _, c_linesN L0 hl, fun _ => ⟨S.k 73 1 (by decide), _, _, _, eX1_hearsa, fun q => absurd rfl q, fun _ => ⟨rfl, rfl⟩⟩, fun b hb => (nomatch hb)⟩, fun b hb => (nomatch hb)⟩⟩⟩)
    | some j => exact eX11_slips (wX11_slips_0 ⟨fun _ => ⟨rfl, rfl⟩, fun _ => ⟨fun _ => ⟨rfl, rfl⟩, fun _ => ⟨S.k 0 11 (by decide), 73, Q.p 0 4 73 (by decide), S.k 0 11 (by decide), 1, Q.p 0 0 1 (by decide), S.k 1 9 (by decide), _, c_hillN L0 hp, fun _ => ⟨S.k 0 11 (by decide), 1, Q.p 0 0 1 (by decide), S.k 1 9 (by decide), _, c_linesY L0 hl, fun q => (nomatch q), fun b hb => ⟨S.k 73 1 (by decide), _, _, _, eX1_hearsb, fun q => absurd rfl q, fun _ => ⟨rfl, rfl⟩⟩⟩, fun b hb => (nomatch hb)⟩⟩⟩)
  | some i =>
    cases hl : pk x2 (tNl t) with
    | none => exact eX11_slips (wX11_slips_0 ⟨fun _ => ⟨rfl, rfl⟩, fun _ => ⟨fun _ => ⟨rfl, rfl⟩, fun _ => ⟨S.k 0 11 (by decide), 73, Q.p 0 4 73 (by decide), S.k 0 11 (by decide), 1, Q.p 0 0 1 (by decide), S.k 1 9 (by decide), _, c_hillY L0 hp, fun q => (nomatch q), fun b hb => ⟨S.k 0 11 (by decide), 1, Q.p 0 0 1 (by decide), S.k 1 9 (by decide), _, c_linesN L0 hl, fun _ => ⟨S.k 73 1 (by decide), _, _, _, eX1_hearsc, fun q => absurd rfl q, fun _ => ⟨rfl, rfl⟩⟩, fun b hb => (nomatch hb)⟩⟩⟩⟩)
    | some j =>
      have hj : j < tNl t := (pk_some (by omega) hl).1
      cases hk : pk x3 (tL t j).1 with
      | none =>
        have z : ∀ a1, Cl mX1_hears [.ref 73, .ref a1, .ref (18 + 16 * j), .int x3] (g, I, P) (some (.int 0)) (g, I, P) := fun a1 => c_hears0 (LnS_i S Q (i := j) (by omega)) (D.2.2.2.2.1 j hj) hk
        exact eX11_slips (wX11_slips_0 ⟨fun _ => ⟨rfl, rfl⟩, fun _ => ⟨fun _ => ⟨rfl, rfl⟩, fun _ => ⟨S.k 0 11 (by decide), 73, Q.p 0 4 73 (by decide), S.k 0 11 (by decide), 1, Q.p 0 0 1 (by decide), S.k 1 9 (by decide), _, c_hillY L0 hp, fun q => (nomatch q), fun b hb => ⟨S.k 0 11 (by decide), 1, Q.p 0 0 1 (by decide), S.k 1 9 (by decide), _, c_linesY L0 hl, fun q => (nomatch q), fun b2 hb2 => by cases hb2; exact ⟨S.k 73 1 (by decide), _, _, _, z b, fun q => absurd rfl q, fun _ => ⟨rfl, rfl⟩⟩⟩⟩⟩⟩)
      | some k => exact (nh i j k hp hl hk).elim
theorem r_slips0 {x1 x2 x3 x4 : Int32} (S : Sg g) (Q : Sp P) (W : TW t) (M : MtA I 0 t) (nh : ∀ i j k, pk x1 (tNh t) = some i → pk x2 (tNl t) = some j → pk x3 (tL t j).1 = some k → False) : ∃ J, Cl mX12_slips [.ref 95, .int x1, .int x2, .int x3, .int x4] (g, I, P) (some (.int (-1))) (g, J, P) ∧ Km I J := by
  cases hp : pk x1 (tNh t) with
  | none => exact ⟨I, eX12_slips (wX12_slips_0 ⟨S.k 95 12 (by decide), _, _, r_isHill0 S Q W M hp, fun _ => ⟨rfl, rfl⟩, fun q => absurd rfl q⟩), Km.rf I⟩
  | some i =>
    obtain ⟨J, z, -, f, -⟩ := r_isHill S Q W M hp
    have M2 := f.Mt M
    have z2 : Cl mX12_isLine [.ref 95, .int x2, .int x3] (g, J, P) (some (.int 0)) (g, J, P) := by
      cases hl : pk x2 (tNl t) with
      | none => exact r_isLine0 S Q W M2 hl
      | some j =>
        cases hk : pk x3 (tL t j).1 with
        | none => exact r_isLine1 S Q W M2 hl hk
        | some k => exact (nh i j k hp hl hk).elim
    exact ⟨J, eX12_slips (wX12_slips_0 ⟨S.k 95 12 (by decide), _, _, z, fun q => absurd q (by decide), fun _ => ⟨S.k 95 12 (by decide), _, _, z2, fun _ => ⟨rfl, rfl⟩, fun q => absurd rfl q⟩⟩), f.m⟩
theorem u_slips (L : LI g I P t im) {x1 x2 x3 x4 : Int32} (hh : ∀ i j k, pk x1 (tNh t) = some i → pk x2 (tNl t) = some j → pk x3 (tL t j).1 = some k → ∃ (w : Int32) (I1 : Nat → Nat → Int32) (P1 : Nat → Nat → Option Nat) (J : Nat → Nat → Int32), Cl mX11_slips [.ref 0, .int x1, .int x2, .int x3, .int x4] (g, I, P) (some (.int w)) (g, I1, P1) ∧ Kp I I1 ∧ KpP P P1 ∧ Cl mX12_slips [.ref 95, .int x1, .int x2, .int x3, .int x4] (g, I1, P1) (some (.int w)) (g, J, P1) ∧ Km I1 J) : ∃ (w : Int32) (I1 : Nat → Nat → Int32) (P1 : Nat → Nat → Option Nat) (J : Nat → Nat → Int32), Cl mX11_slips [.ref 0, .int x1, .int x2, .int x3, .int x4] (g, I, P) (some (.int w)) (g, I1, P1) ∧ Kp I I1 ∧ KpP P P1 ∧ Cl mX12_slips [.ref 95, .int x1, .int x2, .int x3, .int x4] (g, I1, P1) (some (.int w)) (g, J, P1) ∧ Km I1 J := by
  by_cases h : ∃ i j k, pk x1 (tNh t) = some i ∧ pk x2 (tNl t) = some j ∧ pk x3 (tL t j).1 = some k
  · obtain ⟨i, j, k, h1, h2, h3⟩ := h
    exact hh i j k h1 h2 h3
  · have nh : ∀ i j k, pk x1 (tNh t) = some i → pk x2 (tNl t) = some j → pk x3 (tL t j).1 = some k → False := fun i j k h1 h2 h3 => h ⟨i, j, k, h1, h2, h3⟩
    obtain ⟨J, z, zm⟩ := r_slips0 L.1 L.2.1 L.2.2.1 L.2.2.2.2.1 nh
    exact ⟨_, I, P, J, c_slips0 L nh, Kp.rf I, KpP.rf L.2.1, z, zm⟩
theorem c_next0 {x1 x2 x3 x4 : Int32} (L : LI g I P t im) (nh : ∀ i j k, pk x1 (tNh t) = some i → pk x2 (tNl t) = some j → pk x3 (tL t j).1 = some k → False) : Cl mX11_next [.ref 0, .int x1, .int x2, .int x3, .int x4] (g, I, P) (some (.int (-2))) (g, I, P) := by
  have L0 := L
  obtain ⟨S, Q, W, D, -⟩ := L
  have n2 := W.2.2.2.1.1
  cases hp : pk x1 (tNh t) with
  | none =>
    cases hl : pk x2 (tNl t) with
    | none => exact eX11_next (wX11_next_0 ⟨S.k 0 11 (by decide), 73, Q.p 0 4 73 (by decide), S.k 0 11 (by decide), 1, Q.p 0 0 1 (by decide), S.k 1 9 (by decide), _, c_hillN L0 hp, fun _ => ⟨S.k 0 11 (by decide), 1, Q.p 0 0 1 (by decide), S.k 1 9 (by decide), _, c_linesN L0 hl, fun _ => ⟨S.k 73 1 (by decide), _, _, _, eX1_hearsa, fun q => absurd rfl q, fun _ => ⟨rfl, rfl⟩⟩, fun b hb => (nomatch hb)⟩, fun b hb => (nomatch hb)⟩)
    | some j => exact eX11_next (wX11_next_0 ⟨S.k 0 11 (by decide), 73, Q.p 0 4 73 (by decide), S.k 0 11 (by decide), 1, Q.p 0 0 1 (by decide), S.k 1 9 (by decide), _, c_hillN L0 hp, fun _ => ⟨S.k 0 11 (by decide), 1, Q.p 0 0 1 (by decide), S.k 1 9 (by decide), _, c_linesY L0 hl, fun q => (nomatch q), fun b hb => ⟨S.k 73 1 (by decide), _, _, _, eX1_hearsb, fun q => absurd rfl q, fun _ => ⟨rfl, rfl⟩⟩⟩, fun b hb => (nomatch hb)⟩)
  | some i =>
    cases hl : pk x2 (tNl t) with
    | none => exact eX11_next (wX11_next_0 ⟨S.k 0 11 (by decide), 73, Q.p 0 4 73 (by decide), S.k 0 11 (by decide), 1, Q.p 0 0 1 (by decide), S.k 1 9 (by decide), _, c_hillY L0 hp, fun q => (nomatch q), fun b hb => ⟨S.k 0 11 (by decide), 1, Q.p 0 0 1 (by decide), S.k 1 9 (by decide), _, c_linesN L0 hl, fun _ => ⟨S.k 73 1 (by decide), _, _, _, eX1_hearsc, fun q => absurd rfl q, fun _ => ⟨rfl, rfl⟩⟩, fun b hb => (nomatch hb)⟩⟩)
    | some j =>
      have hj : j < tNl t := (pk_some (by omega) hl).1
      cases hk : pk x3 (tL t j).1 with
      | none =>
        have z : ∀ a1, Cl mX1_hears [.ref 73, .ref a1, .ref (18 + 16 * j), .int x3] (g, I, P) (some (.int 0)) (g, I, P) := fun a1 => c_hears0 (LnS_i S Q (i := j) (by omega)) (D.2.2.2.2.1 j hj) hk
        exact eX11_next (wX11_next_0 ⟨S.k 0 11 (by decide), 73, Q.p 0 4 73 (by decide), S.k 0 11 (by decide), 1, Q.p 0 0 1 (by decide), S.k 1 9 (by decide), _, c_hillY L0 hp, fun q => (nomatch q), fun b hb => ⟨S.k 0 11 (by decide), 1, Q.p 0 0 1 (by decide), S.k 1 9 (by decide), _, c_linesY L0 hl, fun q => (nomatch q), fun b2 hb2 => by cases hb2; exact ⟨S.k 73 1 (by decide), _, _, _, z b, fun q => absurd rfl q, fun _ => ⟨rfl, rfl⟩⟩⟩⟩)
      | some k => exact (nh i j k hp hl hk).elim
theorem r_next0 {x1 x2 x3 x4 : Int32} (S : Sg g) (Q : Sp P) (W : TW t) (M : MtA I 0 t) (nh : ∀ i j k, pk x1 (tNh t) = some i → pk x2 (tNl t) = some j → pk x3 (tL t j).1 = some k → False) : ∃ J, Cl mX12_next [.ref 95, .int x1, .int x2, .int x3, .int x4] (g, I, P) (some (.int (-2))) (g, J, P) ∧ Km I J := by
  cases hp : pk x1 (tNh t) with
  | none => exact ⟨I, eX12_next (wX12_next_0 ⟨S.k 95 12 (by decide), _, _, r_isHill0 S Q W M hp, fun _ => ⟨rfl, rfl⟩, fun q => absurd rfl q⟩), Km.rf I⟩
  | some i =>
    obtain ⟨J, z, -, f, -⟩ := r_isHill S Q W M hp
    have M2 := f.Mt M
    have z2 : Cl mX12_isLine [.ref 95, .int x2, .int x3] (g, J, P) (some (.int 0)) (g, J, P) := by
      cases hl : pk x2 (tNl t) with
      | none => exact r_isLine0 S Q W M2 hl
      | some j =>
        cases hk : pk x3 (tL t j).1 with
        | none => exact r_isLine1 S Q W M2 hl hk
        | some k => exact (nh i j k hp hl hk).elim
    exact ⟨J, eX12_next (wX12_next_0 ⟨S.k 95 12 (by decide), _, _, z, fun q => absurd q (by decide), fun _ => ⟨S.k 95 12 (by decide), _, _, z2, fun _ => ⟨rfl, rfl⟩, fun q => absurd rfl q⟩⟩), f.m⟩
theorem u_next (L : LI g I P t im) {x1 x2 x3 x4 : Int32} (hh : ∀ i j k, pk x1 (tNh t) = some i → pk x2 (tNl t) = some j → pk x3 (tL t j).1 = some k → ∃ (w : Int32) (I1 : Nat → Nat → Int32) (P1 : Nat → Nat → Option Nat) (J : Nat → Nat → Int32), Cl mX11_next [.ref 0, .int x1, .int x2, .int x3, .int x4] (g, I, P) (some (.int w)) (g, I1, P1) ∧ Kp I I1 ∧ KpP P P1 ∧ Cl mX12_next [.ref 95, .int x1, .int x2, .int x3, .int x4] (g, I1, P1) (some (.int w)) (g, J, P1) ∧ Km I1 J) : ∃ (w : Int32) (I1 : Nat → Nat → Int32) (P1 : Nat → Nat → Option Nat) (J : Nat → Nat → Int32), Cl mX11_next [.ref 0, .int x1, .int x2, .int x3, .int x4] (g, I, P) (some (.int w)) (g, I1, P1) ∧ Kp I I1 ∧ KpP P P1 ∧ Cl mX12_next [.ref 95, .int x1, .int x2, .int x3, .int x4] (g, I1, P1) (some (.int w)) (g, J, P1) ∧ Km I1 J := by
  by_cases h : ∃ i j k, pk x1 (tNh t) = some i ∧ pk x2 (tNl t) = some j ∧ pk x3 (tL t j).1 = some k
  · obtain ⟨i, j, k, h1, h2, h3⟩ := h
    exact hh i j k h1 h2 h3
  · have nh : ∀ i j k, pk x1 (tNh t) = some i → pk x2 (tNl t) = some j → pk x3 (tL t j).1 = some k → False := fun i j k h1 h2 h3 => h ⟨i, j, k, h1, h2, h3⟩
    obtain ⟨J, z, zm⟩ := r_next0 L.1 L.2.1 L.2.2.1 L.2.2.2.2.1 nh
    exact ⟨_, I, P, J, c_next0 L nh, Kp.rf I, KpP.rf L.2.1, z, zm⟩
end UNHEARD
