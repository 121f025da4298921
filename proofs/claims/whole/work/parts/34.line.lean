/-! ===== line, hill ===== -/
theorem zp {A B : Prop} {c : Bool} (f : c = false → A) (t : c = true → B) : (zb c = 0 → A) ∧ (¬ zb c = 0 → B) := ⟨fun q => f (zb_eq.mp q), fun q => t (zb_ne.mp q)⟩
theorem zq {A B : Prop} {c : Bool} (t : c = true → B) (f : c = false → A) : (¬ zb c = 0 → B) ∧ (zb c = 0 → A) := ⟨fun q => t (zb_ne.mp q), fun q => f (zb_eq.mp q)⟩
theorem pq_le {x y : Int32} {A B : Prop} (a b : Nat) (g : b < a → B) (f : a ≤ b → A) (hx : x = nI a := by rfl) (hy : y = nI b := by rfl) (ha : a < 2 ^ 31 := by omega) (hb : b < 2 ^ 31 := by omega) : (¬ x ≤ y → B) ∧ (x ≤ y → A) := by
  obtain ⟨h1, h2⟩ := pk_le a b f g hx hy ha hb
  exact ⟨h2, h1⟩
theorem pq_lt {x y : Int32} {A B : Prop} (a b : Nat) (g : b ≤ a → B) (f : a < b → A) (hx : x = nI a := by rfl) (hy : y = nI b := by rfl) (ha : a < 2 ^ 31 := by omega) (hb : b < 2 ^ 31 := by omega) : (¬ x < y → B) ∧ (x < y → A) := by
  obtain ⟨h1, h2⟩ := pk_lt a b f g hx hy ha hb
  exact ⟨h2, h1⟩
theorem pq_eq {x y : Int32} {A B : Prop} (a b : Nat) (g : a ≠ b → B) (f : a = b → A) (hx : x = nI a := by rfl) (hy : y = nI b := by rfl) (ha : a < 2 ^ 31 := by omega) (hb : b < 2 ^ 31 := by omega) : (¬ x = y → B) ∧ (x = y → A) := by
  obtain ⟨h1, h2⟩ := pk_eq a b f g hx hy ha hb
  exact ⟨h2, h1⟩
section LINE
variable {g : zG} {I : Nat → Nat → Int32} {P : Nat → Nat → Option Nat} {t : TD} {im : Nat → Option TD}
theorem r_isInN {n lo hi : Nat} (hn : n < 2 ^ 31) (hl : lo < 2 ^ 31) (hh : hi < 2 ^ 31) : Cl mX12_isIn [.int (nI n), .int (nI lo), .int (nI hi)] (g, I, P) (some (.int (zb (decide (lo ≤ n ∧ n ≤ hi))))) (g, I, P) := by
  have e : decide (¬ nI n < nI lo ∧ ¬ nI hi < nI n) = decide (lo ≤ n ∧ n ≤ hi) := by
    apply decide_eq_decide.mpr
    rw [nI_ltI hn hl, nI_ltI hh hn]
    omega
  rw [← e]
  exact r_isIn
theorem r_isInX {x : Int32} {lo hi : Nat} (hx : x < 0) (hl : lo < 2 ^ 31) : Cl mX12_isIn [.int x, .int (nI lo), .int (nI hi)] (g, I, P) (some (.int (zb false))) (g, I, P) := by
  have e : decide (¬ x < nI lo ∧ ¬ nI hi < x) = false := by
    apply decide_eq_false
    exact fun h => h.1 (Int32.lt_of_lt_of_le hx (nI_pos' hl))
  rw [← e]
  exact r_isIn
theorem r_pk {x : Int32} {n : Nat} (hn : n < 2 ^ 30) : Cl mX12_isIn [.int x, .int 0, .int (nI n - 1)] (g, I, P) (some (.int (zb (pk x n).isSome))) (g, I, P) := by
  rw [← pk_isIn x hn]; exact r_isIn
theorem c_hasLine {a : Nat} {l : LD} {x : Int32} (T : LnS g P a) (D : LnD I a l) : Cl mX4_hasLine [.ref a, .int x] (g, I, P) (some (.int (zb (pk x l.1).isSome))) (g, I, P) := by
  refine eX4_hasLine (wX4_hasLine_0 ⟨fun q => ⟨by rw [pk_neg q]; rfl, rfl⟩, fun q => ⟨T.1, fun q2 => ?_, fun q2 => ?_⟩⟩)
  · rw [D.1] at q2; exact ⟨by rw [pk_ge q2]; rfl, rfl⟩
  · rw [D.1] at q2; exact ⟨by rw [pk_ok q q2]; rfl, rfl⟩
theorem c_lsize {a k : Nat} {l : LD} (T : LnS g P a) (W : LW l) (D : LnD I a l) (hk : k < l.1) : Cl mX11_got [.ref (a + 1), .int (nI k)] (g, I, P) (some (.int (nI (l.2.1 k)))) (g, I, P) := by
  rw [← (D.2 k hk).1]
  exact c_got T.2.1.1 T.2.2.1.1 (by decide) (Nat.lt_of_lt_of_le hk W.1)
theorem c_lletter {a k i : Nat} {l : LD} (T : LnS g P a) (W : LW l) (D : LnD I a l) (hk : k < l.1) (hi : i < l.2.1 k) : Cl mX4_letterOf [.ref a, .int (nI k), .int (nI i)] (g, I, P) (some (.int (nI (l.2.2 k i)))) (g, I, P) := by
  have h1 := W.1
  have h2 := (W.2 k hk).1.2
  have e : nI k * 12 + nI i = nI (12 * k + i) := by
    rw [show (12 : Int32) = nI 12 from rfl, pk_mul, nI_add, Nat.mul_comm]
  rw [← (D.2 k hk).2 i hi]
  refine eX4_letterOf (wX4_letterOf_0 ⟨T.1, _, T.2.2.2.2, _, ?_, rfl, rfl⟩)
  rw [e]
  exact c_got T.2.1.2 T.2.2.1.2 (by decide) (by omega)
/-- what line answers -/
def F_line (l : LD) (x2 x3 : Int32) : Int32 := if x2 = -1 then (if x3 = 0 then nI l.1 else -2) else match pk x2 l.1 with
  | none => -2
  | some k => if x3 = -1 then nI (l.2.1 k) else match pk x3 (l.2.1 k) with
    | none => -2
    | some i => nI (l.2.2 k i)
theorem c_llook {a : Nat} {l : LD} {x2 x3 : Int32} (T : LnS g P a) (W : LW l) (D : LnD I a l) : Cl mX4_look [.ref a, .int x2, .int x3] (g, I, P) (some (.int (F_line l x2 x3))) (g, I, P) := by
  have hw := W.1
  have h14 : ¬ (x2 = -1 ∧ x3 = 0) → Zt none mX4_look 0 0 14 [(0, .ref a), (1, .int x2), (2, .int x3)] [] (g, I, P) (some (.int (F_line l x2 x3))) (g, I, P) := by
    intro hx
    refine wX4_look_14 ⟨T.1, _, c_hasLine T D, zq (fun q => ?_) (fun q => ⟨?_, rfl⟩)⟩
    · cases hk : pk x2 l.1 with
      | none => rw [hk] at q; cases q
      | some k =>
        obtain ⟨hk1, rfl⟩ := pk_some (by omega) hk
        have h2 := (W.2 k hk1).1.2
        have h1 : ¬ nI k = -1 := fun h => nI_pos (n := k) (by omega) (by rw [h]; decide)
        unfold F_line
        rw [if_neg h1, hk]
        refine ⟨fun q2 => ⟨fun q3 => ⟨?_, rfl⟩, fun q3 => ⟨T.1, _, T.2.2.2.1, _, c_lsize T W D hk1, fun q4 => ⟨?_, rfl⟩, fun q4 => ?_⟩⟩, fun q2 => ⟨T.1, _, T.2.2.2.1, _, c_lsize T W D hk1, ?_, rfl⟩⟩
        · simp only [if_neg q2, pk_neg q3]
        · simp only [if_neg q2, pk_ge q4]
        · obtain ⟨i, hi, rfl⟩ := nI_of q3
          have hi2 : i < l.2.1 k := nI_nleD (by omega) hi q4
          exact ⟨T.1, _, c_lletter T W D hk1 hi2, by simp only [if_neg q2, pk_nI (by omega) hi2], rfl⟩
        · simp only [if_pos q2]
    · unfold F_line
      by_cases h1 : x2 = -1
      · rw [if_pos h1, if_neg (fun h => hx ⟨h1, h⟩)]
      · rw [if_neg h1]
        cases hk : pk x2 l.1 with
        | none => rfl
        | some k => rw [hk] at q; cases q
  refine eX4_look (wX4_look_0 ⟨fun q => h14 (fun h => q h.1), fun q => ⟨fun q2 => h14 (fun h => q2 h.2), fun q2 => ⟨T.1, ?_, rfl⟩⟩⟩)
  unfold F_line
  rw [if_pos q, if_pos q2, D.1]
/-- the reference: the line that isLine has chosen: n letters, f -/
def MeD (I : Nat → Nat → Int32) (l0 n : Nat) (f : Nat → Nat) : Prop := l0 + 1 + n ≤ 1242 ∧ I 95 26 = nI l0 ∧ I 95 27 = nI n ∧ ∀ k, k < n → I 96 (l0 + 1 + k) = nI (f k)
theorem r_inLine {l0 n k : Nat} {f : Nat → Nat} (S : Sg g) (Q : Sp P) (E : MeD I l0 n f) (hk : k < n) : Cl mX12_inLine [.ref 95, .int (nI k)] (g, I, P) (some (.int (nI (f k)))) (g, I, P) := by
  obtain ⟨e0, e1, e2, e3⟩ := E
  obtain ⟨i3, i4⟩ := ix96 S (x := I 95 26 + 1 + nI k) (k := l0 + 1 + k) (by rw [e1, nI_1, nI_add]) (by omega)
  refine eX12_inLine (wX12_inLine_0 ⟨S.k 95 12 (by decide), 96, Q.p 95 0 96 (by decide), S.k 95 12 (by decide), S.k 96 13 (by decide), i3, ?_, rfl⟩)
  rw [i4, e3 k hk]
theorem r_isLine0 {x y : Int32} (S : Sg g) (Q : Sp P) (W : TW t) (M : MtA I 0 t) (h : pk x (tNl t) = none) : Cl mX12_isLine [.ref 95, .int x, .int y] (g, I, P) (some (.int 0)) (g, I, P) :=
  eX12_isLine (wX12_isLine_0 ⟨S.k 95 12 (by decide), _, r_isOf (s := 2) S Q (by decide) W.2.2.2.1.1 M.2.1.2.2.1, fun _ => ⟨rfl, rfl⟩, fun q => by rw [h] at q; exact absurd rfl q⟩)
theorem r_isLine1 {x y : Int32} {i : Nat} (S : Sg g) (Q : Sp P) (W : TW t) (M : MtA I 0 t) (h : pk x (tNl t) = some i) (h2 : pk y (tL t i).1 = none) : Cl mX12_isLine [.ref 95, .int x, .int y] (g, I, P) (some (.int 0)) (g, I, P) := by
  have hn := W.2.2.2.1.1
  obtain ⟨hi, rfl⟩ := pk_some (by omega) h
  have A : MlA I (1050 + 79 * i) (tL t i) := M.2.2.2.2.1 i hi
  have hw := (W.2.2.2.1.2 i hi).1
  obtain ⟨i1, i2⟩ := ix96 S (x := nI (1050 + 79 * i)) rfl (by omega)
  refine eX12_isLine (wX12_isLine_0 ⟨S.k 95 12 (by decide), _, r_isOf (s := 2) S Q (by decide) hn M.2.1.2.2.1, fun _ => ⟨rfl, rfl⟩, fun _ => ⟨S.k 95 12 (by decide), 96, Q.p 95 0 96 (by decide), _, r_place2, S.k 96 13 (by decide), i1, _, by rw [i2, A.1]; exact r_pk (by omega), fun q => ?_, fun _ => ⟨rfl, rfl⟩⟩⟩)
  rw [h2] at q; exact absurd rfl q
theorem r_isLine {x y : Int32} {i j : Nat} (S : Sg g) (Q : Sp P) (W : TW t) (M : MtA I 0 t) (h : pk x (tNl t) = some i) (h2 : pk y (tL t i).1 = some j) : ∃ J, Cl mX12_isLine [.ref 95, .int x, .int y] (g, I, P) (some (.int 1)) (g, J, P) ∧ MeD J (1050 + 79 * i + 1 + 13 * j) ((tL t i).2.1 j) ((tL t i).2.2 j) ∧ Kf I J ∧ ∀ k, k ≠ 26 → k ≠ 27 → J 95 k = I 95 k := by
  have hn := W.2.2.2.1.1
  obtain ⟨hi, rfl⟩ := pk_some (by omega) h
  have A : MlA I (1050 + 79 * i) (tL t i) := M.2.2.2.2.1 i hi
  have hW := W.2.2.2.1.2 i hi
  have hw := hW.1
  obtain ⟨hj, rfl⟩ := pk_some (by omega) h2
  have hz := (hW.2 j hj).1.2
  obtain ⟨a1, a2⟩ := A.2 j hj
  obtain ⟨i1, i2⟩ := ix96 S (x := nI (1050 + 79 * i)) rfl (by omega)
  have e0 : nI (1050 + 79 * i) + 1 + 13 * nI j = nI (1050 + 79 * i + 1 + 13 * j) := by rw [nI_1, show (13 : Int32) = nI 13 from rfl, pk_mul, nI_add]
  obtain ⟨i3, i4⟩ := ix96 S (x := nI (1050 + 79 * i + 1 + 13 * j)) rfl (by omega)
  let J1 := zU I 95 26 (nI (1050 + 79 * i + 1 + 13 * j))
  let J2 := zU J1 95 27 (nI ((tL t i).2.1 j))
  have f1 : Kf I J1 := Kf.u _ _ _
  have f2 : Kf I J2 := f1.tr (Kf.u _ _ _)
  have e1 : J1 95 26 = nI (1050 + 79 * i + 1 + 13 * j) := zU_s _ _ _ _
  have e2 : J1 96 (1050 + 79 * i + 1 + 13 * j) = nI ((tL t i).2.1 j) := by rw [f1 96 (by decide)]; exact a1
  refine ⟨J2, ?_, ⟨by omega, (zU_k _ _ (by decide)).trans e1, zU_s _ _ _ _, fun k hk => ?_⟩, f2, fun k k1 k2 => (zU_k _ _ k2).trans (zU_k _ _ k1)⟩
  · refine eX12_isLine (wX12_isLine_0 ⟨S.k 95 12 (by decide), _, r_isOf (s := 2) S Q (by decide) hn M.2.1.2.2.1, fun q => ?_, fun _ => ⟨S.k 95 12 (by decide), 96, Q.p 95 0 96 (by decide), _, r_place2, S.k 96 13 (by decide), i1, _, by rw [i2, A.1]; exact r_pk (by omega), fun _ => ⟨_, r_place2, S.k 95 12 (by decide), S.k 95 12 (by decide), 96, Q.p 95 0 96 (by decide), S.k 95 12 (by decide), S.k 96 13 (by decide), ?_, S.k 95 12 (by decide), rfl, ?_⟩, fun q => ?_⟩⟩)
    · rw [pk_nI (by omega) hi] at q; exact absurd q zsI
    · rw [zU_s, e0]; exact i3
    · show (g, J2, P) = _
      rw [e0, show zU I 95 26 (nI (1050 + 79 * i + 1 + 13 * j)) = J1 from rfl, e1, i4, e2]
    · rw [h2] at q; exact absurd q zsI
  · rw [f2 96 (by decide)]; exact a2 k hk
theorem b_line (L : LI g I P t im) (x1 x2 x3 : Int32) : ∃ (w : Int32) (J : Nat → Nat → Int32), Cl mX11_line [.ref 0, .int x1, .int x2, .int x3] (g, I, P) (some (.int w)) (g, I, P) ∧ Cl mX12_line [.ref 95, .int x1, .int x2, .int x3] (g, I, P) (some (.int w)) (g, J, P) ∧ Km I J := by
  have L0 := L
  obtain ⟨S, Q, W, D, M, -⟩ := L
  have hn := W.2.2.2.1.1
  have hO := r_isOf (I := I) (s := 2) (x := x1) S Q (by decide) W.2.2.2.1.1 M.2.1.2.2.1
  cases hp : pk x1 (tNl t) with
  | none =>
    refine ⟨-2, I, eX11_line (wX11_line_0 ⟨S.k 0 11 (by decide), 1, Q.p 0 0 1 (by decide), S.k 1 9 (by decide), _, c_linesN L0 hp, fun _ => ⟨rfl, rfl⟩, fun b hb => (nomatch hb)⟩), eX12_line (wX12_line_0 ⟨S.k 95 12 (by decide), _, hO, fun q => by rw [hp] at q; exact absurd rfl q, fun _ => ⟨rfl, rfl⟩⟩), Km.rf I⟩
  | some i =>
    have hi : i < tNl t := (pk_some (by omega) hp).1
    have ei : x1 = nI i := (pk_some (by omega) hp).2
    have hW := W.2.2.2.1.2 i hi
    have hw := hW.1
    have hc : Cl mX11_line [.ref 0, .int x1, .int x2, .int x3] (g, I, P) (some (.int (F_line (tL t i) x2 x3))) (g, I, P) := by
      refine eX11_line (wX11_line_0 ⟨S.k 0 11 (by decide), 1, Q.p 0 0 1 (by decide), S.k 1 9 (by decide), _, c_linesY L0 hp, fun q => (nomatch q), fun b hb => ?_⟩)
      cases hb
      have T := LnS_i S Q (i := i) (by omega)
      exact ⟨T.1, _, c_llook T hW (D.2.2.2.2.1 i hi), rfl, rfl⟩
    have A : MlA I (1050 + 79 * i) (tL t i) := M.2.2.2.2.1 i hi
    obtain ⟨i1, i2⟩ := ix96 S (x := nI (1050 + 79 * i)) rfl (by omega)
    have h1 : ¬ zb (pk x1 (tNl t)).isSome = 0 := by rw [hp]; exact zsI
    by_cases q : x2 = -1
    · refine ⟨_, I, hc, eX12_line (wX12_line_0 ⟨S.k 95 12 (by decide), _, hO, fun _ => ⟨fun q2 => absurd q q2, fun _ => ⟨fun q2 => ⟨?_, rfl⟩, fun q2 => ⟨S.k 95 12 (by decide), 96, Q.p 95 0 96 (by decide), _, by rw [ei]; exact r_place2, S.k 96 13 (by decide), i1, ?_, rfl⟩⟩⟩, fun q => absurd q h1⟩), Km.rf I⟩
      · unfold F_line; rw [if_pos q, if_neg q2]
      · rw [i2, A.1]; unfold F_line; rw [if_pos q, if_pos q2]
    · cases hk : pk x2 (tL t i).1 with
      | none =>
        refine ⟨_, I, hc, eX12_line (wX12_line_0 ⟨S.k 95 12 (by decide), _, hO, fun _ => ⟨fun _ => ⟨S.k 95 12 (by decide), _, _, r_isLine1 S Q W M hp hk, fun q => absurd rfl q, fun _ => ⟨?_, rfl⟩⟩, fun q2 => absurd q2 q⟩, fun q => absurd q h1⟩), Km.rf I⟩
        unfold F_line; rw [if_neg q, hk]
      | some j =>
        obtain ⟨J, z, E, f, -⟩ := r_isLine S Q W M hp hk
        have hj : j < (tL t i).1 := (pk_some (by omega) hk).1
        have hz := (hW.2 j hj).1.2
        have eF : F_line (tL t i) x2 x3 = if x3 = -1 then nI ((tL t i).2.1 j) else match pk x3 ((tL t i).2.1 j) with
          | none => -2
          | some k => nI ((tL t i).2.2 j k) := by unfold F_line; rw [if_neg q, hk]
        rw [eF] at hc
        refine ⟨_, J, hc, eX12_line (wX12_line_0 ⟨S.k 95 12 (by decide), _, hO, fun _ => ⟨fun _ => ⟨S.k 95 12 (by decide), _, _, z, fun _ => ⟨fun q2 => ⟨S.k 95 12 (by decide), _, by rw [E.2.2.1]; exact r_pk (by omega), ?_⟩, fun q2 => ⟨S.k 95 12 (by decide), ?_, rfl⟩⟩, fun q => absurd q (by decide)⟩, fun q2 => absurd q2 q⟩, fun q => absurd q h1⟩), f.m⟩
        · rw [if_neg q2]
          cases hx : pk x3 ((tL t i).2.1 j) with
          | none => exact ⟨fun _ => ⟨rfl, rfl⟩, fun q => absurd rfl q⟩
          | some k =>
            obtain ⟨hk1, rfl⟩ := pk_some (by omega) hx
            exact ⟨fun q => absurd q zsI, fun _ => ⟨S.k 95 12 (by decide), _, r_inLine S Q E hk1, rfl, rfl⟩⟩
        · rw [if_pos q2, E.2.2.1]
end LINE
section HILL
variable {g : zG} {I : Nat → Nat → Int32} {P : Nat → Nat → Option Nat} {t : TD} {im : Nat → Option TD}
/-- what hill answers -/
def F_hill (d : HD) (x : Int32) : Int32 := if x < 0 then -1 else if x.toNatClampNeg = 0 then nI (hS d) else if x.toNatClampNeg = 1 then nI (hN d) else if 100 ≤ x.toNatClampNeg then (if (x.toNatClampNeg - 100) / 6 < hN d ∧ (x.toNatClampNeg - 100) % 6 < hZ d ((x.toNatClampNeg - 100) / 6) then nI (hL d ((x.toNatClampNeg - 100) / 6) ((x.toNatClampNeg - 100) % 6)) else -1) else if 46 ≤ x.toNatClampNeg then -1 else if 40 ≤ x.toNatClampNeg then hA d (x.toNatClampNeg - 40) else if x.toNatClampNeg < 10 then -1 else if x.toNatClampNeg % 10 < hN d then (if x.toNatClampNeg / 10 = 1 then nI (hZ d (x.toNatClampNeg % 10)) else if x.toNatClampNeg / 10 = 2 then nI (hO d (x.toNatClampNeg % 10)) else hBeh d (x.toNatClampNeg % 10)) else -1
theorem c_hasWordN {a w : Nat} {d : HD} (S : HlS g P a) (W : HW d) (D : HlD I a d) (hw : w < 2 ^ 31) : Cl mX3_hasWord [.ref a, .int (nI w)] (g, I, P) (some (.int (zb (decide (w < hN d))))) (g, I, P) := by
  have h1 := W.2.1
  have e : decide (¬ nI w < 0 ∧ nI w < nI (hN d)) = decide (w < hN d) := by
    apply decide_eq_decide.mpr
    rw [nI_ltI hw (by omega)]
    exact ⟨fun h => h.2, fun h => ⟨nI_pos hw, h⟩⟩
  rw [← e]
  exact c_hasWord S D
theorem r_isWordN {w h0 : Nat} {d : HD} (S : Sg g) (W : HW d) (D : MhD I h0 d) (hw : w < 2 ^ 31) : Cl mX12_isWord [.ref 95, .int (nI w)] (g, I, P) (some (.int (zb (decide (w < hN d))))) (g, I, P) := by
  have h1 := W.2.1
  have e : (pk (nI w) (hN d)).isSome = decide (w < hN d) := by
    by_cases h : w < hN d
    · rw [pk_nI (by omega) h]; simp [h]
    · rw [pk_ge (nI_le (by omega) hw)]; simp [h]
  rw [← e]
  exact eX12_isWord (wX12_isWord_0 ⟨S.k 95 12 (by decide), _, by rw [D.2.2.2.1]; exact r_pk (by omega), zb_or _, rfl, rfl⟩)
theorem c_hlook {a : Nat} {d : HD} {x : Int32} (S : HlS g P a) (W : HW d) (D : HlD I a d) : Cl mX3_look [.ref a, .int x] (g, I, P) (some (.int (F_hill d x))) (g, I, P) := by
  have hN10 := W.2.1
  by_cases hx : x < 0
  · have l100 : x < 100 := Int32.lt_trans hx (by decide)
    have l40 : x < 40 := Int32.lt_trans hx (by decide)
    have l10 : x < 10 := Int32.lt_trans hx (by decide)
    have e : F_hill d x = -1 := by unfold F_hill; rw [if_pos hx]
    rw [e]
    exact eX3_look (wX3_look_0 ⟨fun _ => ⟨fun _ => ⟨fun _ => ⟨fun _ => wX3_look_95 ⟨fun _ => ⟨rfl, rfl⟩, fun q => absurd l10 q⟩, fun q => absurd l40 q⟩, fun q => absurd l100 q⟩, fun q => absurd (q ▸ hx) (by decide)⟩, fun q => absurd (q ▸ hx) (by decide)⟩)
  · obtain ⟨n, hn, rfl⟩ := nI_of hx
    unfold F_hill
    rw [if_neg hx, nI_clamp hn]
    have e6 : n - 100 < 2 ^ 31 := by omega
    have e95 : 2 ≤ n → n < 100 → (n < 40 ∨ 46 ≤ n) → Zt none mX3_look 0 0 95 [(0, .ref a), (1, .int (nI n))] [] (g, I, P) (some (.int (if n = 0 then nI (hS d) else if n = 1 then nI (hN d) else if 100 ≤ n then (if (n - 100) / 6 < hN d ∧ (n - 100) % 6 < hZ d ((n - 100) / 6) then nI (hL d ((n - 100) / 6) ((n - 100) % 6)) else -1) else if 46 ≤ n then -1 else if 40 ≤ n then hA d (n - 40) else if n < 10 then -1 else if n % 10 < hN d then (if n / 10 = 1 then nI (hZ d (n % 10)) else if n / 10 = 2 then nI (hO d (n % 10)) else hBeh d (n % 10)) else -1))) (g, I, P) := by
      intro a1 a2 a3
      rw [if_neg (by omega), if_neg (by omega), if_neg (by omega)]
      refine wX3_look_95 (pk_lt n 10 (fun q => ⟨?_, rfl⟩) (fun q => pk_le 40 n (fun q2 => ⟨?_, rfl⟩) (fun q2 => ⟨S.1, _, ?_, rfl, rfl⟩)))
      · rw [if_neg (by omega), if_neg (by omega), if_pos q]
      · rw [if_pos (by omega)]
      · rw [if_neg (by omega), if_neg (by omega), if_neg (by omega), show (10 : Int32) = nI 10 from rfl, pk_rem hn (by decide) (by decide), pk_div hn (by decide) (by decide)]
        refine eX3_lookAtWord (wX3_lookAtWord_0 ⟨S.1, _, c_hasWordN S W D (by omega), zq (fun q3 => ?_) (fun q3 => ⟨?_, rfl⟩)⟩)
        · have hw : n % 10 < hN d := of_decide_eq_true q3
          rw [if_pos hw]
          refine ⟨fun q4 => ⟨S.1, _, c_sizeOf S W D hw, ?_, rfl⟩, fun q4 => ⟨S.1, _, c_oftenOf S W D hw, ?_, rfl⟩, fun q4 => ⟨S.1, _, c_behind S W D hw, ?_, rfl⟩, fun q4 q5 q6 => ?_⟩
          · replace q4 := (nI_eq (b := 1) (by omega) (by decide)).mp q4
            rw [if_pos q4]
          · replace q4 := (nI_eq (b := 2) (by omega) (by decide)).mp q4
            rw [if_neg (by omega), if_pos q4]
          · replace q4 := (nI_eq (b := 3) (by omega) (by decide)).mp q4
            rw [if_neg (by omega), if_neg (by omega)]
          · exfalso
            have r1 : n / 10 ≠ 1 := fun h => q4 (by rw [h]; rfl)
            have r2 : n / 10 ≠ 2 := fun h => q5 (by rw [h]; rfl)
            have r3 : n / 10 ≠ 3 := fun h => q6 (by rw [h]; rfl)
            omega
        · have hw : ¬ n % 10 < hN d := of_decide_eq_false q3
          rw [if_neg hw]
    refine eX3_look (wX3_look_0 (pq_eq n 0 (fun q0 => pq_eq n 1 (fun q1 => pk_lt n 100 (fun q2 => pk_lt n 40 (fun q3 => e95 (by omega) q2 (by omega)) (fun q3 => pk_le 46 n (fun q4 => e95 (by omega) q2 (by omega)) (fun q4 => ⟨S.1, _, S.2.2.2.2.2.2.2, hA d (n - 40), ?_, ?_, rfl⟩))) (fun q2 => ?_)) (fun q1 => ⟨S.1, ?_, rfl⟩)) (fun q0 => ⟨S.1, ?_, rfl⟩)))
    · rw [show nI n - 40 = nI (n - 40) from pk_sub (b := 40) (by omega), ← D.2.2.2.2.2.2.2 (n - 40) (by omega)]
      exact c_got S.2.1.2.2.2.2 S.2.2.1.2.2.2.2 (by decide) (by omega)
    · rw [if_neg (by omega), if_neg (by omega), if_neg (by omega), if_neg (by omega), if_pos (by omega)]
    · intro y hy
      have e1 : nI n - 100 = nI (n - 100) := pk_sub (b := 100) q2
      rw [e1, show (6 : Int32) = nI 6 from rfl, pk_rem e6 (by decide) (by decide)] at hy
      rw [e1, show (6 : Int32) = nI 6 from rfl, pk_div e6 (by decide) (by decide), hy, if_neg (by omega), if_neg (by omega), if_pos q2]
      refine ⟨S.1, _, c_hasWordN S W D (by omega), zp (fun q3 => ⟨?_, rfl⟩) (fun q3 => ?_)⟩
      · have hw : ¬ (n - 100) / 6 < hN d := of_decide_eq_false q3
        rw [if_neg (fun h => hw h.1)]
      · have hw : (n - 100) / 6 < hN d := of_decide_eq_true q3
        have hz := (W.2.2.1 _ hw).2
        refine ⟨S.1, _, c_sizeOf S W D hw, pk_le _ _ (fun q4 => ⟨?_, rfl⟩) (fun q4 => ⟨S.1, _, c_letterOf S W D hw q4, ?_, rfl⟩)⟩
        · rw [if_neg (fun h => absurd h.2 (by omega))]
        · rw [if_pos ⟨hw, q4⟩]
    · rw [if_neg (by omega), if_pos q1, D.2.1]
    · rw [if_pos q0, D.1]
theorem b_hill (L : LI g I P t im) (x1 x2 : Int32) : ∃ (w : Int32) (J : Nat → Nat → Int32), Cl mX11_hill [.ref 0, .int x1, .int x2] (g, I, P) (some (.int w)) (g, I, P) ∧ Cl mX12_hill [.ref 95, .int x1, .int x2] (g, I, P) (some (.int w)) (g, J, P) ∧ Km I J := by
  have L0 := L
  obtain ⟨S, Q, W, D, M, -⟩ := L
  have hn2 := W.2.1.1
  cases hp : pk x1 (tNh t) with
  | none =>
    refine ⟨-1, I, eX11_hill (wX11_hill_0 ⟨S.k 0 11 (by decide), 1, Q.p 0 0 1 (by decide), S.k 1 9 (by decide), _, c_hillN L0 hp, fun _ => ⟨rfl, rfl⟩, fun b hb => (nomatch hb)⟩), eX12_hill (wX12_hill_0 ⟨S.k 95 12 (by decide), _, _, r_isHill0 S Q W M hp, fun q => absurd rfl q, fun _ => ⟨rfl, rfl⟩⟩), Km.rf I⟩
  | some i =>
    have hi : i < tNh t := (pk_some (by omega) hp).1
    have hW := (W.2.1.2 i hi).1
    obtain ⟨J, z, E, f, -⟩ := r_isHill S Q W M hp
    refine ⟨F_hill (tH t i) x2, J, ?_, ?_, f.m⟩
    · refine eX11_hill (wX11_hill_0 ⟨S.k 0 11 (by decide), 1, Q.p 0 0 1 (by decide), S.k 1 9 (by decide), _, c_hillY L0 hp, fun q => (nomatch q), fun b hb => ?_⟩)
      cases hb
      have T := HlS_i S Q (i := i) (by omega)
      exact ⟨T.1, _, c_hlook T hW (D.2.2.1 i hi), rfl, rfl⟩
    · generalize tH t i = d at E hW ⊢
      have hN10 := hW.2.1
      have hb := E.1
      refine eX12_hill (wX12_hill_0 ⟨S.k 95 12 (by decide), _, _, z, fun _ => ?_, fun q => absurd q (by decide)⟩)
      by_cases hx : x2 < 0
      · have l100 : x2 < 100 := Int32.lt_trans hx (by decide)
        have e : F_hill d x2 = -1 := by unfold F_hill; rw [if_pos hx]
        rw [e]
        exact ⟨_, r_isInX (lo := 0) (hi := 1) hx (by decide), fun _ => ⟨_, r_isInX (lo := 40) (hi := 49) hx (by decide), fun _ => ⟨_, r_isInX (lo := 10) (hi := 39) hx (by decide), fun _ => ⟨fun _ => ⟨rfl, rfl⟩, fun q => absurd l100 q⟩, fun q => absurd rfl q⟩, fun q => absurd rfl q⟩, fun q => absurd rfl q⟩
      · obtain ⟨n, hn, rfl⟩ := nI_of hx
        unfold F_hill
        rw [if_neg hx, nI_clamp hn, show (10 : Int32) = nI 10 from rfl, pk_rem hn (by decide) (by decide)]
        refine ⟨_, r_isInN (lo := 0) (hi := 1) hn (by decide) (by decide), zp (fun q => ⟨_, r_isInN (lo := 40) (hi := 49) hn (by decide) (by decide), zp (fun q2 => ⟨_, r_isInN (lo := 10) (hi := 39) hn (by decide) (by decide), zp (fun q3 => ?_) (fun q3 => ?_)⟩) (fun q2 => ?_)⟩) (fun q => ?_)⟩
        · have q := of_decide_eq_false q
          have q2 := of_decide_eq_false q2
          have q3 := of_decide_eq_false q3
          refine pk_lt n 100 (fun q4 => ⟨?_, rfl⟩) (fun q4 => ?_)
          · rw [if_neg (by omega), if_neg (by omega), if_neg (by omega)]
            by_cases h46 : 46 ≤ n
            · rw [if_pos h46]
            · rw [if_neg h46, if_neg (by omega), if_pos (by omega)]
          · rw [if_neg (by omega), if_neg (by omega), if_pos q4, show nI n - 100 = nI (n - 100) from pk_sub (b := 100) q4, show (6 : Int32) = nI 6 from rfl, pk_rem (by omega) (by decide) (by decide), pk_div (by omega) (by decide) (by decide)]
            refine ⟨S.k 95 12 (by decide), _, r_isWordN S hW E (by omega), zp (fun q5 => ⟨?_, rfl⟩) (fun q5 => ?_)⟩
            · have hw : ¬ (n - 100) / 6 < hN d := of_decide_eq_false q5
              rw [if_neg (fun h => hw h.1)]
            · have hw : (n - 100) / 6 < hN d := of_decide_eq_true q5
              have hz := (hW.2.2.1 _ hw).2
              refine ⟨S.k 95 12 (by decide), _, r_longOf S Q hW E hw, pk_le _ _ (fun q6 => ⟨?_, rfl⟩) (fun q6 => ⟨S.k 95 12 (by decide), _, r_letterOf S Q hW E hw q6, ?_, rfl⟩)⟩
              · rw [if_neg (fun h => absurd h.2 (by omega))]
              · rw [if_pos ⟨hw, q6⟩]
        · have q := of_decide_eq_false q
          have q2 := of_decide_eq_false q2
          have q3 := of_decide_eq_true q3
          rw [if_neg (by omega), if_neg (by omega), if_neg (by omega), if_neg (by omega), if_neg (by omega), if_neg (by omega)]
          refine ⟨S.k 95 12 (by decide), _, r_isWordN S hW E (by omega), zq (fun q5 => ?_) (fun q5 => ⟨?_, rfl⟩)⟩
          · have hw : n % 10 < hN d := of_decide_eq_true q5
            rw [if_pos hw]
            refine pk_le 20 n (fun q6 => pk_le 30 n (fun q7 => ⟨S.k 95 12 (by decide), _, r_behind S Q hW E hw, ?_, rfl⟩) (fun q7 => ⟨S.k 95 12 (by decide), _, r_oftenOf S Q hW E hw, ?_, rfl⟩)) (fun q6 => ⟨S.k 95 12 (by decide), _, r_longOf S Q hW E hw, ?_, rfl⟩)
            · rw [if_neg (by omega), if_neg (by omega)]
            · rw [if_neg (by omega), if_pos (by omega)]
            · rw [if_pos (by omega)]
          · have hw : ¬ n % 10 < hN d := of_decide_eq_false q5
            rw [if_neg hw]
        · have q := of_decide_eq_false q
          have q2 := of_decide_eq_true q2
          rw [if_neg (by omega), if_neg (by omega), if_neg (by omega)]
          refine pk_le 6 _ (fun q3 => ⟨?_, rfl⟩) (fun q3 => ⟨S.k 95 12 (by decide), _, r_answers S Q E q3, ?_, rfl⟩)
          · rw [if_pos (by omega)]
          · rw [if_neg (by omega), if_pos (by omega), show n - 40 = n % 10 by omega]
        · have q := of_decide_eq_true q
          obtain ⟨i1, i2⟩ := ix96 S (x := J 95 13 + nI n) (k := 610 + 99 * i + n) (by rw [E.2.1, nI_add]) (by omega)
          refine ⟨S.k 95 12 (by decide), 96, Q.p 95 0 96 (by decide), S.k 95 12 (by decide), S.k 96 13 (by decide), i1, ?_, rfl⟩
          rw [i2]
          rcases (show n = 0 ∨ n = 1 by omega) with rfl | rfl
          · rw [if_pos rfl]; exact congrArg (fun z => some (Value.int z)) E.2.2.2.2.1.symm
          · rw [if_neg (by decide), if_pos rfl]; exact congrArg (fun z => some (Value.int z)) E.2.2.2.2.2.1.symm
end HILL
