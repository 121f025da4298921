/-! ===== which one is meant, on both sides; deed, fact, line, hill ===== -/
section CHOOSE
variable {g : zG} {I : Nat → Nat → Int32} {P : Nat → Nat → Option Nat} {t : TD} {im : Nat → Option TD}
theorem zsI {i : Nat} : ¬ zb (some i).isSome = 0 := fun h => absurd (show (1 : Int32) = 0 from h) (by decide)
theorem c_hillN {x : Int32} (L : LI g I P t im) (h : pk x (tNh t) = none) : Cl mX9_hillOf [.ref 1, .int x] (g, I, P) (some (zov none)) (g, I, P) := by
  have := c_hillOf (x := x) L
  rw [h] at this; exact this
theorem c_hillY {x : Int32} {i : Nat} (L : LI g I P t im) (h : pk x (tNh t) = some i) : Cl mX9_hillOf [.ref 1, .int x] (g, I, P) (some (zov (some (8 + 16 * i)))) (g, I, P) := by
  have := c_hillOf (x := x) L
  rw [h] at this; exact this
theorem c_centN {x : Int32} (L : LI g I P t im) (h : pk x (tNc t) = none) : Cl mX9_centuryOf [.ref 1, .int x] (g, I, P) (some (zov none)) (g, I, P) := by
  have := c_centOf (x := x) L
  rw [h] at this; exact this
theorem c_centY {x : Int32} {i : Nat} (L : LI g I P t im) (h : pk x (tNc t) = some i) : Cl mX9_centuryOf [.ref 1, .int x] (g, I, P) (some (zov (some (14 + 16 * i)))) (g, I, P) := by
  have := c_centOf (x := x) L
  rw [h] at this; exact this
theorem c_linesN {x : Int32} (L : LI g I P t im) (h : pk x (tNl t) = none) : Cl mX9_linesOf [.ref 1, .int x] (g, I, P) (some (zov none)) (g, I, P) := by
  have := c_linesOf (x := x) L
  rw [h] at this; exact this
theorem c_linesY {x : Int32} {i : Nat} (L : LI g I P t im) (h : pk x (tNl t) = some i) : Cl mX9_linesOf [.ref 1, .int x] (g, I, P) (some (zov (some (18 + 16 * i)))) (g, I, P) := by
  have := c_linesOf (x := x) L
  rw [h] at this; exact this
theorem c_logN {x : Int32} (L : LI g I P t im) (h : pk x (tNg t) = none) : Cl mX9_logOf [.ref 1, .int x] (g, I, P) (some (zov none)) (g, I, P) := by
  have := c_logOf (x := x) L
  rw [h] at this; exact this
theorem c_logY {x : Int32} {i : Nat} (L : LI g I P t im) (h : pk x (tNg t) = some i) : Cl mX9_logOf [.ref 1, .int x] (g, I, P) (some (zov (some (21 + 16 * i)))) (g, I, P) := by
  have := c_logOf (x := x) L
  rw [h] at this; exact this
theorem HlS_i {i : Nat} (S : Sg g) (Q : Sp P) (hi : i < 2) : HlS g P (8 + 16 * i) := by
  rcases (show i = 0 ∨ i = 1 by omega) with rfl | rfl
  · exact HlS_8 S Q
  · exact HlS_24 S Q
theorem CnS_i {i : Nat} (S : Sg g) (Q : Sp P) (hi : i < 2) : CnS g P (14 + 16 * i) := by
  rcases (show i = 0 ∨ i = 1 by omega) with rfl | rfl
  · exact ⟨S.k 14 0 (by decide), ⟨S.k 15 13 (by decide), S.k 16 13 (by decide), S.k 17 13 (by decide)⟩, ⟨S.l 15 40 (by decide), S.l 16 40 (by decide), S.l 17 40 (by decide)⟩, Q.p 14 1 15 (by decide), Q.p 14 2 16 (by decide), Q.p 14 3 17 (by decide)⟩
  · exact ⟨S.k 30 0 (by decide), ⟨S.k 31 13 (by decide), S.k 32 13 (by decide), S.k 33 13 (by decide)⟩, ⟨S.l 31 40 (by decide), S.l 32 40 (by decide), S.l 33 40 (by decide)⟩, Q.p 30 1 31 (by decide), Q.p 30 2 32 (by decide), Q.p 30 3 33 (by decide)⟩
theorem LnS_i {i : Nat} (S : Sg g) (Q : Sp P) (hi : i < 2) : LnS g P (18 + 16 * i) := by
  rcases (show i = 0 ∨ i = 1 by omega) with rfl | rfl
  · exact ⟨S.k 18 4 (by decide), ⟨S.k 19 13 (by decide), S.k 20 13 (by decide)⟩, ⟨S.l 19 6 (by decide), S.l 20 72 (by decide)⟩, Q.p 18 1 19 (by decide), Q.p 18 2 20 (by decide)⟩
  · exact ⟨S.k 34 4 (by decide), ⟨S.k 35 13 (by decide), S.k 36 13 (by decide)⟩, ⟨S.l 35 6 (by decide), S.l 36 72 (by decide)⟩, Q.p 34 1 35 (by decide), Q.p 34 2 36 (by decide)⟩
theorem LgS_i {i : Nat} (S : Sg g) (Q : Sp P) (hi : i < 2) : LgS g P (21 + 16 * i) := by
  rcases (show i = 0 ∨ i = 1 by omega) with rfl | rfl
  · exact ⟨S.k 21 5 (by decide), ⟨S.k 22 13 (by decide), S.k 23 13 (by decide)⟩, ⟨S.l 22 8 (by decide), S.l 23 8 (by decide)⟩, Q.p 21 1 22 (by decide), Q.p 21 2 23 (by decide)⟩
  · exact ⟨S.k 37 5 (by decide), ⟨S.k 38 13 (by decide), S.k 39 13 (by decide)⟩, ⟨S.l 38 8 (by decide), S.l 39 8 (by decide)⟩, Q.p 37 1 38 (by decide), Q.p 37 2 39 (by decide)⟩
/-- a place in the reference's row -/
theorem ix96 {x : Int32} {k : Nat} (S : Sg g) (hx : x = nI k) (hk : k < 4968) : vp_in x (g.2.2 96) ∧ x.toNatClampNeg = k := by
  rw [S.l 96 4968 (by decide)]; exact ix hx hk (by decide)
/-- only the reference's own fields have changed -/
def Kf (I J : Nat → Nat → Int32) : Prop := ∀ a, a ≠ 95 → J a = I a
theorem Kf.m {I J : Nat → Nat → Int32} (h : Kf I J) : Km I J := fun a ha => h a (by omega)
theorem Kf.u (I : Nat → Nat → Int32) (k : Nat) (x : Int32) : Kf I (zU I 95 k x) := fun a ha => by funext j; rw [zU_a _ _ ha]
theorem Kf.tr {I J K : Nat → Nat → Int32} (h : Kf I J) (h2 : Kf J K) : Kf I K := fun a ha => (h2 a ha).trans (h a ha)
theorem Kf.rf (I : Nat → Nat → Int32) : Kf I I := fun _ _ => rfl
theorem Kf.Mt {J : Nat → Nat → Int32} {o : Nat} (h : Kf I J) (M : MtA I o t) : MtA J o t := M.keep (h 96 (by decide))
theorem r_isHill0 {x : Int32} (S : Sg g) (Q : Sp P) (W : TW t) (M : MtA I 0 t) (h : pk x (tNh t) = none) : Cl mX12_isHill [.ref 95, .int x] (g, I, P) (some (.int 0)) (g, I, P) :=
  eX12_isHill (wX12_isHill_0 ⟨S.k 95 12 (by decide), _, r_isOf (s := 0) S Q (by decide) W.2.1.1 M.2.1.1, fun q => by rw [h] at q; exact absurd rfl q, fun _ => ⟨rfl, rfl⟩⟩)
theorem r_isHill {x : Int32} {i : Nat} (S : Sg g) (Q : Sp P) (W : TW t) (M : MtA I 0 t) (h : pk x (tNh t) = some i) : ∃ J, Cl mX12_isHill [.ref 95, .int x] (g, I, P) (some (.int 1)) (g, J, P) ∧ MhD J (610 + 99 * i) (tH t i) ∧ Kf I J ∧ ∀ k, k ≠ 13 → k ≠ 14 → k ≠ 15 → J 95 k = I 95 k := by
  have hn := W.2.1.1
  obtain ⟨hi, rfl⟩ := pk_some (by omega) h
  have A : MhA I (610 + 99 * i) (tH t i) := M.2.2.1 i hi
  obtain ⟨i1, i2⟩ := ix96 S (x := nI (610 + 99 * i)) rfl (by omega)
  obtain ⟨i3, i4⟩ := ix96 S (x := nI (610 + 99 * i) + 1) (nI_1 _) (by omega)
  let J1 := zU I 95 13 (nI (610 + 99 * i))
  let J2 := zU J1 95 14 (nI (hS (tH t i)))
  let J3 := zU J2 95 15 (nI (hN (tH t i)))
  have f1 : Kf I J1 := Kf.u _ _ _
  have f2 : Kf I J2 := f1.tr (Kf.u _ _ _)
  have f3 : Kf I J3 := f2.tr (Kf.u _ _ _)
  have e1 : J1 95 13 = nI (610 + 99 * i) := zU_s _ _ _ _
  have e2 : J2 95 13 = nI (610 + 99 * i) := (zU_k _ _ (by decide)).trans e1
  have e3 : J1 96 (610 + 99 * i) = nI (hS (tH t i)) := by rw [f1 96 (by decide)]; exact A.1
  have e4 : J2 96 (610 + 99 * i + 1) = nI (hN (tH t i)) := by rw [f2 96 (by decide)]; exact A.2.1
  refine ⟨J3, ?_, ⟨by omega, ?_, ?_, zU_s _ _ _ _, ?_⟩, f3, fun k h1 h2 h3 => ?_⟩
  · refine eX12_isHill (wX12_isHill_0 ⟨S.k 95 12 (by decide), _, r_isOf (s := 0) S Q (by decide) hn M.2.1.1, fun _ => ⟨_, r_place0, S.k 95 12 (by decide), S.k 95 12 (by decide), 96, Q.p 95 0 96 (by decide), S.k 95 12 (by decide), S.k 96 13 (by decide), ?_, S.k 95 12 (by decide), S.k 95 12 (by decide), 96, Q.p 95 0 96 (by decide), S.k 95 12 (by decide), S.k 96 13 (by decide), ?_, S.k 95 12 (by decide), rfl, ?_⟩, fun q => ?_⟩)
    · rw [zU_s]; exact i1
    · rw [zU_k _ _ (by decide), zU_s]; exact i3
    · show (g, J3, P) = _
      rw [show (zU I 95 13 (nI (610 + 99 * i))) = J1 from rfl, e1, i2, e3, show zU J1 95 14 (nI (hS (tH t i))) = J2 from rfl, e2, i4, e4]
    · rw [pk_nI (by omega) hi] at q; exact absurd q zsI
  · exact (zU_k _ _ (by decide)).trans e2
  · exact (zU_k _ _ (by decide)).trans (zU_s _ _ _ _)
  · have : J3 96 = I 96 := f3 96 (by decide)
    unfold MhA at A ⊢
    rw [this]; exact A
  · exact (zU_k _ _ h3).trans ((zU_k _ _ h2).trans (zU_k _ _ h1))
theorem r_isCent0 {x : Int32} (S : Sg g) (Q : Sp P) (W : TW t) (M : MtA I 0 t) (h : pk x (tNc t) = none) : Cl mX12_isCentury [.ref 95, .int x] (g, I, P) (some (.int 0)) (g, I, P) :=
  eX12_isCentury (wX12_isCentury_0 ⟨S.k 95 12 (by decide), _, r_isOf (s := 1) S Q (by decide) W.2.2.1.1 M.2.1.2.1, fun q => by rw [h] at q; exact absurd rfl q, fun _ => ⟨rfl, rfl⟩⟩)
theorem r_isCent {x : Int32} {i : Nat} (S : Sg g) (Q : Sp P) (W : TW t) (M : MtA I 0 t) (h : pk x (tNc t) = some i) : Cl mX12_isCentury [.ref 95, .int x] (g, I, P) (some (.int 1)) (g, zU I 95 16 (nI (808 + 121 * i)), P) := by
  have hn := W.2.2.1.1
  obtain ⟨hi, rfl⟩ := pk_some (by omega) h
  refine eX12_isCentury (wX12_isCentury_0 ⟨S.k 95 12 (by decide), _, r_isOf (s := 1) S Q (by decide) hn M.2.1.2.1, fun _ => ⟨_, r_place1, S.k 95 12 (by decide), rfl, rfl⟩, fun q => ?_⟩)
  rw [pk_nI (by omega) hi] at q; exact absurd q zsI
/-- what deed answers of a century -/
def F_deed (c : CD) (x2 x3 : Int32) : Int32 := if x2 = -1 then (if x3 = 0 then nI c.1 else -2) else match pk x2 c.1 with
  | none => -2
  | some k => if x3 = 0 then nI (c.2.1 k) else if x3 = 1 then nI (c.2.2.1 k) else if x3 = 2 then c.2.2.2 k else -2
theorem c_clook {a : Nat} {c : CD} {x2 x3 : Int32} (T : CnS g P a) (W : CW c) (D : CnD I a c) : Cl mX0_look [.ref a, .int x2, .int x3] (g, I, P) (some (.int (F_deed c x2 x3))) (g, I, P) := by
  have h14 : ¬ (x2 = -1 ∧ x3 = 0) → Zt none mX0_look 0 0 14 [(0, .ref a), (1, .int x2), (2, .int x3)] [] (g, I, P) (some (.int (F_deed c x2 x3))) (g, I, P) := by
    intro hx
    refine wX0_look_14 ⟨fun q => ⟨?_, rfl⟩, fun q => ⟨T.1, fun q2 => ?_, fun q2 => ⟨?_, rfl⟩⟩⟩
    · unfold F_deed
      by_cases h1 : x2 = -1
      · rw [if_pos h1, if_neg (fun h => hx ⟨h1, h⟩)]
      · rw [if_neg h1, pk_neg q]
    · rw [D.1] at q2
      have h1 : ¬ x2 = -1 := fun h => q (by rw [h]; decide)
      obtain ⟨k, hk, rfl⟩ := nI_of q
      have hk2 : k < c.1 := (nI_ltI hk (by have := W.1; omega)).mp q2
      have hw := W.1
      obtain ⟨d1, d2, d3⟩ := D.2 k hk2
      unfold F_deed
      rw [if_neg h1, pk_nI (by omega) hk2]
      refine ⟨fun q3 => ⟨T.1, _, T.2.2.2.1, _, c_got T.2.1.1 T.2.2.1.1 (by decide) (by omega), ?_, rfl⟩, fun q3 => ⟨T.1, _, T.2.2.2.2.1, _, c_got T.2.1.2.1 T.2.2.1.2.1 (by decide) (by omega), ?_, rfl⟩, fun q3 => ⟨T.1, _, T.2.2.2.2.2, _, c_got T.2.1.2.2 T.2.2.1.2.2 (by decide) (by omega), ?_, rfl⟩, fun q3 q4 q5 => ⟨?_, rfl⟩⟩
      · simp only [q3]; rw [if_pos trivial, d1]
      · simp only [q3]; rw [if_neg (by decide), if_pos trivial, d2]
      · simp only [q3]; rw [if_neg (by decide), if_neg (by decide), if_pos trivial, d3]
      · simp only [if_neg q3, if_neg q4, if_neg q5]
    · rw [D.1] at q2
      have h1 : ¬ x2 = -1 := fun h => q (by rw [h]; decide)
      unfold F_deed
      rw [if_neg h1, pk_ge (Int32.not_lt.mp q2)]
  refine eX0_look (wX0_look_0 ⟨fun q => h14 (fun h => q h.1), fun q => ⟨fun q2 => h14 (fun h => q2 h.2), fun q2 => ⟨T.1, ?_, rfl⟩⟩⟩)
  unfold F_deed
  rw [if_pos q, if_pos q2, D.1]
theorem b_deed (L : LI g I P t im) (x1 x2 x3 : Int32) : ∃ (w : Int32) (J : Nat → Nat → Int32), Cl mX11_deed [.ref 0, .int x1, .int x2, .int x3] (g, I, P) (some (.int w)) (g, I, P) ∧ Cl mX12_deed [.ref 95, .int x1, .int x2, .int x3] (g, I, P) (some (.int w)) (g, J, P) ∧ Km I J := by
  have L0 := L
  obtain ⟨S, Q, W, D, M, -⟩ := L
  have hn := W.2.2.1.1
  cases hp : pk x1 (tNc t) with
  | none =>
    refine ⟨-2, I, eX11_deed (wX11_deed_0 ⟨S.k 0 11 (by decide), 1, Q.p 0 0 1 (by decide), S.k 1 9 (by decide), _, c_centN L0 hp, fun _ => ⟨rfl, rfl⟩, fun b hb => (nomatch hb)⟩), eX12_deed (wX12_deed_0 ⟨S.k 95 12 (by decide), _, _, r_isCent0 S Q W M hp, fun q => absurd rfl q, fun _ => ⟨rfl, rfl⟩⟩), Km.rf I⟩
  | some i =>
    have hi : i < tNc t := (pk_some (by omega) hp).1
    have hC := W.2.2.1.2 i hi
    have hc1 := hC.1
    have A0 : McA I (808 + 121 * i) (tC t i) := M.2.2.2.1 i hi
    have eJ : zU I 95 16 (nI (808 + 121 * i)) 95 16 = nI (808 + 121 * i) := zU_s _ _ _ _
    have e96 : zU I 95 16 (nI (808 + 121 * i)) 96 = I 96 := Kf.u _ _ _ 96 (by decide)
    have A : McA (zU I 95 16 (nI (808 + 121 * i))) (808 + 121 * i) (tC t i) := by unfold McA at A0 ⊢; rw [e96]; exact A0
    refine ⟨F_deed (tC t i) x2 x3, zU I 95 16 (nI (808 + 121 * i)), eX11_deed (wX11_deed_0 ⟨S.k 0 11 (by decide), 1, Q.p 0 0 1 (by decide), S.k 1 9 (by decide), _, c_centY L0 hp, fun q => (nomatch q), fun b hb => ?_⟩), ?_, (Kf.u _ _ _).m⟩
    · cases hb
      have T := CnS_i S Q (i := i) (by omega)
      exact ⟨T.1, _, c_clook T hC (D.2.2.2.1 i hi), rfl, rfl⟩
    · obtain ⟨i1, i2⟩ := ix96 S (x := nI (808 + 121 * i)) rfl (by omega)
      have hI := r_isCent S Q W M hp
      generalize zU I 95 16 (nI (808 + 121 * i)) = J at eJ A hI ⊢
      refine eX12_deed (wX12_deed_0 ⟨S.k 95 12 (by decide), _, _, hI, fun _ => ⟨fun q => ⟨S.k 95 12 (by decide), 96, Q.p 95 0 96 (by decide), S.k 95 12 (by decide), S.k 96 13 (by decide), ?_, _, r_isIn, fun q2 => ⟨?_, rfl⟩, fun q2 => ⟨_, r_isIn, fun q3 => ⟨?_, rfl⟩, fun q3 => ?_⟩⟩, fun q => ⟨fun q2 => ⟨?_, rfl⟩, fun q2 => ⟨S.k 95 12 (by decide), 96, Q.p 95 0 96 (by decide), S.k 95 12 (by decide), S.k 96 13 (by decide), ?_, ?_, rfl⟩⟩⟩, fun q => absurd q (by decide)⟩)
      · rw [eJ]; exact i1
      · rw [eJ, i2, A.1, pk_isIn _ (by omega), zb_eq] at q2
        unfold F_deed
        rw [if_neg q]
        cases hk : pk x2 (tC t i).1 with
        | none => rfl
        | some k => rw [hk] at q2; cases q2
      · rw [eJ, i2, A.1, pk_isIn _ (by omega), ← ne_eq, zb_ne] at q2
        rw [zb_eq, decide_eq_false_iff_not] at q3
        unfold F_deed
        rw [if_neg q]
        cases hk : pk x2 (tC t i).1 with
        | none => rfl
        | some k =>
          have f0 : ¬ x3 = 0 := fun h => q3 (by rw [h]; decide)
          have f1 : ¬ x3 = 1 := fun h => q3 (by rw [h]; decide)
          have f2 : ¬ x3 = 2 := fun h => q3 (by rw [h]; decide)
          simp only [if_neg f0, if_neg f1, if_neg f2]
      · rw [eJ, i2, A.1, pk_isIn _ (by omega), ← ne_eq, zb_ne] at q2
        rw [← ne_eq, zb_ne, decide_eq_true_eq] at q3
        cases hk : pk x2 (tC t i).1 with
        | none => rw [hk] at q2; cases q2
        | some k =>
          obtain ⟨hk1, rfl⟩ := pk_some (by omega) hk
          obtain ⟨j, -, hj, rfl⟩ := inN (lo := 0) (hi := 2) (by decide) (by decide) q3.1 q3.2
          obtain ⟨d1, d2, d3⟩ := A.2 k hk1
          obtain ⟨i3, i4⟩ := ix96 S (x := J 95 16 + 1 + 3 * nI k + nI j) (k := 808 + 121 * i + 1 + 3 * k + j) (by rw [eJ, nI_1, show (3 : Int32) = nI 3 from rfl, pk_mul, nI_add, nI_add]) (by omega)
          refine ⟨S.k 95 12 (by decide), 96, Q.p 95 0 96 (by decide), S.k 95 12 (by decide), S.k 96 13 (by decide), i3, ?_, rfl⟩
          rw [i4]
          unfold F_deed
          rw [if_neg q, hk]
          rcases (show j = 0 ∨ j = 1 ∨ j = 2 by omega) with rfl | rfl | rfl
          · exact congrArg (fun z => some (Value.int z)) d1.symm
          · exact congrArg (fun z => some (Value.int z)) d2.symm
          · exact congrArg (fun z => some (Value.int z)) d3.symm
      · unfold F_deed; rw [if_pos q, if_neg q2]
      · rw [eJ]; exact i1
      · rw [eJ, i2, A.1]; unfold F_deed; rw [if_pos q, if_pos q2]
/-! logs -/
/-- the last place of a log -/
def gLast (q : GD) : Nat → Nat
  | 0 => 0
  | n + 1 => max (gLast q n) (q.2.1 n)
theorem gLast_le {q : GD} (W : GW q) : ∀ n, n ≤ q.1 → gLast q n ≤ 11 := by
  intro n
  induction n with
  | zero => intro _; exact Nat.zero_le _
  | succ n ih =>
    intro h
    have h1 := ih (by omega)
    have h2 := (W.2 n (by omega)).1
    show max _ _ ≤ 11
    omega
/-- the reference: the log that isLog has chosen -/
def MgD (I : Nat → Nat → Int32) (f0 : Nat) (q : GD) : Prop := f0 + 17 ≤ 1242 ∧ I 95 38 = nI f0 ∧ I 95 39 = nI (gLast q q.1) ∧ MgA I f0 q
theorem r_isLog0 {x : Int32} (S : Sg g) (Q : Sp P) (W : TW t) (M : MtA I 0 t) (h : pk x (tNg t) = none) : Cl mX12_isLog [.ref 95, .int x] (g, I, P) (some (.int 0)) (g, I, P) :=
  eX12_isLog (wX12_isLog_0 ⟨S.k 95 12 (by decide), _, r_isOf (s := 3) S Q (by decide) W.2.2.2.2.1 M.2.1.2.2.2, fun q => by rw [h] at q; exact absurd rfl q, fun _ => ⟨rfl, rfl⟩⟩)
theorem r_isLog {x : Int32} {i : Nat} (S : Sg g) (Q : Sp P) (W : TW t) (M : MtA I 0 t) (h : pk x (tNg t) = some i) : ∃ J, Cl mX12_isLog [.ref 95, .int x] (g, I, P) (some (.int 1)) (g, J, P) ∧ MgD J (1208 + 17 * i) (tG t i) ∧ Kf I J := by
  have hn := W.2.2.2.2.1
  obtain ⟨hi, rfl⟩ := pk_some (by omega) h
  have A : MgA I (1208 + 17 * i) (tG t i) := M.2.2.2.2.2 i hi
  have hW := W.2.2.2.2.2 i hi
  have hw1 := hW.1
  obtain ⟨i1, i2⟩ := ix96 S (x := nI (1208 + 17 * i)) rfl (by omega)
  have key : ∀ m k (K : Nat → Nat → Int32), k + m = (tG t i).1 → Kf I K → K 95 38 = nI (1208 + 17 * i) → K 95 39 = nI (gLast (tG t i) k) → ∃ J, Zt none mX12_isLog 0 0 27 [(0, .ref 95), (2, .int (nI k))] [] (g, K, P) (some (.int 1)) (g, J, P) ∧ Kf I J ∧ J 95 38 = nI (1208 + 17 * i) ∧ J 95 39 = nI (gLast (tG t i) (tG t i).1) := by
    intro m
    induction m with
    | zero =>
      intro k K hk f e1 e2
      obtain rfl : k = (tG t i).1 := hk
      refine ⟨K, wX12_isLog_27 ⟨S.k 95 12 (by decide), 96, Q.p 95 0 96 (by decide), S.k 95 12 (by decide), S.k 96 13 (by decide), by rw [e1]; exact i1, fun _ => ⟨rfl, rfl⟩, fun q => ?_⟩, f, e1, e2⟩
      rw [e1, i2, f 96 (by decide), A.1] at q
      exact absurd (Int32.le_refl _) q
    | succ m ih =>
      intro k K hk f e1 e2
      have hl := gLast_le hW k (by omega)
      have hp := (hW.2 k (by omega)).1
      obtain ⟨i3, i4⟩ := ix96 S (x := K 95 38 + 1 + 2 * nI k) (k := 1208 + 17 * i + 1 + 2 * k) (by rw [e1, nI_1, n2, pk_mul, nI_add]) (by omega)
      have ep : K 96 (1208 + 17 * i + 1 + 2 * k) = nI ((tG t i).2.1 k) := by rw [f 96 (by decide)]; exact (A.2 k (by omega)).1
      by_cases hc : (tG t i).2.1 k ≤ gLast (tG t i) k
      · have eg : gLast (tG t i) (k + 1) = gLast (tG t i) k := Nat.max_eq_left hc
        obtain ⟨J, z, z2⟩ := ih (k + 1) (zU K 95 39 (K 95 39)) (by omega) (f.tr (Kf.u _ _ _)) ((zU_k _ _ (by decide)).trans e1) (by rw [zU_s, e2, eg])
        refine ⟨J, wX12_isLog_27 ⟨S.k 95 12 (by decide), 96, Q.p 95 0 96 (by decide), S.k 95 12 (by decide), S.k 96 13 (by decide), by rw [e1]; exact i1, fun q => ?_, fun _ => ⟨S.k 95 12 (by decide), 96, Q.p 95 0 96 (by decide), S.k 95 12 (by decide), S.k 96 13 (by decide), i3, S.k 95 12 (by decide), fun _ => ⟨S.k 95 12 (by decide), S.k 95 12 (by decide), by rw [nI_1]; exact z⟩, fun q => ?_⟩⟩, z2⟩
        · rw [e1, i2, f 96 (by decide), A.1] at q
          exact absurd q (nI_ge (by omega) (by omega))
        · rw [i4, ep, e2, nI_leI (by omega) (by omega)] at q
          exact absurd hc q
      · have eg : gLast (tG t i) (k + 1) = (tG t i).2.1 k := Nat.max_eq_right (by omega)
        obtain ⟨J, z, z2⟩ := ih (k + 1) (zU K 95 39 (nI ((tG t i).2.1 k))) (by omega) (f.tr (Kf.u _ _ _)) ((zU_k _ _ (by decide)).trans e1) (by rw [zU_s, eg])
        refine ⟨J, wX12_isLog_27 ⟨S.k 95 12 (by decide), 96, Q.p 95 0 96 (by decide), S.k 95 12 (by decide), S.k 96 13 (by decide), by rw [e1]; exact i1, fun q => ?_, fun _ => ⟨S.k 95 12 (by decide), 96, Q.p 95 0 96 (by decide), S.k 95 12 (by decide), S.k 96 13 (by decide), i3, S.k 95 12 (by decide), fun q => ?_, fun q => ⟨S.k 95 12 (by decide), 96, Q.p 95 0 96 (by decide), S.k 95 12 (by decide), S.k 96 13 (by decide), i3, S.k 95 12 (by decide), by rw [nI_1, i4, ep]; exact z⟩⟩⟩, z2⟩
        · rw [e1, i2, f 96 (by decide), A.1] at q
          exact absurd q (nI_ge (by omega) (by omega))
        · rw [i4, ep, e2, nI_leI (by omega) (by omega)] at q
          exact absurd q hc
  obtain ⟨J, z, f, e1, e2⟩ := key (tG t i).1 0 (zU (zU I 95 38 (nI (1208 + 17 * i))) 95 39 0) (by omega) ((Kf.u _ _ _).tr (Kf.u _ _ _)) ((zU_k _ _ (by decide)).trans (zU_s _ _ _ _)) (zU_s _ _ _ _)
  refine ⟨J, eX12_isLog (wX12_isLog_0 ⟨S.k 95 12 (by decide), _, r_isOf (s := 3) S Q (by decide) hn M.2.1.2.2.2, fun _ => ⟨_, r_place3, S.k 95 12 (by decide), S.k 95 12 (by decide), z⟩, fun q => ?_⟩), ⟨by omega, e1, e2, ?_⟩, f⟩
  · rw [pk_nI (by omega) hi] at q; exact absurd q zsI
  · unfold MgA at A ⊢
    rw [f 96 (by decide)]; exact A
/-- what fact answers of a log -/
def F_fact (c : GD) (x2 x3 : Int32) : Int32 := if x2 = -1 then (if x3 = 0 then nI c.1 else -2) else match pk x2 c.1 with
  | none => -2
  | some k => if x3 = 0 then nI (c.2.1 k) else if x3 = 1 then nI (c.2.2 k) else -2
theorem c_glook {a : Nat} {c : GD} {x2 x3 : Int32} (T : LgS g P a) (W : GW c) (D : LgD I a c) : Cl mX5_look [.ref a, .int x2, .int x3] (g, I, P) (some (.int (F_fact c x2 x3))) (g, I, P) := by
  have h14 : ¬ (x2 = -1 ∧ x3 = 0) → Zt none mX5_look 0 0 14 [(0, .ref a), (1, .int x2), (2, .int x3)] [] (g, I, P) (some (.int (F_fact c x2 x3))) (g, I, P) := by
    intro hx
    refine wX5_look_14 ⟨fun q => ⟨?_, rfl⟩, fun q => ⟨T.1, fun q2 => ?_, fun q2 => ⟨?_, rfl⟩⟩⟩
    · unfold F_fact
      by_cases h1 : x2 = -1
      · rw [if_pos h1, if_neg (fun h => hx ⟨h1, h⟩)]
      · rw [if_neg h1, pk_neg q]
    · rw [D.1] at q2
      have h1 : ¬ x2 = -1 := fun h => q (by rw [h]; decide)
      obtain ⟨k, hk, rfl⟩ := nI_of q
      have hk2 : k < c.1 := (nI_ltI hk (by have := W.1; omega)).mp q2
      have hw := W.1
      obtain ⟨d1, d2⟩ := D.2 k hk2
      unfold F_fact
      rw [if_neg h1, pk_nI (by omega) hk2]
      refine ⟨fun q3 => ⟨T.1, _, T.2.2.2.1, _, c_got T.2.1.1 T.2.2.1.1 (by decide) (by omega), ?_, rfl⟩, fun q3 => ⟨T.1, _, T.2.2.2.2, _, c_got T.2.1.2 T.2.2.1.2 (by decide) (by omega), ?_, rfl⟩, fun q3 q4 => ⟨?_, rfl⟩⟩
      · simp only [q3]; rw [if_pos trivial, d1]
      · simp only [q3]; rw [if_neg (by decide), if_pos trivial, d2]
      · simp only [if_neg q3, if_neg q4]
    · rw [D.1] at q2
      have h1 : ¬ x2 = -1 := fun h => q (by rw [h]; decide)
      unfold F_fact
      rw [if_neg h1, pk_ge (Int32.not_lt.mp q2)]
  refine eX5_look (wX5_look_0 ⟨fun q => h14 (fun h => q h.1), fun q => ⟨fun q2 => h14 (fun h => q2 h.2), fun q2 => ⟨T.1, ?_, rfl⟩⟩⟩)
  unfold F_fact
  rw [if_pos q, if_pos q2, D.1]
theorem b_fact (L : LI g I P t im) (x1 x2 x3 : Int32) : ∃ (w : Int32) (J : Nat → Nat → Int32), Cl mX11_fact [.ref 0, .int x1, .int x2, .int x3] (g, I, P) (some (.int w)) (g, I, P) ∧ Cl mX12_fact [.ref 95, .int x1, .int x2, .int x3] (g, I, P) (some (.int w)) (g, J, P) ∧ Km I J := by
  have L0 := L
  obtain ⟨S, Q, W, D, M, -⟩ := L
  have hn := W.2.2.2.2.1
  cases hp : pk x1 (tNg t) with
  | none =>
    refine ⟨-2, I, eX11_fact (wX11_fact_0 ⟨S.k 0 11 (by decide), 1, Q.p 0 0 1 (by decide), S.k 1 9 (by decide), _, c_logN L0 hp, fun _ => ⟨rfl, rfl⟩, fun b hb => (nomatch hb)⟩), eX12_fact (wX12_fact_0 ⟨S.k 95 12 (by decide), _, _, r_isLog0 S Q W M hp, fun q => absurd rfl q, fun _ => ⟨rfl, rfl⟩⟩), Km.rf I⟩
  | some i =>
    have hi : i < tNg t := (pk_some (by omega) hp).1
    have hC := W.2.2.2.2.2 i hi
    have hc1 := hC.1
    obtain ⟨J, hI, ⟨-, eJ, -, A⟩, f⟩ := r_isLog S Q W M hp
    refine ⟨F_fact (tG t i) x2 x3, J, eX11_fact (wX11_fact_0 ⟨S.k 0 11 (by decide), 1, Q.p 0 0 1 (by decide), S.k 1 9 (by decide), _, c_logY L0 hp, fun q => (nomatch q), fun b hb => ?_⟩), ?_, f.m⟩
    · cases hb
      have T := LgS_i S Q (i := i) (by omega)
      exact ⟨T.1, _, c_glook T hC (D.2.2.2.2.2 i hi), rfl, rfl⟩
    · obtain ⟨i1, i2⟩ := ix96 S (x := nI (1208 + 17 * i)) rfl (by omega)
      refine eX12_fact (wX12_fact_0 ⟨S.k 95 12 (by decide), _, _, hI, fun _ => ⟨fun q => ⟨S.k 95 12 (by decide), 96, Q.p 95 0 96 (by decide), S.k 95 12 (by decide), S.k 96 13 (by decide), ?_, _, r_isIn, fun q2 => ⟨?_, rfl⟩, fun q2 => ⟨_, r_isIn, fun q3 => ⟨?_, rfl⟩, fun q3 => ?_⟩⟩, fun q => ⟨fun q2 => ⟨?_, rfl⟩, fun q2 => ⟨S.k 95 12 (by decide), 96, Q.p 95 0 96 (by decide), S.k 95 12 (by decide), S.k 96 13 (by decide), ?_, ?_, rfl⟩⟩⟩, fun q => absurd q (by decide)⟩)
      · rw [eJ]; exact i1
      · rw [eJ, i2, A.1, pk_isIn _ (by omega), zb_eq] at q2
        unfold F_fact
        rw [if_neg q]
        cases hk : pk x2 (tG t i).1 with
        | none => rfl
        | some k => rw [hk] at q2; cases q2
      · rw [eJ, i2, A.1, pk_isIn _ (by omega), ← ne_eq, zb_ne] at q2
        rw [zb_eq, decide_eq_false_iff_not] at q3
        unfold F_fact
        rw [if_neg q]
        cases hk : pk x2 (tG t i).1 with
        | none => rfl
        | some k =>
          have f0 : ¬ x3 = 0 := fun h => q3 (by rw [h]; decide)
          have f1 : ¬ x3 = 1 := fun h => q3 (by rw [h]; decide)
          simp only [if_neg f0, if_neg f1]
      · rw [eJ, i2, A.1, pk_isIn _ (by omega), ← ne_eq, zb_ne] at q2
        rw [← ne_eq, zb_ne, decide_eq_true_eq] at q3
        cases hk : pk x2 (tG t i).1 with
        | none => rw [hk] at q2; cases q2
        | some k =>
          obtain ⟨hk1, rfl⟩ := pk_some (by omega) hk
          obtain ⟨j, -, hj, rfl⟩ := inN (lo := 0) (hi := 1) (by decide) (by decide) q3.1 q3.2
          obtain ⟨d1, d2⟩ := A.2 k hk1
          obtain ⟨i3, i4⟩ := ix96 S (x := J 95 38 + 1 + 2 * nI k + nI j) (k := 1208 + 17 * i + 1 + 2 * k + j) (by rw [eJ, nI_1, n2, pk_mul, nI_add, nI_add]) (by omega)
          refine ⟨S.k 95 12 (by decide), 96, Q.p 95 0 96 (by decide), S.k 95 12 (by decide), S.k 96 13 (by decide), i3, ?_, rfl⟩
          rw [i4]
          unfold F_fact
          rw [if_neg q, hk]
          rcases (show j = 0 ∨ j = 1 by omega) with rfl | rfl
          · exact congrArg (fun z => some (Value.int z)) d1.symm
          · exact congrArg (fun z => some (Value.int z)) d2.symm
      · unfold F_fact; rw [if_pos q, if_neg q2]
      · rw [eJ]; exact i1
      · rw [eJ, i2, A.1]; unfold F_fact; rw [if_pos q, if_pos q2]
end CHOOSE
