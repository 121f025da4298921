/-! ===== which hill, century, lines, log; fault, count, end, deed ===== -/
theorem zb_or (c : Bool) : zb c = 0 ∨ zb c = 1 := by cases c <;> simp [zb]
/-- the number x among n, if it is one -/
def pk (x : Int32) (n : Nat) : Option Nat := if ¬ x < 0 ∧ x < nI n then some x.toNatClampNeg else none
theorem pk_some {x : Int32} {n i : Nat} (hn : n < 2 ^ 31) (h : pk x n = some i) : i < n ∧ x = nI i := by
  unfold pk at h
  by_cases hc : ¬ x < 0 ∧ x < nI n
  · rw [if_pos hc] at h
    obtain ⟨j, hj, rfl⟩ := nI_of hc.1
    rw [nI_clamp hj] at h
    cases h
    exact ⟨(nI_ltI hj hn).mp hc.2, rfl⟩
  · rw [if_neg hc] at h; cases h
theorem pk_nI {n i : Nat} (hn : n < 2 ^ 31) (h : i < n) : pk (nI i) n = some i := by
  unfold pk
  rw [if_pos ⟨nI_pos (by omega), nI_lt h hn⟩, nI_clamp (by omega)]
theorem pk_neg {x : Int32} {n : Nat} (h : x < 0) : pk x n = none := by unfold pk; rw [if_neg (fun q => q.1 h)]
theorem pk_ge {x : Int32} {n : Nat} (h : nI n ≤ x) : pk x n = none := by unfold pk; rw [if_neg (fun q => Int32.not_lt.mpr h q.2)]
theorem pk_ok {x : Int32} {n : Nat} (h0 : ¬ x < 0) (h : ¬ nI n ≤ x) : pk x n = some x.toNatClampNeg := by unfold pk; rw [if_pos ⟨h0, Int32.not_le.mp h⟩]
/-- between 0 and n - 1, as the reference asks it -/
theorem pk_isIn (x : Int32) {n : Nat} (hn : n < 2 ^ 30) : decide (¬ x < 0 ∧ ¬ nI n - 1 < x) = (pk x n).isSome := by
  by_cases h0 : x < 0
  · rw [pk_neg h0]; simp [h0]
  · obtain ⟨j, hj, rfl⟩ := nI_of h0
    have e : (nI n - 1 < nI j) ↔ n ≤ j := by
      rw [Int32.lt_iff_toInt_lt, n1, pk_sub_toInt hn (by decide), nI_toInt hj]
      omega
    by_cases h1 : n ≤ j
    · rw [pk_ge (nI_le h1 hj)]
      have h2 := e.mpr h1
      simp [h2]
    · rw [pk_nI (by omega) (by omega)]
      have h2 : ¬ nI n - 1 < nI j := fun q => h1 (e.mp q)
      simp [h0, h2]
section FACE
variable {g : zG} {I : Nat → Nat → Int32} {P : Nat → Nat → Option Nat} {t : TD} {im : Nat → Option TD}
theorem c_hasOne {s n : Nat} {x : Int32} (S : Sg g) (Q : Sp P) (hs : s < 4) (hn : n ≤ 2) (hc : I 3 s = nI n) : Cl mX9_hasOne [.ref 1, .int (nI s), .int x] (g, I, P) (some (.int (zb (pk x n).isSome))) (g, I, P) := by
  refine eX9_hasOne (wX9_hasOne_0 ⟨fun q => ⟨by rw [pk_neg q]; rfl, rfl⟩, fun q => ⟨S.k 1 9 (by decide), 3, Q.p 1 4 3 (by decide), _, c_got (S.k 3 13 (by decide)) (S.l 3 4 (by decide)) (by decide) hs, fun q2 => ?_, fun q2 => ⟨fun q3 => ?_, fun q3 => ?_⟩⟩⟩)
  · rw [hc] at q2
    exact ⟨by rw [pk_ge q2]; rfl, rfl⟩
  · exfalso
    rw [hc] at q2
    exact q2 (Int32.le_trans (nI_le hn (by decide)) q3)
  · rw [hc] at q2
    exact ⟨by rw [pk_ok q q2]; rfl, rfl⟩
theorem c_of {s b : Nat} {x : Int32} {n : Nat} (hn : n ≤ 2) {ty : Nat} (S : Sg g) (hb : zk g b ty) (hl : g.2.2 b = 2) (h : pk x n = some s) : vp_in x (g.2.2 b) ∧ x.toNatClampNeg = s ∧ s < 2 := by
  obtain ⟨h1, rfl⟩ := pk_some (by omega) h
  rw [hl]
  exact ⟨vp_in_nI (by omega) (by decide), nI_clamp (by omega), by omega⟩
theorem c_hillOf {x : Int32} (L : LI g I P t im) : Cl mX9_hillOf [.ref 1, .int x] (g, I, P) (some (zov ((pk x (tNh t)).map fun i => 8 + 16 * i))) (g, I, P) := by
  obtain ⟨S, Q, W, D, -⟩ := L
  have hn := W.2.1.1
  refine eX9_hillOf (wX9_hillOf_0 ⟨S.k 1 9 (by decide), _, c_hasOne (s := 0) S Q (by decide) hn D.2.1.1, fun q => ?_, fun q => ?_⟩)
  · rw [zb_eq] at q
    cases hp : pk x (tNh t) with
    | none => exact ⟨rfl, rfl⟩
    | some i => rw [hp] at q; cases q
  · rw [← ne_eq, zb_ne] at q
    cases hp : pk x (tNh t) with
    | none => rw [hp] at q; cases q
    | some i =>
      obtain ⟨i1, i2, i3⟩ := c_of hn S (S.k 4 16 (by decide)) (S.l 4 2 (by decide)) hp
      refine ⟨S.k 1 9 (by decide), 4, Q.p 1 5 4 (by decide), S.k 4 16 (by decide), i1, 8 + 16 * i, ?_, rfl, rfl⟩
      rw [i2]
      rcases (show i = 0 ∨ i = 1 by omega) with rfl | rfl
      · exact Q.p 4 0 8 (by decide)
      · exact Q.p 4 1 24 (by decide)
theorem c_centOf {x : Int32} (L : LI g I P t im) : Cl mX9_centuryOf [.ref 1, .int x] (g, I, P) (some (zov ((pk x (tNc t)).map fun i => 14 + 16 * i))) (g, I, P) := by
  obtain ⟨S, Q, W, D, -⟩ := L
  have hn := W.2.2.1.1
  refine eX9_centuryOf (wX9_centuryOf_0 ⟨S.k 1 9 (by decide), _, c_hasOne (s := 1) S Q (by decide) hn D.2.1.2.1, fun q => ?_, fun q => ?_⟩)
  · rw [zb_eq] at q
    cases hp : pk x (tNc t) with
    | none => exact ⟨rfl, rfl⟩
    | some i => rw [hp] at q; cases q
  · rw [← ne_eq, zb_ne] at q
    cases hp : pk x (tNc t) with
    | none => rw [hp] at q; cases q
    | some i =>
      obtain ⟨i1, i2, i3⟩ := c_of hn S (S.k 5 15 (by decide)) (S.l 5 2 (by decide)) hp
      refine ⟨S.k 1 9 (by decide), 5, Q.p 1 6 5 (by decide), S.k 5 15 (by decide), i1, 14 + 16 * i, ?_, rfl, rfl⟩
      rw [i2]
      rcases (show i = 0 ∨ i = 1 by omega) with rfl | rfl
      · exact Q.p 5 0 14 (by decide)
      · exact Q.p 5 1 30 (by decide)
theorem c_linesOf {x : Int32} (L : LI g I P t im) : Cl mX9_linesOf [.ref 1, .int x] (g, I, P) (some (zov ((pk x (tNl t)).map fun i => 18 + 16 * i))) (g, I, P) := by
  obtain ⟨S, Q, W, D, -⟩ := L
  have hn := W.2.2.2.1.1
  refine eX9_linesOf (wX9_linesOf_0 ⟨S.k 1 9 (by decide), _, c_hasOne (s := 2) S Q (by decide) hn D.2.1.2.2.1, fun q => ?_, fun q => ?_⟩)
  · rw [zb_eq] at q
    cases hp : pk x (tNl t) with
    | none => exact ⟨rfl, rfl⟩
    | some i => rw [hp] at q; cases q
  · rw [← ne_eq, zb_ne] at q
    cases hp : pk x (tNl t) with
    | none => rw [hp] at q; cases q
    | some i =>
      obtain ⟨i1, i2, i3⟩ := c_of hn S (S.k 6 17 (by decide)) (S.l 6 2 (by decide)) hp
      refine ⟨S.k 1 9 (by decide), 6, Q.p 1 7 6 (by decide), S.k 6 17 (by decide), i1, 18 + 16 * i, ?_, rfl, rfl⟩
      rw [i2]
      rcases (show i = 0 ∨ i = 1 by omega) with rfl | rfl
      · exact Q.p 6 0 18 (by decide)
      · exact Q.p 6 1 34 (by decide)
theorem c_logOf {x : Int32} (L : LI g I P t im) : Cl mX9_logOf [.ref 1, .int x] (g, I, P) (some (zov ((pk x (tNg t)).map fun i => 21 + 16 * i))) (g, I, P) := by
  obtain ⟨S, Q, W, D, -⟩ := L
  have hn := W.2.2.2.2.1
  refine eX9_logOf (wX9_logOf_0 ⟨S.k 1 9 (by decide), _, c_hasOne (s := 3) S Q (by decide) hn D.2.1.2.2.2, fun q => ?_, fun q => ?_⟩)
  · rw [zb_eq] at q
    cases hp : pk x (tNg t) with
    | none => exact ⟨rfl, rfl⟩
    | some i => rw [hp] at q; cases q
  · rw [← ne_eq, zb_ne] at q
    cases hp : pk x (tNg t) with
    | none => rw [hp] at q; cases q
    | some i =>
      obtain ⟨i1, i2, i3⟩ := c_of hn S (S.k 7 18 (by decide)) (S.l 7 2 (by decide)) hp
      refine ⟨S.k 1 9 (by decide), 7, Q.p 1 8 7 (by decide), S.k 7 18 (by decide), i1, 21 + 16 * i, ?_, rfl, rfl⟩
      rw [i2]
      rcases (show i = 0 ∨ i = 1 by omega) with rfl | rfl
      · exact Q.p 7 0 21 (by decide)
      · exact Q.p 7 1 37 (by decide)
/-- the reference's isOf -/
theorem r_isOf {s n : Nat} {x : Int32} (S : Sg g) (Q : Sp P) (hs : s < 4) (hn : n ≤ 2) (hc : I 96 s = nI n) : Cl mX12_isOf [.ref 95, .int (nI s), .int x] (g, I, P) (some (.int (zb (pk x n).isSome))) (g, I, P) := by
  have e : (nI s).toNatClampNeg = s := nI_clamp (by omega)
  refine eX12_isOf (wX12_isOf_0 ⟨S.k 95 12 (by decide), 96, Q.p 95 0 96 (by decide), S.k 96 13 (by decide), ?_, _, r_isIn, ?_, ?_, rfl⟩)
  · rw [S.l 96 4968 (by decide)]; exact vp_in_nI (by omega) (by decide)
  · exact zb_or _
  · rw [e, hc, pk_isIn x (by omega)]
theorem r_place0 {i : Nat} : Cl mX12_placeOf [.int 0, .int (nI i)] (g, I, P) (some (.int (nI (610 + 99 * i)))) (g, I, P) := by
  refine eX12_placeOf (wX12_placeOf_0 ⟨fun q => absurd rfl q, fun _ => ⟨?_, rfl⟩⟩)
  rw [show (610 : Int32) = nI 610 from rfl, show (99 : Int32) = nI 99 from rfl, pk_mul, nI_add]
theorem r_place1 {i : Nat} : Cl mX12_placeOf [.int 1, .int (nI i)] (g, I, P) (some (.int (nI (808 + 121 * i)))) (g, I, P) := by
  refine eX12_placeOf (wX12_placeOf_0 ⟨fun _ => ⟨fun q => absurd rfl q, fun _ => ⟨?_, rfl⟩⟩, fun q => absurd q (by decide)⟩)
  rw [show (808 : Int32) = nI 808 from rfl, show (121 : Int32) = nI 121 from rfl, pk_mul, nI_add]
theorem r_place2 {i : Nat} : Cl mX12_placeOf [.int 2, .int (nI i)] (g, I, P) (some (.int (nI (1050 + 79 * i)))) (g, I, P) := by
  refine eX12_placeOf (wX12_placeOf_0 ⟨fun _ => ⟨fun _ => ⟨fun q => absurd rfl q, fun _ => ⟨?_, rfl⟩⟩, fun q => absurd q (by decide)⟩, fun q => absurd q (by decide)⟩)
  rw [show (1050 : Int32) = nI 1050 from rfl, show (79 : Int32) = nI 79 from rfl, pk_mul, nI_add]
theorem r_place3 {i : Nat} : Cl mX12_placeOf [.int 3, .int (nI i)] (g, I, P) (some (.int (nI (1208 + 17 * i)))) (g, I, P) := by
  refine eX12_placeOf (wX12_placeOf_0 ⟨fun _ => ⟨fun _ => ⟨fun _ => ⟨?_, rfl⟩, fun q => absurd q (by decide)⟩, fun q => absurd q (by decide)⟩, fun q => absurd q (by decide)⟩)
  rw [show (1208 : Int32) = nI 1208 from rfl, show (17 : Int32) = nI 17 from rfl, pk_mul, nI_add]
theorem b_waits (L : LI g I P t im) (x1 x2 y : Int32) : ∃ (w : Int64), Cl mX11_waits [.ref 0, .int x1, .int x2, .int y] (g, I, P) (some (.long w)) (g, I, P) ∧ Cl mX12_waits [.ref 95, .int x1, .int x2, .int y] (g, I, P) (some (.long w)) (g, I, P) := ⟨_, c_waits, r_waits⟩
theorem b_fault (L : LI g I P t im) (x1 : Int32) : ∃ (w : Int32), Cl mX11_fault [.ref 0, .int x1] (g, I, P) (some (.int w)) (g, I, P) ∧ Cl mX12_fault [.ref 95, .int x1] (g, I, P) (some (.int w)) (g, I, P) := by
  obtain ⟨S, Q, W, D, M, -⟩ := L
  have e5 : (5 : Int32).toNatClampNeg = 5 := by decide
  have e6 : (6 : Int32).toNatClampNeg = 6 := by decide
  refine ⟨if x1 = 0 then tFault t else if x1 = 1 then tPlace t else -1, eX11_fault (wX11_fault_0 ⟨fun q => ⟨S.k 0 11 (by decide), 1, Q.p 0 0 1 (by decide), S.k 1 9 (by decide), by rw [if_pos q, D.1.2.1], rfl⟩, fun q => ⟨S.k 0 11 (by decide), 1, Q.p 0 0 1 (by decide), S.k 1 9 (by decide), by rw [if_neg (by rw [q]; decide), if_pos q, D.1.2.2.1], rfl⟩, fun q1 q2 => ⟨by rw [if_neg q1, if_neg q2], rfl⟩⟩), eX12_fault (wX12_fault_0 ⟨fun q1 => ⟨fun q2 => ⟨by rw [if_neg q1, if_neg q2], rfl⟩, fun q2 => ⟨S.k 95 12 (by decide), 96, Q.p 95 0 96 (by decide), S.k 96 13 (by decide), ?_, ?_, rfl⟩⟩, fun q => ⟨S.k 95 12 (by decide), 96, Q.p 95 0 96 (by decide), S.k 96 13 (by decide), ?_, ?_, rfl⟩⟩)⟩
  · rw [S.l 96 4968 (by decide)]; exact vp_in_nI (n := 6) (by decide) (by decide)
  · rw [if_neg q1, if_pos q2, e6]; exact congrArg (fun z => some (Value.int z)) M.1.2.2.1.symm
  · rw [S.l 96 4968 (by decide)]; exact vp_in_nI (n := 5) (by decide) (by decide)
  · rw [if_pos q, e5]; exact congrArg (fun z => some (Value.int z)) M.1.2.1.symm
theorem b_count (L : LI g I P t im) (x1 : Int32) : ∃ (w : Int32), Cl mX11_count [.ref 0, .int x1] (g, I, P) (some (.int w)) (g, I, P) ∧ Cl mX12_count [.ref 95, .int x1] (g, I, P) (some (.int w)) (g, I, P) := by
  obtain ⟨S, Q, W, D, M, -⟩ := L
  have hsame : ∀ s, s < 4 → I 3 s = I 96 s := by
    intro s hs
    obtain ⟨a0, a1, a2, a3⟩ := D.2.1
    obtain ⟨c0, c1, c2, c3⟩ := M.2.1
    rcases (show s = 0 ∨ s = 1 ∨ s = 2 ∨ s = 3 by omega) with rfl | rfl | rfl | rfl
    · exact a0.trans c0.symm
    · exact a1.trans c1.symm
    · exact a2.trans c2.symm
    · exact a3.trans c3.symm
  by_cases hx : ¬ x1 < 0 ∧ ¬ (3 : Int32) < x1
  · obtain ⟨s, -, hs, rfl⟩ := inN (lo := 0) (hi := 3) (by decide) (by decide) hx.1 hx.2
    have e : (nI s).toNatClampNeg = s := nI_clamp (by omega)
    refine ⟨I 3 s, eX11_count (wX11_count_0 ⟨S.k 0 11 (by decide), 1, Q.p 0 0 1 (by decide), S.k 1 9 (by decide), I 3 s, ?_, rfl, rfl⟩), ?_⟩
    · exact eX9_many (wX9_many_0 ⟨fun q => absurd q hx.1, fun _ => ⟨fun _ => ⟨S.k 1 9 (by decide), 3, Q.p 1 4 3 (by decide), _, c_got (S.k 3 13 (by decide)) (S.l 3 4 (by decide)) (by decide) (by omega), rfl, rfl⟩, fun q => absurd (nI_lt (a := s) (b := 4) (by omega) (by decide)) q⟩⟩)
    · refine eX12_count (wX12_count_0 ⟨_, r_isIn, fun q => ?_, fun _ => ⟨S.k 95 12 (by decide), 96, Q.p 95 0 96 (by decide), S.k 96 13 (by decide), ?_, ?_, rfl⟩⟩)
      · rw [zb_eq, decide_eq_false_iff_not] at q; exact absurd hx q
      · rw [S.l 96 4968 (by decide)]; exact vp_in_nI (by omega) (by decide)
      · rw [e, hsame s (by omega)]
  · refine ⟨-2, eX11_count (wX11_count_0 ⟨S.k 0 11 (by decide), 1, Q.p 0 0 1 (by decide), S.k 1 9 (by decide), -2, ?_, rfl, rfl⟩), ?_⟩
    · refine eX9_many (wX9_many_0 ⟨fun _ => ⟨rfl, rfl⟩, fun q => ⟨fun q2 => ?_, fun _ => ⟨rfl, rfl⟩⟩⟩)
      exfalso
      apply hx
      refine ⟨q, fun q3 => ?_⟩
      obtain ⟨j, hj, rfl⟩ := nI_of q
      rw [show (3 : Int32) = nI 3 from rfl, nI_ltI (by decide) hj] at q3
      rw [show (4 : Int32) = nI 4 from rfl, nI_ltI hj (by decide)] at q2
      omega
    · refine eX12_count (wX12_count_0 ⟨_, r_isIn, fun _ => ⟨rfl, rfl⟩, fun q => ?_⟩)
      rw [← ne_eq, zb_ne, decide_eq_true_eq] at q; exact absurd q hx
end FACE
