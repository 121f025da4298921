/-! ===== copies of hills, centuries, lines, logs, of all that is told; again ===== -/
def rwC (I J : Nat → Nat → Int32) (a b n : Nat) : Prop := ∀ k, k < n → J b k = I a k
def HlC (I J : Nat → Nat → Int32) (a b : Nat) : Prop := rwC I J a b 4 ∧ rwC I J (a + 1) (b + 1) 10 ∧ rwC I J (a + 2) (b + 2) 10 ∧ rwC I J (a + 3) (b + 3) 10 ∧ rwC I J (a + 4) (b + 4) 60 ∧ rwC I J (a + 5) (b + 5) 6
def CnC (I J : Nat → Nat → Int32) (a b : Nat) : Prop := rwC I J a b 1 ∧ rwC I J (a + 1) (b + 1) 40 ∧ rwC I J (a + 2) (b + 2) 40 ∧ rwC I J (a + 3) (b + 3) 40
def LnC (I J : Nat → Nat → Int32) (a b : Nat) : Prop := rwC I J a b 1 ∧ rwC I J (a + 1) (b + 1) 6 ∧ rwC I J (a + 2) (b + 2) 72
def LgC (I J : Nat → Nat → Int32) (a b : Nat) : Prop := rwC I J a b 1 ∧ rwC I J (a + 1) (b + 1) 8 ∧ rwC I J (a + 2) (b + 2) 8
section COPY
variable {g : zG} {I J : Nat → Nat → Int32} {P : Nat → Nat → Option Nat} {a b : Nat}
theorem HlC.d {d : HD} (C : HlC I J a b) (W : HW d) (D : HlD I a d) : HlD J b d := by
  obtain ⟨c0, c1, c2, c3, c4, c5⟩ := C
  obtain ⟨d0, d1, d2, d3, d4, d5, d6, d7⟩ := D
  have hn := W.2.1
  refine ⟨(c0 0 (by decide)).trans d0, (c0 1 (by decide)).trans d1, (c0 2 (by decide)).trans d2, fun w hw => (c1 w (by omega)).trans (d3 w hw), fun w hw => (c2 w (by omega)).trans (d4 w hw), fun w hw => (c3 w (by omega)).trans (d5 w hw), fun w k hw hk => ?_, fun q hq => (c5 q hq).trans (d7 q hq)⟩
  have := (W.2.2.1 w hw).2
  exact (c4 _ (by omega)).trans (d6 w k hw hk)
theorem CnC.d {d : CD} (C : CnC I J a b) (W : CW d) (D : CnD I a d) : CnD J b d := by
  obtain ⟨c0, c1, c2, c3⟩ := C
  have hn := W.1
  refine ⟨(c0 0 (by decide)).trans D.1, fun k hk => ?_⟩
  obtain ⟨d1, d2, d3⟩ := D.2 k hk
  exact ⟨(c1 k (by omega)).trans d1, (c2 k (by omega)).trans d2, (c3 k (by omega)).trans d3⟩
theorem LnC.d {d : LD} (C : LnC I J a b) (W : LW d) (D : LnD I a d) : LnD J b d := by
  obtain ⟨c0, c1, c2⟩ := C
  have hn := W.1
  refine ⟨(c0 0 (by decide)).trans D.1, fun k hk => ?_⟩
  obtain ⟨d1, d2⟩ := D.2 k hk
  have := (W.2 k hk).1.2
  exact ⟨(c1 k (by omega)).trans d1, fun i hi => (c2 _ (by omega)).trans (d2 i hi)⟩
theorem LgC.d {d : GD} (C : LgC I J a b) (W : GW d) (D : LgD I a d) : LgD J b d := by
  obtain ⟨c0, c1, c2⟩ := C
  have hn := W.1
  refine ⟨(c0 0 (by decide)).trans D.1, fun k hk => ?_⟩
  obtain ⟨d1, d2⟩ := D.2 k hk
  exact ⟨(c1 k (by omega)).trans d1, (c2 k (by omega)).trans d2⟩
theorem c_hillCopy (A : HlS g P a) (B : HlS g P b) (h : a + 6 ≤ b ∨ b + 6 ≤ a) (hb : I a 2 = 0 ∨ I a 2 = 1) : ∃ J, Cl mX3_copy [.ref a, .ref b] (g, I, P) none (g, J, P) ∧ HlC I J a b ∧ ∀ c, (c < b ∨ b + 6 ≤ c) → J c = I c := by
  have ab : ¬ a = b := by omega
  refine ⟨_, eX3_copy (wX3_copy_0 ⟨A.1, B.1, A.1, B.1, A.1, B.1, ?_, A.1, B.1, A.1, _, A.2.2.2.1, B.1, _, B.2.2.2.1, _, c_copyRow A.2.1.1 B.2.1.1 A.2.2.1.1 B.2.2.1.1 (by decide), A.1, _, A.2.2.2.2.1, B.1, _, B.2.2.2.2.1, _, c_copyRow A.2.1.2.1 B.2.1.2.1 A.2.2.1.2.1 B.2.2.1.2.1 (by decide), A.1, _, A.2.2.2.2.2.1, B.1, _, B.2.2.2.2.2.1, _, c_copyRow A.2.1.2.2.1 B.2.1.2.2.1 A.2.2.1.2.2.1 B.2.2.1.2.2.1 (by decide), A.1, _, A.2.2.2.2.2.2.1, B.1, _, B.2.2.2.2.2.2.1, _, c_copyRow A.2.1.2.2.2.1 B.2.1.2.2.2.1 A.2.2.1.2.2.2.1 B.2.2.1.2.2.2.1 (by decide), A.1, _, A.2.2.2.2.2.2.2, B.1, _, B.2.2.2.2.2.2.2, _, c_copyRow A.2.1.2.2.2.2 B.2.1.2.2.2.2 A.2.2.1.2.2.2.2 B.2.2.1.2.2.2.2 (by decide), rfl, rfl⟩), ⟨fun k hk => ?_, fun k hk => ?_, fun k hk => ?_, fun k hk => ?_, fun k hk => ?_, fun k hk => ?_⟩, fun c hc => ?_⟩
  · rw [zU_a _ _ ab, zU_a _ _ ab]; exact hb
  · rw [zCp_out (by omega), zCp_out (by omega), zCp_out (by omega), zCp_out (by omega), zCp_out (by omega)]
    rcases (show k = 0 ∨ k = 1 ∨ k = 2 ∨ k = 3 by omega) with rfl | rfl | rfl | rfl <;> simp [zU, ab]
  · rw [zCp_out (by omega), zCp_out (by omega), zCp_out (by omega), zCp_out (by omega), zCp_in hk, zU_a _ _ (by omega), zU_a _ _ (by omega), zU_a _ _ (by omega), zU_a _ _ (by omega)]
  · rw [zCp_out (by omega), zCp_out (by omega), zCp_out (by omega), zCp_in hk, zCp_out (by omega), zU_a _ _ (by omega), zU_a _ _ (by omega), zU_a _ _ (by omega), zU_a _ _ (by omega)]
  · rw [zCp_out (by omega), zCp_out (by omega), zCp_in hk, zCp_out (by omega), zCp_out (by omega), zU_a _ _ (by omega), zU_a _ _ (by omega), zU_a _ _ (by omega), zU_a _ _ (by omega)]
  · rw [zCp_out (by omega), zCp_in hk, zCp_out (by omega), zCp_out (by omega), zCp_out (by omega), zU_a _ _ (by omega), zU_a _ _ (by omega), zU_a _ _ (by omega), zU_a _ _ (by omega)]
  · rw [zCp_in hk, zCp_out (by omega), zCp_out (by omega), zCp_out (by omega), zCp_out (by omega), zU_a _ _ (by omega), zU_a _ _ (by omega), zU_a _ _ (by omega), zU_a _ _ (by omega)]
  · rw [zCp_out (by omega), zCp_out (by omega), zCp_out (by omega), zCp_out (by omega), zCp_out (by omega)]
    funext k
    rw [zU_a _ _ (by omega), zU_a _ _ (by omega), zU_a _ _ (by omega), zU_a _ _ (by omega)]
theorem c_centCopy (A : CnS g P a) (B : CnS g P b) (h : a + 4 ≤ b ∨ b + 4 ≤ a) : ∃ J, Cl mX0_copy [.ref a, .ref b] (g, I, P) none (g, J, P) ∧ CnC I J a b ∧ ∀ c, (c < b ∨ b + 4 ≤ c) → J c = I c := by
  refine ⟨_, eX0_copy (wX0_copy_0 ⟨A.1, B.1, A.1, _, A.2.2.2.1, B.1, _, B.2.2.2.1, _, c_copyRow A.2.1.1 B.2.1.1 A.2.2.1.1 B.2.2.1.1 (by decide), A.1, _, A.2.2.2.2.1, B.1, _, B.2.2.2.2.1, _, c_copyRow A.2.1.2.1 B.2.1.2.1 A.2.2.1.2.1 B.2.2.1.2.1 (by decide), A.1, _, A.2.2.2.2.2, B.1, _, B.2.2.2.2.2, _, c_copyRow A.2.1.2.2 B.2.1.2.2 A.2.2.1.2.2 B.2.2.1.2.2 (by decide), rfl, rfl⟩), ⟨fun k hk => ?_, fun k hk => ?_, fun k hk => ?_, fun k hk => ?_⟩, fun c hc => ?_⟩
  · rw [zCp_out (by omega), zCp_out (by omega), zCp_out (by omega)]
    rcases (show k = 0 by omega) with rfl
    rw [zU_s]
  · rw [zCp_out (by omega), zCp_out (by omega), zCp_in hk, zU_a _ _ (by omega)]
  · rw [zCp_out (by omega), zCp_in hk, zCp_out (by omega), zU_a _ _ (by omega)]
  · rw [zCp_in hk, zCp_out (by omega), zCp_out (by omega), zU_a _ _ (by omega)]
  · rw [zCp_out (by omega), zCp_out (by omega), zCp_out (by omega)]
    funext k
    rw [zU_a _ _ (by omega)]
theorem c_linsCopy (A : LnS g P a) (B : LnS g P b) (h : a + 3 ≤ b ∨ b + 3 ≤ a) : ∃ J, Cl mX4_copy [.ref a, .ref b] (g, I, P) none (g, J, P) ∧ LnC I J a b ∧ ∀ c, (c < b ∨ b + 3 ≤ c) → J c = I c := by
  refine ⟨_, eX4_copy (wX4_copy_0 ⟨A.1, B.1, A.1, _, A.2.2.2.1, B.1, _, B.2.2.2.1, _, c_copyRow A.2.1.1 B.2.1.1 A.2.2.1.1 B.2.2.1.1 (by decide), A.1, _, A.2.2.2.2, B.1, _, B.2.2.2.2, _, c_copyRow A.2.1.2 B.2.1.2 A.2.2.1.2 B.2.2.1.2 (by decide), rfl, rfl⟩), ⟨fun k hk => ?_, fun k hk => ?_, fun k hk => ?_⟩, fun c hc => ?_⟩
  · rw [zCp_out (by omega), zCp_out (by omega)]
    rcases (show k = 0 by omega) with rfl
    rw [zU_s]
  · rw [zCp_out (by omega), zCp_in hk, zU_a _ _ (by omega)]
  · rw [zCp_in hk, zCp_out (by omega), zU_a _ _ (by omega)]
  · rw [zCp_out (by omega), zCp_out (by omega)]
    funext k
    rw [zU_a _ _ (by omega)]
theorem c_logCopy (A : LgS g P a) (B : LgS g P b) (h : a + 3 ≤ b ∨ b + 3 ≤ a) : ∃ J, Cl mX5_copy [.ref a, .ref b] (g, I, P) none (g, J, P) ∧ LgC I J a b ∧ ∀ c, (c < b ∨ b + 3 ≤ c) → J c = I c := by
  refine ⟨_, eX5_copy (wX5_copy_0 ⟨A.1, B.1, A.1, _, A.2.2.2.1, B.1, _, B.2.2.2.1, _, c_copyRow A.2.1.1 B.2.1.1 A.2.2.1.1 B.2.2.1.1 (by decide), A.1, _, A.2.2.2.2, B.1, _, B.2.2.2.2, _, c_copyRow A.2.1.2 B.2.1.2 A.2.2.1.2 B.2.2.1.2 (by decide), rfl, rfl⟩), ⟨fun k hk => ?_, fun k hk => ?_, fun k hk => ?_⟩, fun c hc => ?_⟩
  · rw [zCp_out (by omega), zCp_out (by omega)]
    rcases (show k = 0 by omega) with rfl
    rw [zU_s]
  · rw [zCp_out (by omega), zCp_in hk, zU_a _ _ (by omega)]
  · rw [zCp_in hk, zCp_out (by omega), zU_a _ _ (by omega)]
  · rw [zCp_out (by omega), zCp_out (by omega)]
    funext k
    rw [zU_a _ _ (by omega)]
/-- half of a Told -/
def hfC (I J : Nat → Nat → Int32) (a b i : Nat) : Prop := HlC I J (a + 7 + 16 * i) (b + 7 + 16 * i) ∧ CnC I J (a + 13 + 16 * i) (b + 13 + 16 * i) ∧ LnC I J (a + 17 + 16 * i) (b + 17 + 16 * i) ∧ LgC I J (a + 20 + 16 * i) (b + 20 + 16 * i)
theorem rwC.k {I' J' : Nat → Nat → Int32} {n : Nat} (h : rwC I J a b n) (e1 : I a = I' a) (e2 : J' b = J b) : rwC I' J' a b n := fun k hk => by rw [e2, ← e1]; exact h k hk
theorem HlC.k {I' J' : Nat → Nat → Int32} (h : HlC I J a b) (e1 : ∀ j, j < 6 → I (a + j) = I' (a + j)) (e2 : ∀ j, j < 6 → J' (b + j) = J (b + j)) : HlC I' J' a b := ⟨h.1.k (e1 0 (by decide)) (e2 0 (by decide)), h.2.1.k (e1 1 (by decide)) (e2 1 (by decide)), h.2.2.1.k (e1 2 (by decide)) (e2 2 (by decide)), h.2.2.2.1.k (e1 3 (by decide)) (e2 3 (by decide)), h.2.2.2.2.1.k (e1 4 (by decide)) (e2 4 (by decide)), h.2.2.2.2.2.k (e1 5 (by decide)) (e2 5 (by decide))⟩
theorem CnC.k {I' J' : Nat → Nat → Int32} (h : CnC I J a b) (e1 : ∀ j, j < 4 → I (a + j) = I' (a + j)) (e2 : ∀ j, j < 4 → J' (b + j) = J (b + j)) : CnC I' J' a b := ⟨h.1.k (e1 0 (by decide)) (e2 0 (by decide)), h.2.1.k (e1 1 (by decide)) (e2 1 (by decide)), h.2.2.1.k (e1 2 (by decide)) (e2 2 (by decide)), h.2.2.2.k (e1 3 (by decide)) (e2 3 (by decide))⟩
theorem LnC.k {I' J' : Nat → Nat → Int32} (h : LnC I J a b) (e1 : ∀ j, j < 3 → I (a + j) = I' (a + j)) (e2 : ∀ j, j < 3 → J' (b + j) = J (b + j)) : LnC I' J' a b := ⟨h.1.k (e1 0 (by decide)) (e2 0 (by decide)), h.2.1.k (e1 1 (by decide)) (e2 1 (by decide)), h.2.2.k (e1 2 (by decide)) (e2 2 (by decide))⟩
theorem LgC.k {I' J' : Nat → Nat → Int32} (h : LgC I J a b) (e1 : ∀ j, j < 3 → I (a + j) = I' (a + j)) (e2 : ∀ j, j < 3 → J' (b + j) = J (b + j)) : LgC I' J' a b := ⟨h.1.k (e1 0 (by decide)) (e2 0 (by decide)), h.2.1.k (e1 1 (by decide)) (e2 1 (by decide)), h.2.2.k (e1 2 (by decide)) (e2 2 (by decide))⟩
theorem hfC.k {I' J' : Nat → Nat → Int32} {i : Nat} (h : hfC I J a b i) (e1 : ∀ c, a + 7 + 16 * i ≤ c → c < a + 23 + 16 * i → I c = I' c) (e2 : ∀ c, b + 7 + 16 * i ≤ c → c < b + 23 + 16 * i → J' c = J c) : hfC I' J' a b i :=
  ⟨h.1.k (fun j hj => e1 _ (by omega) (by omega)) (fun j hj => e2 _ (by omega) (by omega)), h.2.1.k (fun j hj => e1 _ (by omega) (by omega)) (fun j hj => e2 _ (by omega) (by omega)), h.2.2.1.k (fun j hj => e1 _ (by omega) (by omega)) (fun j hj => e2 _ (by omega) (by omega)), h.2.2.2.k (fun j hj => e1 _ (by omega) (by omega)) (fun j hj => e2 _ (by omega) (by omega))⟩
theorem c_halfCopy {i : Nat} (hi : i < 2) (A : TlS g P a) (B : TlS g P b) (h : a + 39 ≤ b ∨ b + 39 ≤ a) (hb : I (a + 7 + 16 * i) 2 = 0 ∨ I (a + 7 + 16 * i) 2 = 1) : ∃ J, (∀ r h', Zt none mX9_copy 0 0 48 [(0, .ref b), (1, .ref a), (2, .int (nI (i + 1)))] [] (g, J, P) r h' → Zt none mX9_copy 0 0 48 [(0, .ref b), (1, .ref a), (2, .int (nI i))] [] (g, I, P) r h') ∧ hfC I J a b i ∧ ∀ c, (c < b + 7 + 16 * i ∨ b + 23 + 16 * i ≤ c) → J c = I c := by
  obtain ⟨⟨a1, a2⟩, ⟨a3, a4⟩, ⟨a5, a6⟩, a7, a8⟩ := A.2.2.2.2 i hi
  obtain ⟨⟨b1, b2⟩, ⟨b3, b4⟩, ⟨b5, b6⟩, b7, b8⟩ := B.2.2.2.2 i hi
  obtain ⟨J1, z1, c1, k1⟩ := c_hillCopy (I := I) a2 b2 (by omega) hb
  obtain ⟨J2, z2, c2, k2⟩ := c_centCopy (I := J1) a4 b4 (by omega)
  obtain ⟨J3, z3, c3, k3⟩ := c_linsCopy (I := J2) a6 b6 (by omega)
  obtain ⟨J4, z4, c4, k4⟩ := c_logCopy (I := J3) a8 b8 (by omega)
  have e0 : (nI i).toNatClampNeg = i := nI_clamp (by omega)
  have hin : ∀ {n : Nat}, n = 2 → vp_in (nI i) n := fun hn => by rw [hn]; exact vp_in_nI hi (by decide)
  obtain ⟨Ak, ⟨-, -, A3, A4, A5, A6⟩, ⟨-, -, L3, L4, L5, L6⟩, ⟨-, -, P5, P6, P7, P8⟩, -⟩ := A
  obtain ⟨Bk, ⟨-, -, B3, B4, B5, B6⟩, ⟨-, -, M3, M4, M5, M6⟩, ⟨-, -, Q5, Q6, Q7, Q8⟩, -⟩ := B
  refine ⟨J4, fun r h' Z => wX9_copy_48 ⟨fun q => absurd q (nI_ge (b := 2) hi (by decide)), fun _ => ?_⟩, ⟨c1.k (fun _ _ => rfl) (fun j hj => ?_), c2.k (fun j hj => k1 _ (by omega)) (fun j hj => ?_), c3.k (fun j hj => ?_) (fun j hj => k4 _ (by omega)), c4.k (fun j hj => ?_) (fun _ _ => rfl)⟩, fun c hc => ?_⟩
  · rw [e0]
    refine ⟨Ak, _, P5, A3, hin L3, _, a1, Bk, _, Q5, B3, hin M3, _, b1, _, z1, Ak, _, P6, A4, hin L4, _, a3, Bk, _, Q6, B4, hin M4, _, b3, _, z2, Ak, _, P7, A5, hin L5, _, a5, Bk, _, Q7, B5, hin M5, _, b5, _, z3, Ak, _, P8, A6, hin L6, _, a7, Bk, _, Q8, B6, hin M6, _, b7, _, z4, ?_⟩
    rw [nI_1]; exact Z
  · rw [k4 _ (by omega), k3 _ (by omega), k2 _ (by omega)]
  · rw [k4 _ (by omega), k3 _ (by omega)]
  · rw [k2 _ (by omega), k1 _ (by omega)]
  · rw [k3 _ (by omega), k2 _ (by omega), k1 _ (by omega)]
  · rw [k4 _ (by omega), k3 _ (by omega), k2 _ (by omega), k1 _ (by omega)]
/-- all of a Told -/
def TlC (I J : Nat → Nat → Int32) (a b : Nat) : Prop := (∀ k, 1 ≤ k → k < 4 → J b k = I a k) ∧ rwC I J (a + 1) (b + 1) 600 ∧ rwC I J (a + 2) (b + 2) 4 ∧ hfC I J a b 0 ∧ hfC I J a b 1
theorem TlC.d {t : TD} (C : TlC I J a b) (W : TW t) (D : TlD I a t) : TlD J b t := by
  obtain ⟨c1, c2, c3, c4, c5⟩ := C
  obtain ⟨⟨d1, d2, d3, d4⟩, ⟨e1, e2, e3, e4⟩, d5, d6, d7, d8⟩ := D
  obtain ⟨⟨w1, -⟩, ⟨w3, w4⟩, ⟨w5, w6⟩, ⟨w7, w8⟩, w9, w10⟩ := W
  have hc : ∀ i, i < 2 → hfC I J a b i := fun i hi => by
    rcases (show i = 0 ∨ i = 1 by omega) with rfl | rfl
    · exact c4
    · exact c5
  exact ⟨⟨(c1 1 (by decide) (by decide)).trans d1, (c1 2 (by decide) (by decide)).trans d2, (c1 3 (by decide) (by decide)).trans d3, fun k hk => (c2 k (by omega)).trans (d4 k hk)⟩, ⟨(c3 0 (by decide)).trans e1, (c3 1 (by decide)).trans e2, (c3 2 (by decide)).trans e3, (c3 3 (by decide)).trans e4⟩, fun i hi => (hc i (by omega)).1.d (w4 i hi).1 (d5 i hi), fun i hi => (hc i (by omega)).2.1.d (w6 i hi) (d6 i hi), fun i hi => (hc i (by omega)).2.2.1.d (w8 i hi) (d7 i hi), fun i hi => (hc i (by omega)).2.2.2.d (w10 i hi) (d8 i hi)⟩
theorem c_toldCopy (A : TlS g P a) (B : TlS g P b) (h : a + 39 ≤ b ∨ b + 39 ≤ a) (hb : (I (a + 7) 2 = 0 ∨ I (a + 7) 2 = 1) ∧ (I (a + 23) 2 = 0 ∨ I (a + 23) 2 = 1)) : ∃ J, Cl mX9_copy [.ref b, .ref a] (g, I, P) none (g, J, P) ∧ TlC I J a b ∧ ∀ c, (c < b ∨ b + 39 ≤ c) → J c = I c := by
  have ab : ¬ a = b := by omega
  obtain ⟨K, hK⟩ : ∃ K : Nat → Nat → Int32, K = zCp (zU (zU (zU (zCp I (a + 1) 0 (b + 1) 0 600) b 1 (zCp I (a + 1) 0 (b + 1) 0 600 a 1)) b 2 ((zU (zCp I (a + 1) 0 (b + 1) 0 600) b 1 (zCp I (a + 1) 0 (b + 1) 0 600 a 1)) a 2)) b 3 ((zU (zU (zCp I (a + 1) 0 (b + 1) 0 600) b 1 (zCp I (a + 1) 0 (b + 1) 0 600 a 1)) b 2 ((zU (zCp I (a + 1) 0 (b + 1) 0 600) b 1 (zCp I (a + 1) 0 (b + 1) 0 600 a 1)) a 2)) a 3)) (a + 2) 0 (b + 2) 0 4 := ⟨_, rfl⟩
  have k0 : ∀ k, 1 ≤ k → k < 4 → K b k = I a k := by
    intro k h1 h2
    rw [hK, zCp_out (by omega), zCp_out (by omega)]
    rcases (show k = 1 ∨ k = 2 ∨ k = 3 by omega) with rfl | rfl | rfl
    · rw [zU_k _ _ (by decide), zU_k _ _ (by decide), zU_s]
    · rw [zU_k _ _ (by decide), zU_s, zU_a _ _ ab, zCp_out (by omega)]
    · rw [zU_s, zU_a _ _ ab, zU_a _ _ ab, zCp_out (by omega)]
  have k1 : rwC I K (a + 1) (b + 1) 600 := by
    intro k hk
    rw [hK, zCp_out (by omega), zU_a _ _ (by omega), zU_a _ _ (by omega), zU_a _ _ (by omega), zCp_in hk]
  have k2 : rwC I K (a + 2) (b + 2) 4 := by
    intro k hk
    rw [hK, zCp_in hk, zU_a _ _ (by omega), zU_a _ _ (by omega), zU_a _ _ (by omega), zCp_out (by omega)]
  have k3 : ∀ c, c ≠ b → c ≠ b + 1 → c ≠ b + 2 → K c = I c := by
    intro c h1 h2 h3
    rw [hK, zCp_out h3]
    funext k
    rw [zU_a _ _ h1, zU_a _ _ h1, zU_a _ _ h1, zCp_out h2]
  obtain ⟨J1, z1, c1, m1⟩ := c_halfCopy (I := K) (i := 0) (by decide) A B h (by rw [k3 _ (by omega) (by omega) (by omega)]; exact hb.1)
  obtain ⟨J2, z2, c2, m2⟩ := c_halfCopy (I := J1) (i := 1) (by decide) A B h (by rw [m1 _ (by omega), k3 _ (by omega) (by omega) (by omega)]; exact hb.2)
  refine ⟨J2, eX9_copy (wX9_copy_0 ⟨A.1, _, A.2.2.2.1.1, B.1, _, B.2.2.2.1.1, _, c_copyRow A.2.1.1 B.2.1.1 A.2.2.1.1 B.2.2.1.1 (by decide), A.1, B.1, A.1, B.1, A.1, B.1, A.1, _, A.2.2.2.1.2.1, B.1, _, B.2.2.2.1.2.1, _, c_copyRow A.2.1.2.1 B.2.1.2.1 A.2.2.1.2.1 B.2.2.1.2.1 (by decide), ?_⟩), ⟨fun k h1 h2 => ?_, k1.k rfl ?_, k2.k rfl ?_, c1.k (fun c h1 h2 => k3 c (by omega) (by omega) (by omega)) (fun c h1 h2 => m2 c (by omega)), c2.k (fun c h1 h2 => ?_) (fun _ _ _ => rfl)⟩, fun c hc => ?_⟩
  · rw [← hK]
    exact z1 _ _ (z2 _ _ (wX9_copy_48 ⟨fun _ => ⟨rfl, rfl⟩, fun q => absurd (Int32.le_refl _) q⟩))
  · rw [m2 _ (by omega), m1 _ (by omega)]; exact k0 k h1 h2
  · rw [m2 _ (by omega), m1 _ (by omega)]
  · rw [m2 _ (by omega), m1 _ (by omega)]
  · rw [m1 _ (by omega), k3 c (by omega) (by omega) (by omega)]
  · rw [m2 _ (by omega), m1 _ (by omega), k3 c (by omega) (by omega) (by omega)]
theorem TlS_1 (S : Sg g) (Q : Sp P) : TlS g P 1 := by
  refine ⟨S.k 1 9 (by decide), ⟨S.k 2 13 (by decide), S.k 3 13 (by decide), S.k 4 16 (by decide), S.k 5 15 (by decide), S.k 6 17 (by decide), S.k 7 18 (by decide)⟩, ⟨S.l 2 600 (by decide), S.l 3 4 (by decide), S.l 4 2 (by decide), S.l 5 2 (by decide), S.l 6 2 (by decide), S.l 7 2 (by decide)⟩, ⟨Q.p 1 0 2 (by decide), Q.p 1 4 3 (by decide), Q.p 1 5 4 (by decide), Q.p 1 6 5 (by decide), Q.p 1 7 6 (by decide), Q.p 1 8 7 (by decide)⟩, fun i hi => ?_⟩
  have h1 := HlS_i S Q hi
  have h2 := CnS_i S Q hi
  have h3 := LnS_i S Q hi
  have h4 := LgS_i S Q hi
  rcases (show i = 0 ∨ i = 1 by omega) with rfl | rfl
  · exact ⟨⟨Q.p 4 0 8 (by decide), h1⟩, ⟨Q.p 5 0 14 (by decide), h2⟩, ⟨Q.p 6 0 18 (by decide), h3⟩, Q.p 7 0 21 (by decide), h4⟩
  · exact ⟨⟨Q.p 4 1 24 (by decide), h1⟩, ⟨Q.p 5 1 30 (by decide), h2⟩, ⟨Q.p 6 1 34 (by decide), h3⟩, Q.p 7 1 37 (by decide), h4⟩
/-! the reference's row moved -/
theorem MhA.sh {h0 h1 : Nat} {d : HD} (W : HW d) (h : MhA I h0 d) (e : ∀ x y, h0 ≤ y → y < h0 + 99 → x + h0 = y + h1 → J 96 x = I 96 y) : MhA J h1 d := by
  obtain ⟨a1, a2, a3, a4, a5, a6, a7, a8⟩ := h
  have hn := W.2.1
  refine ⟨(e _ _ (by omega) (by omega) (by omega)).trans a1, (e _ _ (by omega) (by omega) (by omega)).trans a2, (e _ _ (by omega) (by omega) (by omega)).trans a3, fun w hw => (e _ _ (by omega) (by omega) (by omega)).trans (a4 w hw), fun w hw => (e _ _ (by omega) (by omega) (by omega)).trans (a5 w hw), fun w hw => (e _ _ (by omega) (by omega) (by omega)).trans (a6 w hw), fun w k hw hk => ?_, fun q hq => (e _ _ (by omega) (by omega) (by omega)).trans (a8 q hq)⟩
  have := (W.2.2.1 w hw).2
  exact (e _ _ (by omega) (by omega) (by omega)).trans (a7 w k hw hk)
theorem McA.sh {o o1 : Nat} {c : CD} (W : CW c) (h : McA I o c) (e : ∀ x y, o ≤ y → y < o + 121 → x + o = y + o1 → J 96 x = I 96 y) : McA J o1 c := by
  have hn := W.1
  refine ⟨(e _ _ (by omega) (by omega) (by omega)).trans h.1, fun k hk => ?_⟩
  obtain ⟨a, b, c⟩ := h.2 k hk
  exact ⟨(e _ _ (by omega) (by omega) (by omega)).trans a, (e _ _ (by omega) (by omega) (by omega)).trans b, (e _ _ (by omega) (by omega) (by omega)).trans c⟩
theorem MlA.sh {o o1 : Nat} {l : LD} (W : LW l) (h : MlA I o l) (e : ∀ x y, o ≤ y → y < o + 79 → x + o = y + o1 → J 96 x = I 96 y) : MlA J o1 l := by
  have hn := W.1
  refine ⟨(e _ _ (by omega) (by omega) (by omega)).trans h.1, fun k hk => ?_⟩
  have h3 := (W.2 k hk).1.2
  obtain ⟨a, b⟩ := h.2 k hk
  exact ⟨(e _ _ (by omega) (by omega) (by omega)).trans a, fun i hi => (e _ _ (by omega) (by omega) (by omega)).trans (b i hi)⟩
theorem MgA.sh {o o1 : Nat} {q : GD} (W : GW q) (h : MgA I o q) (e : ∀ x y, o ≤ y → y < o + 17 → x + o = y + o1 → J 96 x = I 96 y) : MgA J o1 q := by
  have hn := W.1
  refine ⟨(e _ _ (by omega) (by omega) (by omega)).trans h.1, fun k hk => ?_⟩
  obtain ⟨a, b⟩ := h.2 k hk
  exact ⟨(e _ _ (by omega) (by omega) (by omega)).trans a, (e _ _ (by omega) (by omega) (by omega)).trans b⟩
theorem MtA.sh {o o1 : Nat} {t : TD} (W : TW t) (h : MtA I o t) (e : ∀ k, k < 1242 → J 96 (o1 + k) = I 96 (o + k)) : MtA J o1 t := by
  have e : ∀ x y, o ≤ y → y < o + 1242 → x + o = y + o1 → J 96 x = I 96 y := fun x y h1 h2 h3 => by
    have := e (y - o) (by omega)
    rw [show o1 + (y - o) = x by omega, show o + (y - o) = y by omega] at this
    exact this
  obtain ⟨⟨a1, a2, a3, a4⟩, ⟨c1, c2, c3, c4⟩, h1, h2, h3, h4⟩ := h
  obtain ⟨⟨wl, -⟩, ⟨w1, w2⟩, ⟨w3, w4⟩, ⟨w5, w6⟩, w7, w8⟩ := W
  refine ⟨⟨(e _ _ (by omega) (by omega) (by omega)).trans a1, (e _ _ (by omega) (by omega) (by omega)).trans a2, (e _ _ (by omega) (by omega) (by omega)).trans a3, fun k hk => (e _ _ (by omega) (by omega) (by omega)).trans (a4 k hk)⟩, ⟨(e _ _ (by omega) (by omega) (by omega)).trans c1, (e _ _ (by omega) (by omega) (by omega)).trans c2, (e _ _ (by omega) (by omega) (by omega)).trans c3, (e _ _ (by omega) (by omega) (by omega)).trans c4⟩, fun i hi => (h1 i hi).sh (w2 i hi).1 (fun x y q1 q2 q3 => e x y (by omega) (by omega) (by omega)), fun i hi => (h2 i hi).sh (w4 i hi) (fun x y q1 q2 q3 => e x y (by omega) (by omega) (by omega)), fun i hi => (h3 i hi).sh (w6 i hi) (fun x y q1 q2 q3 => e x y (by omega) (by omega) (by omega)), fun i hi => (h4 i hi).sh (w8 i hi) (fun x y q1 q2 q3 => e x y (by omega) (by omega) (by omega))⟩
theorem n1242 (k i : Nat) : 1242 * (nI k + 1) + nI i = nI (1242 * (k + 1) + i) := by
  rw [nI_1, show (1242 : Int32) = nI 1242 from rfl, pk_mul, nI_add]
theorem r_again {k : Nat} (S : Sg g) (Q : Sp P) (hk : k < 3) : ∃ J, Zt none mX12_again 0 0 22 [(0, .ref 95), (1, .int (nI k)), (2, .int (nI 0))] [] (g, I, P) (some (.int 1)) (g, J, P) ∧ (∀ i, i < 1242 → J 96 i = I 96 (1242 * (k + 1) + i)) ∧ (∀ i, 1242 ≤ i → J 96 i = I 96 i) ∧ ∀ c, c ≠ 96 → J c = I c := by
  have key : ∀ m i (K : Nat → Nat → Int32), i + m = 1242 → ∃ J, Zt none mX12_again 0 0 22 [(0, .ref 95), (1, .int (nI k)), (2, .int (nI i))] [] (g, K, P) (some (.int 1)) (g, J, P) ∧ (∀ j, i ≤ j → j < 1242 → J 96 j = K 96 (1242 * (k + 1) + j)) ∧ (∀ j, (j < i ∨ 1242 ≤ j) → J 96 j = K 96 j) ∧ ∀ c, c ≠ 96 → J c = K c := by
    intro m
    induction m with
    | zero =>
      intro i K hi
      obtain rfl : i = 1242 := hi
      exact ⟨K, wX12_again_22 ⟨fun _ => ⟨rfl, rfl⟩, fun q => absurd (Int32.le_refl _) q⟩, fun j h1 h2 => absurd h2 (by omega), fun _ _ => rfl, fun _ _ => rfl⟩
    | succ m ih =>
      intro i K hi
      obtain ⟨J, z, a1, a2, a3⟩ := ih (i + 1) (zU K 96 i (K 96 (1242 * (k + 1) + i))) (by omega)
      have x1 := ix96 S (n1242 k i) (by omega)
      have x2 := ix96 S (rfl : nI i = nI i) (by omega)
      refine ⟨J, wX12_again_22 ⟨fun q => absurd q (nI_ge (b := 1242) (by omega) (by decide)), fun _ => ⟨S.k 95 12 (by decide), 96, Q.p 95 0 96 (by decide), S.k 95 12 (by decide), 96, Q.p 95 0 96 (by decide), S.k 96 13 (by decide), x1.1, S.k 96 13 (by decide), x2.1, ?_⟩⟩, fun j h1 h2 => ?_, fun j h1 => ?_, fun c hc => ?_⟩
      · rw [x1.2, x2.2, nI_1]; exact z
      · by_cases hj : j = i
        · subst hj
          rw [a2 _ (by omega), zU_s]
        · rw [a1 j (by omega) h2, zU_k _ _ (by omega)]
      · rw [a2 j (by omega), zU_k _ _ (by omega)]
      · rw [a3 c hc]; funext j; rw [zU_a _ _ hc]
  obtain ⟨J, z, a1, a2, a3⟩ := key 1242 0 I (by omega)
  exact ⟨J, z, fun i hi => a1 i (by omega) hi, fun i hi => a2 i (by omega), a3⟩
theorem b_again {t : TD} {im : Nat → Option TD} (L : LI g I P t im) (x1 : Int32) : ∃ (w : Int32) (I1 : Nat → Nat → Int32) (J : Nat → Nat → Int32) (t' : TD), Cl mX11_again [.ref 0, .int x1] (g, I, P) (some (.int w)) (g, I1, P) ∧ Cl mX12_again [.ref 95, .int x1] (g, I1, P) (some (.int w)) (g, J, P) ∧ LI g J P t' im := by
  have L0 := L
  obtain ⟨S, Q, W, D, M, hC, hM, hB⟩ := L
  by_cases h : ¬ x1 < 0 ∧ ¬ (2 : Int32) < x1
  · obtain ⟨k, -, hk, rfl⟩ := inN (lo := 0) (hi := 2) (by decide) (by decide) h.1 h.2
    have hk : k < 3 := by omega
    have e0 : (nI k).toNatClampNeg = k := nI_clamp (by omega)
    have v40 : vp_in (nI k) (g.2.2 40) := by rw [S.l 40 3 (by decide)]; exact vp_in_nI (by omega) (by decide)
    have v97 : vp_in (nI k) (g.2.2 97) := by rw [S.l 97 3 (by decide)]; exact vp_in_nI (by omega) (by decide)
    have lt40 : nI k < Int32.ofNat (g.2.2 40) := by rw [S.l 40 3 (by decide)]; exact nI_lt (b := 3) hk (by decide)
    cases hi : im k with
    | none =>
      have hp := hC.1 k hk hi
      have h97 := (hM k hk).1
      rw [hi] at h97
      refine ⟨0, I, I, t, eX11_again (wX11_again_0 ⟨fun q => absurd q h.1, fun _ => ⟨S.k 0 11 (by decide), 40, Q.p 0 1 40 (by decide), S.k 40 19 (by decide), fun _ => ⟨S.k 0 11 (by decide), 40, Q.p 0 1 40 (by decide), S.k 40 19 (by decide), v40, ?_⟩, fun q => absurd lt40 q⟩⟩), eX12_again (wX12_again_0 ⟨_, r_isIn, fun _ => ⟨rfl, rfl⟩, fun _ => ⟨S.k 95 12 (by decide), 97, Q.p 95 1 97 (by decide), S.k 97 14 (by decide), v97, ?_⟩⟩), L0⟩
      · rw [e0]
        exact ⟨fun _ => ⟨rfl, rfl⟩, fun b q => by rw [hp] at q; cases q⟩
      · rw [e0]
        exact ⟨fun q => absurd h97 q, fun _ => ⟨rfl, rfl⟩⟩
    | some t1 =>
      obtain ⟨a, hp, a1, a2, a3, a4, a5⟩ := hC.2.1 k t1 hk hi
      have h97 := (hM k hk).1
      rw [hi] at h97
      have m1 := (hM k hk).2 t1 hi
      obtain ⟨K, z1, c1, k1⟩ := c_toldCopy (I := I) a3 (TlS_1 S Q) (by omega) (hB.2 k a hk hp)
      obtain ⟨J, z2, r1, r2, r3⟩ := r_again (I := K) S Q hk
      refine ⟨1, K, J, t1, eX11_again (wX11_again_0 ⟨fun q => absurd q h.1, fun _ => ⟨S.k 0 11 (by decide), 40, Q.p 0 1 40 (by decide), S.k 40 19 (by decide), fun _ => ⟨S.k 0 11 (by decide), 40, Q.p 0 1 40 (by decide), S.k 40 19 (by decide), v40, ?_⟩, fun q => absurd lt40 q⟩⟩), eX12_again (wX12_again_0 ⟨_, r_isIn, fun q => ?_, fun _ => ⟨S.k 95 12 (by decide), 97, Q.p 95 1 97 (by decide), S.k 97 14 (by decide), v97, ?_⟩⟩), ?_⟩
      · rw [e0]
        refine ⟨fun q => (by rw [hp] at q; cases q), fun b q => ?_⟩
        rw [hp] at q; cases q
        exact ⟨S.k 0 11 (by decide), 1, Q.p 0 0 1 (by decide), S.k 1 9 (by decide), K, z1, rfl, rfl⟩
      · rw [zb_eq, decide_eq_false_iff_not] at q; exact absurd h q
      · rw [e0, k1 97 (by omega), h97]
        exact ⟨fun _ => z2, fun q => (by cases q)⟩
      · have hJ : ∀ c, c ≠ 96 → 40 ≤ c → J c = I c := fun c h1 h2 => by rw [r3 c h1, k1 c (by omega)]
        refine L0.re (KpP.rf Q) (fun c hc => hJ c (by omega) (by omega)) (hJ 97 (by decide) (by decide)) (fun j hj => by rw [r2 j hj, k1 96 (by omega)]) ?_ a5 ((c1.d a5 a4).keep a5 (fun j hj => r3 _ (by omega))) (m1.sh a5 (fun j hj => ?_))
        · rw [r3 8 (by decide), r3 24 (by decide), show K 8 2 = I (a + 7) 2 from c1.2.2.2.1.1.1 2 (by decide), show K 24 2 = I (a + 23) 2 from c1.2.2.2.2.1.1 2 (by decide)]
          exact hB.2 k a hk hp
        · rw [Nat.zero_add, r1 j hj, k1 96 (by omega)]
  · refine ⟨0, I, I, t, eX11_again (wX11_again_0 ⟨fun _ => ⟨rfl, rfl⟩, fun q => ⟨S.k 0 11 (by decide), 40, Q.p 0 1 40 (by decide), S.k 40 19 (by decide), fun q2 => ?_, fun _ => ⟨rfl, rfl⟩⟩⟩), eX12_again (wX12_again_0 ⟨_, r_isIn, fun _ => ⟨rfl, rfl⟩, fun q => ?_⟩), L0⟩
    · exfalso
      obtain ⟨j, hj, rfl⟩ := nI_of q
      rw [S.l 40 3 (by decide)] at q2
      have q2 : nI j < nI 3 := q2
      rw [nI_ltI hj (by decide)] at q2
      exact h ⟨q, nI_nlt (a := 2) (by omega) (by decide)⟩
    · rw [← ne_eq, zb_ne, decide_eq_true_eq] at q; exact absurd q h
end COPY
