/-! ===== the shape of the heap in the law's loop ===== -/
def Sg (g : zG) : Prop := 114 ≤ g.1 ∧ (∀ i, i < 114 → g.2.1 i = tgT.getD i 0) ∧ ∀ i, i < 114 → g.2.2 i = lnT.getD i 0
def Sp (P : Nat → Nat → Option Nat) : Prop := ∀ q ∈ pT, P q.1 q.2.1 = some q.2.2
theorem Sg.k {g : zG} (S : Sg g) (i c : Nat) (h : i < 114 ∧ tgT.getD i 0 = c) : zk g i c := ⟨Nat.lt_of_lt_of_le h.1 S.1, (S.2.1 i h.1).trans h.2⟩
theorem Sg.l {g : zG} (S : Sg g) (i n : Nat) (h : i < 114 ∧ lnT.getD i 0 = n) : g.2.2 i = n := (S.2.2 i h.1).trans h.2
theorem Sp.p {P : Nat → Nat → Option Nat} (S : Sp P) (a k j : Nat) (h : (a, k, j) ∈ pT) : P a k = some j := S _ h
theorem zh2_Sg : Sg zh2.1 := ⟨by rw [zh2_size]; exact Nat.le_refl _, zh2_tag, zh2_len⟩
theorem zh2_Sp : Sp zh2.2.2 := fun q hq => zh2_P q (List.mem_append_left _ hq)
section SH
variable {g : zG} {P : Nat → Nat → Option Nat}
theorem HlS_8 (S : Sg g) (Q : Sp P) : HlS g P 8 := ⟨S.k 8 3 (by decide), ⟨S.k 9 13 (by decide), S.k 10 13 (by decide), S.k 11 13 (by decide), S.k 12 13 (by decide), S.k 13 13 (by decide)⟩, ⟨S.l 9 10 (by decide), S.l 10 10 (by decide), S.l 11 10 (by decide), S.l 12 60 (by decide), S.l 13 6 (by decide)⟩, Q.p 8 4 9 (by decide), Q.p 8 5 10 (by decide), Q.p 8 6 11 (by decide), Q.p 8 7 12 (by decide), Q.p 8 8 13 (by decide)⟩
theorem HlS_24 (S : Sg g) (Q : Sp P) : HlS g P 24 := ⟨S.k 24 3 (by decide), ⟨S.k 25 13 (by decide), S.k 26 13 (by decide), S.k 27 13 (by decide), S.k 28 13 (by decide), S.k 29 13 (by decide)⟩, ⟨S.l 25 10 (by decide), S.l 26 10 (by decide), S.l 27 10 (by decide), S.l 28 60 (by decide), S.l 29 6 (by decide)⟩, Q.p 24 4 25 (by decide), Q.p 24 5 26 (by decide), Q.p 24 6 27 (by decide), Q.p 24 7 28 (by decide), Q.p 24 8 29 (by decide)⟩
theorem HlS_42 (S : Sg g) (Q : Sp P) : HlS g P 42 := ⟨S.k 42 3 (by decide), ⟨S.k 43 13 (by decide), S.k 44 13 (by decide), S.k 45 13 (by decide), S.k 46 13 (by decide), S.k 47 13 (by decide)⟩, ⟨S.l 43 10 (by decide), S.l 44 10 (by decide), S.l 45 10 (by decide), S.l 46 60 (by decide), S.l 47 6 (by decide)⟩, Q.p 42 4 43 (by decide), Q.p 42 5 44 (by decide), Q.p 42 6 45 (by decide), Q.p 42 7 46 (by decide), Q.p 42 8 47 (by decide)⟩
end SH
theorem n2 : (2 : Int32) = nI 2 := rfl
theorem n6 : (6 : Int32) = nI 6 := rfl
theorem n8 : (8 : Int32) = nI 8 := rfl
theorem n1 : (1 : Int32) = nI 1 := rfl
theorem n0 : (0 : Int32) = nI 0 := rfl
/-- a place in a row -/
theorem ix {x : Int32} {k N : Nat} (hx : x = nI k) (hk : k < N) (hN : N < 2 ^ 31) : vp_in x N ∧ x.toNatClampNeg = k := by
  subst hx
  exact ⟨vp_in_nI hk hN, nI_clamp (by omega)⟩
/-! ===== the reference: the hill that isHill has chosen ===== -/
/-- the reference's row holds at h0 the data d -/
def MhA (I : Nat → Nat → Int32) (h0 : Nat) (d : HD) : Prop :=
  I 96 h0 = nI (hS d) ∧ I 96 (h0 + 1) = nI (hN d) ∧ I 96 (h0 + 98) = zb (hF d) ∧ (∀ w, w < hN d → I 96 (h0 + 2 + 8 * w) = nI (hZ d w)) ∧ (∀ w, w < hN d → I 96 (h0 + 2 + 8 * w + 1) = nI (hO d w)) ∧ (∀ w, w < hN d → I 96 (h0 + 82 + w) = hB d w) ∧ (∀ w k, w < hN d → k < hZ d w → I 96 (h0 + 2 + 8 * w + 2 + k) = nI (hL d w k)) ∧ (∀ q, q < 6 → I 96 (h0 + 92 + q) = hA d q)
/-- ... and it is the one chosen -/
def MhD (I : Nat → Nat → Int32) (h0 : Nat) (d : HD) : Prop := h0 + 99 ≤ 808 ∧ I 95 13 = nI h0 ∧ I 95 14 = nI (hS d) ∧ I 95 15 = nI (hN d) ∧ MhA I h0 d
section CM
variable {g : zG} {I : Nat → Nat → Int32} {P : Nat → Nat → Option Nat} {h0 : Nat} {d : HD}
theorem r_longOf {w : Nat} (S : Sg g) (Q : Sp P) (W : HW d) (D : MhD I h0 d) (hw : w < hN d) : Cl mX12_longOf [.ref 95, .int (nI w)] (g, I, P) (some (.int (nI (hZ d w)))) (g, I, P) := by
  obtain ⟨hb, e1, -, -, A⟩ := D
  have hn := W.2.1
  have e : I 95 13 + 2 + 8 * nI w = nI (h0 + 2 + 8 * w) := by rw [e1, n2, n8, pk_mul, nI_add, nI_add]
  obtain ⟨i1, i2⟩ := ix e (N := 4968) (by omega) (by decide)
  refine eX12_longOf (wX12_longOf_0 ⟨S.k 95 12 (by decide), 96, Q.p 95 0 96 (by decide), S.k 95 12 (by decide), S.k 96 13 (by decide), ?_, ?_, rfl⟩)
  · rw [S.l 96 4968 (by decide)]; exact i1
  · rw [i2, A.2.2.2.1 w hw]
theorem r_oftenOf {w : Nat} (S : Sg g) (Q : Sp P) (W : HW d) (D : MhD I h0 d) (hw : w < hN d) : Cl mX12_oftenOf [.ref 95, .int (nI w)] (g, I, P) (some (.int (nI (hO d w)))) (g, I, P) := by
  obtain ⟨hb, e1, -, -, A⟩ := D
  have hn := W.2.1
  have e : I 95 13 + 2 + 8 * nI w + 1 = nI (h0 + 2 + 8 * w + 1) := by rw [e1, n2, n8, n1, pk_mul, nI_add, nI_add, nI_add]
  obtain ⟨i1, i2⟩ := ix e (N := 4968) (by omega) (by decide)
  refine eX12_oftenOf (wX12_oftenOf_0 ⟨S.k 95 12 (by decide), 96, Q.p 95 0 96 (by decide), S.k 95 12 (by decide), S.k 96 13 (by decide), ?_, ?_, rfl⟩)
  · rw [S.l 96 4968 (by decide)]; exact i1
  · rw [i2, A.2.2.2.2.1 w hw]
theorem r_letterOf {w k : Nat} (S : Sg g) (Q : Sp P) (W : HW d) (D : MhD I h0 d) (hw : w < hN d) (hk : k < hZ d w) : Cl mX12_letterOf [.ref 95, .int (nI w), .int (nI k)] (g, I, P) (some (.int (nI (hL d w k)))) (g, I, P) := by
  obtain ⟨hb, e1, -, -, A⟩ := D
  have hn := W.2.1
  have hz := (W.2.2.1 w hw).2
  have e : I 95 13 + 2 + 8 * nI w + 2 + nI k = nI (h0 + 2 + 8 * w + 2 + k) := by rw [e1, n2, n8, pk_mul, nI_add, nI_add, nI_add, nI_add]
  obtain ⟨i1, i2⟩ := ix e (N := 4968) (by omega) (by decide)
  refine eX12_letterOf (wX12_letterOf_0 ⟨S.k 95 12 (by decide), 96, Q.p 95 0 96 (by decide), S.k 95 12 (by decide), S.k 96 13 (by decide), ?_, ?_, rfl⟩)
  · rw [S.l 96 4968 (by decide)]; exact i1
  · rw [i2, A.2.2.2.2.2.2.1 w k hw hk]
theorem r_all (S : Sg g) (D : MhD I h0 d) : Cl mX12_everyWord [.ref 95] (g, I, P) (some (.int (hAll d))) (g, I, P) := by
  refine eX12_everyWord (wX12_everyWord_0 ⟨S.k 95 12 (by decide), ?_, rfl⟩)
  rw [D.2.2.2.1]
  rfl
theorem r_behind {w : Nat} (S : Sg g) (Q : Sp P) (W : HW d) (D : MhD I h0 d) (hw : w < hN d) : Cl mX12_behind [.ref 95, .int (nI w)] (g, I, P) (some (.int (hBeh d w))) (g, I, P) := by
  have D0 := D
  obtain ⟨hb, e1, -, -, A⟩ := D
  have hn := W.2.1
  have ea : I 95 13 + 98 = nI (h0 + 98) := by rw [e1, show (98 : Int32) = nI 98 from rfl, nI_add]
  have eb : I 95 13 + 82 + nI w = nI (h0 + 82 + w) := by rw [e1, show (82 : Int32) = nI 82 from rfl, nI_add, nI_add]
  obtain ⟨i1, i2⟩ := ix ea (N := 4968) (by omega) (by decide)
  obtain ⟨i3, i4⟩ := ix eb (N := 4968) (by omega) (by decide)
  have hl := S.l 96 4968 (by decide)
  refine eX12_behind (wX12_behind_0 ⟨fun q => absurd (q ▸ nI_m1) (nI_pos (n := w) (by omega)), fun _ => ⟨S.k 95 12 (by decide), 96, Q.p 95 0 96 (by decide), S.k 95 12 (by decide), S.k 96 13 (by decide), by rw [hl]; exact i1, fun q => ?_, fun q => ?_⟩⟩)
  · rw [i2, A.2.2.1, ← ne_eq, zb_ne] at q
    refine ⟨S.k 95 12 (by decide), 96, Q.p 95 0 96 (by decide), S.k 95 12 (by decide), S.k 96 13 (by decide), by rw [hl]; exact i3, ?_, rfl⟩
    rw [i4, A.2.2.2.2.2.1 w hw]
    simp [hBeh, q]
  · rw [i2, A.2.2.1, zb_eq] at q
    refine ⟨S.k 95 12 (by decide), _, r_all S D0, ?_, rfl⟩
    simp [hBeh, q]
theorem r_behind0 (S : Sg g) (D : MhD I h0 d) : Cl mX12_behind [.ref 95, .int (-1)] (g, I, P) (some (.int (hAll d))) (g, I, P) :=
  eX12_behind (wX12_behind_0 ⟨fun _ => ⟨S.k 95 12 (by decide), _, r_all S D, rfl, rfl⟩, fun q => absurd rfl q⟩)
theorem r_holds {s : Int32} {k : Nat} : Cl mX12_holds [.int s, .int (nI k)] (g, I, P) (some (.int (zb (tb s k)))) (g, I, P) := by
  refine eX12_holds (wX12_holds_0 ⟨fun q => ⟨?_, rfl⟩, fun q => ⟨?_, rfl⟩⟩)
  · simp [tb, zb, q]
  · simp [tb, zb, q]
theorem r_answers {q : Nat} (S : Sg g) (Q : Sp P) (D : MhD I h0 d) (hq : q < 6) : Cl mX12_answersTo [.ref 95, .int (nI q)] (g, I, P) (some (.int (hA d q))) (g, I, P) := by
  obtain ⟨hb, e1, -, -, A⟩ := D
  have e : I 95 13 + 92 + nI q = nI (h0 + 92 + q) := by rw [e1, show (92 : Int32) = nI 92 from rfl, nI_add, nI_add]
  obtain ⟨i1, i2⟩ := ix e (N := 4968) (by omega) (by decide)
  refine eX12_answersTo (wX12_answersTo_0 ⟨S.k 95 12 (by decide), 96, Q.p 95 0 96 (by decide), S.k 95 12 (by decide), S.k 96 13 (by decide), ?_, ?_, rfl⟩)
  · rw [S.l 96 4968 (by decide)]; exact i1
  · rw [i2, A.2.2.2.2.2.2.2 q hq]
theorem r_oftenIn {s : Int32} (S : Sg g) (Q : Sp P) (W : HW d) (D : MhD I h0 d) : Cl mX12_oftenIn [.ref 95, .int s] (g, I, P) (some (.int (zsum (fun w => if tb s w = true then nI (hO d w) else 0) (hN d)))) (g, I, P) := by
  have h1 := W.2.1
  have k12 := S.k 95 12 (by decide)
  refine eX12_oftenIn (wX12_oftenIn_0 ?_)
  have key : ∀ m k, k + m = hN d → Zt none mX12_oftenIn 0 0 4 [(0, .ref 95), (1, .int s), (2, .int (zsum (fun w => if tb s w = true then nI (hO d w) else 0) k)), (3, .int (nI k))] [] (g, I, P) (some (.int (zsum (fun w => if tb s w = true then nI (hO d w) else 0) (hN d)))) (g, I, P) := by
    intro m
    induction m with
    | zero =>
      intro k hk
      have hk : k = hN d := hk
      subst hk
      exact wX12_oftenIn_4 ⟨k12, fun _ => ⟨rfl, rfl⟩, fun q => absurd (by rw [D.2.2.2.1]; exact Int32.le_refl _) q⟩
    | succ m ih =>
      intro k hk
      have hk2 : k < hN d := by omega
      have ih := ih (k + 1) (by omega)
      refine wX12_oftenIn_4 ⟨k12, fun q => ?_, fun _ => ⟨_, r_holds, fun q => ?_, fun q => ⟨k12, _, r_oftenOf S Q W D hk2, ?_⟩⟩⟩
      · rw [D.2.2.2.1] at q
        exact absurd q (nI_ge hk2 (by omega))
      · rw [zb_eq] at q
        simpa [zsum, q, nI_1] using ih
      · rw [← ne_eq, zb_ne] at q
        simpa [zsum, q, nI_1] using ih
  exact key (hN d) 0 (by omega)
theorem r_lcp {v w : Nat} (S : Sg g) (Q : Sp P) (W : HW d) (D : MhD I h0 d) (hv : v < hN d) (hw : w < hN d) : Cl mX12_alikeOf [.ref 95, .int (nI v), .int (nI w)] (g, I, P) (some (.int (nI (hLcp d v w)))) (g, I, P) := by
  have z1 := W.2.2.1 v hv
  have z2 := W.2.2.1 w hw
  have k12 := S.k 95 12 (by decide)
  refine eX12_alikeOf (wX12_alikeOf_0 ?_)
  have key : ∀ m i, i + m = min (hZ d v) (hZ d w) → Zt none mX12_alikeOf 0 0 2 [(0, .ref 95), (1, .int (nI v)), (2, .int (nI w)), (3, .int (nI i))] [] (g, I, P) (some (.int (nI (lcp (hL d v) (hL d w) m i)))) (g, I, P) := by
    intro m
    induction m with
    | zero =>
      intro i hi
      refine wX12_alikeOf_2 ⟨k12, _, r_longOf S Q W D hv, fun _ => ⟨rfl, rfl⟩, fun q => ⟨k12, _, r_longOf S Q W D hw, fun _ => ⟨rfl, rfl⟩, fun q2 => ?_⟩⟩
      rw [nI_leI (by omega) (by omega)] at q q2
      omega
    | succ m ih =>
      intro i hi
      have ih := ih (i + 1) (by omega)
      have l1 := W.2.2.2.2 v i hv (by omega)
      have l2 := W.2.2.2.2 w i hw (by omega)
      refine wX12_alikeOf_2 ⟨k12, _, r_longOf S Q W D hv, fun q => absurd q (nI_ge (by omega) (by omega)), fun _ => ⟨k12, _, r_longOf S Q W D hw, fun q => absurd q (nI_ge (by omega) (by omega)), fun _ => ⟨k12, _, r_letterOf S Q W D hv (by omega), k12, _, r_letterOf S Q W D hw (by omega), fun q => ?_, fun q => ?_⟩⟩⟩
      · rw [nI_eq (by omega) (by omega)] at q
        simp [lcp, q]
      · rw [nI_eq (by omega) (by omega)] at q
        simpa [lcp, q, nI_1] using ih
  exact key _ 0 (by omega)
end CM
