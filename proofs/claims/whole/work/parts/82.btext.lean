/-! ===== text: class and reference ===== -/
section BTEXT
variable {g : zG} {I : Nat → Nat → Int32} {P : Nat → Nat → Option Nat} {t : TD} {im : Nat → Option TD}
def tT (t : TD) : Tp := (tLen t, fun k => (tByte t k).toNatClampNeg)
theorem tT_b (W : TW t) {k : Nat} (hk : k < tLen t) : tByte t k = nI ((tT t).2 k) ∧ (tT t).2 k < 256 := by
  obtain ⟨b, hb, e⟩ := W.1.2 k hk
  have e2 : (tT t).2 k = b := by
    show (tByte t k).toNatClampNeg = b
    rw [e, nI_clamp (by omega)]
  rw [e2]; exact ⟨e, hb⟩
/-- what a text of a sort comes to: what it tells, its fault -/
def tR (t : TD) (so : Nat) : PS := (prs (tT t) so (tT t).1 0 y0 (0, -1)).1
def tG' (t : TD) (so : Nat) : FS := pfin (tT t) so (prs (tT t) so (tT t).1 0 y0 (0, -1))
theorem cn_le (W : TW t) {so : Nat} (hso : so < 4) : cnS t so ≤ 2 := by
  rcases (show so = 0 ∨ so = 1 ∨ so = 2 ∨ so = 3 by omega) with rfl | rfl | rfl | rfl
  · exact W.2.1.1
  · exact W.2.2.1.1
  · exact W.2.2.2.1.1
  · exact W.2.2.2.2.1
theorem cn_c (D : TlD I 1 t) {so : Nat} (hso : so < 4) : I 3 so = nI (cnS t so) := by
  rcases (show so = 0 ∨ so = 1 ∨ so = 2 ∨ so = 3 by omega) with rfl | rfl | rfl | rfl
  · exact D.2.1.1
  · exact D.2.1.2.1
  · exact D.2.1.2.2.1
  · exact D.2.1.2.2.2
theorem cn_r (M : MtA I 0 t) {so : Nat} (hso : so < 4) : I 96 so = nI (cnS t so) := by
  rcases (show so = 0 ∨ so = 1 ∨ so = 2 ∨ so = 3 by omega) with rfl | rfl | rfl | rfl
  · exact M.2.1.1
  · exact M.2.1.2.1
  · exact M.2.1.2.2.1
  · exact M.2.1.2.2.2
/-- the class's heap once the tape is taken -/
def iA (I : Nat → Nat → Int32) : Nat → Nat → Int32 := zU (zU (zU I 1 1 0) 1 2 0) 1 3 (-1)
theorem iA_a {a : Nat} (h : a ≠ 1) : iA I a = I a := by unfold iA; funext j; rw [zU_a _ _ h, zU_a _ _ h, zU_a _ _ h]
theorem iA_1 : iA I 1 1 = 0 ∧ iA I 1 2 = 0 ∧ iA I 1 3 = -1 := by
  unfold iA
  exact ⟨by rw [zU_k _ _ (by decide), zU_k _ _ (by decide), zU_s], by rw [zU_k _ _ (by decide), zU_s], zU_s _ _ _ _⟩
/-- the reference's -/
def iM (I : Nat → Nat → Int32) : Nat → Nat → Int32 := zU (zU (zU (zU I 95 2 (I 96 4)) 96 4 0) 96 5 0) 96 6 (-1)
theorem iM_a {a : Nat} (h : a ≠ 95) (h2 : a ≠ 96) : iM I a = I a := by unfold iM; funext j; rw [zU_a _ _ h2, zU_a _ _ h2, zU_a _ _ h2, zU_a _ _ h]
theorem iM_96 : (iM I 96 4 = 0 ∧ iM I 96 5 = 0 ∧ iM I 96 6 = -1) ∧ ∀ k, k ≠ 4 → k ≠ 5 → k ≠ 6 → iM I 96 k = I 96 k := by
  unfold iM
  exact ⟨⟨by rw [zU_k _ _ (by decide), zU_k _ _ (by decide), zU_s], by rw [zU_k _ _ (by decide), zU_s], zU_s _ _ _ _⟩, fun k a b c => by rw [zU_k _ _ c, zU_k _ _ b, zU_k _ _ a, zU_a _ _ (by decide)]⟩
theorem iM_95 : iM I 95 2 = I 96 4 := by
  unfold iM
  rw [zU_a _ _ (by decide), zU_a _ _ (by decide), zU_a _ _ (by decide), zU_s]
theorem c4 : (4 : Int32).toNatClampNeg = 4 := by decide
/-- the class reads and keeps -/
theorem c_text95 {so s : Nat} {x2 x5 : Int32} (L : LI g I P t im) (hso : so < 4) (hs : s < 2) (hx : (x5 = 0 ∧ s = cnS t so) ∨ (x5 = 1 ∧ x2 = nI s)) : ∃ w I1 R, Zt none mX11_text 0 0 95 [(0, .ref 0), (1, .int (nI so)), (2, .int x2), (3, .int (nI (tLen t))), (4, .int (nI (cnS t so))), (5, .int x5)] [] (g, iA I, P) (some (.int w)) (g, I1, R) ∧ KpP P R ∧ (I1 1 1 = 0 ∧ I1 1 2 = (tG' t so).1 ∧ I1 1 3 = (tG' t so).2) ∧ (∀ a, 95 ≤ a ∨ a = 2 → I1 a = I a) ∧ ((tG' t so).1 ≠ 0 → w = -1 ∧ ∀ a, 2 ≤ a → a ≤ 40 → I1 a = I a) ∧ ((tG' t so).1 = 0 → w = nI s ∧ PW (tR t so) ∧ (∀ a, 4 ≤ a → a ≤ 40 → ¬ (dsC so s ≤ a ∧ a < dsC so s + dln so) → I1 a = I a) ∧ (∀ k, k < 4 → I1 3 k = if k = so then nI (max (cnS t so) (s + 1)) else I 3 k) ∧ DtC so I1 (dsC so s) (tR t so) ∧ (so = 0 → I1 (8 + 16 * s) 2 = 0 ∨ I1 (8 + 16 * s) 2 = 1)) := by
  obtain ⟨S, Q, W, D, M, -⟩ := L
  have h6 := W.1.1
  have c2 := cn_le W hso
  obtain ⟨I10, R, zr, k10, kP, Rd⟩ := c_read (g := g) (T := tT t) (I := iA I) S Q hso h6 (fun k hk => by
    rw [iA_a (by decide)]
    obtain ⟨e1, e2⟩ := tT_b W hk
    exact ⟨(D.1.2.2.2 k hk).trans e1, e2⟩)
  have QR := kP.2
  have Rd : RdC I10 (tR t so) (tG' t so) := Rd
  obtain ⟨⟨f4, f5⟩, Rd⟩ := Rd
  obtain ⟨K, hK⟩ : ∃ K, K = zU (zU I10 1 2 (I10 41 4)) 1 3 (I10 41 5) := ⟨_, rfl⟩
  have ka : ∀ a, a ≠ 1 → K a = I10 a := fun a ha => by rw [hK]; funext j; rw [zU_a _ _ ha, zU_a _ _ ha]
  have i10 : ∀ a, a < 41 ∨ 95 ≤ a → I10 a = iA I a := fun a ha => k10 a ha
  have kI : ∀ a, a ≠ 1 → (a < 41 ∨ 95 ≤ a) → K a = I a := fun a h1 h2 => by rw [ka a h1, i10 a h2, iA_a h1]
  have e1 : K 1 1 = 0 := by rw [hK, zU_k _ _ (by decide), zU_k _ _ (by decide), i10 1 (by omega)]; exact iA_1.1
  have e2 : K 1 2 = (tG' t so).1 := by rw [hK, zU_k _ _ (by decide), zU_s]; exact f4
  have e3 : K 1 3 = (tG' t so).2 := by rw [hK, zU_s]; exact f5
  have e4 : K 41 4 = (tG' t so).1 := by rw [ka 41 (by decide)]; exact f4
  -- the head
  have head : ∀ w I1, ((K 41 4 = 0) → ((x5 = 0) → ∃ (I37 : Nat → Nat → Int32), Cl mX9_keep [.ref 1, .ref 41, .int (nI so), .int (nI (cnS t so))] (g, K, R) none (g, I37, R) ∧ some (Value.int w) = some (.int (nI (cnS t so))) ∧ ((g, I1, R) : zH) = (g, I37, R)) ∧ ((¬ x5 = 0) → ∃ (I47 : Nat → Nat → Int32), Cl mX9_keep [.ref 1, .ref 41, .int (nI so), .int x2] (g, K, R) none (g, I47, R) ∧ some (Value.int w) = some (.int x2) ∧ ((g, I1, R) : zH) = (g, I47, R))) → ((¬ K 41 4 = 0) → some (Value.int w) = some (.int (-1)) ∧ ((g, I1, R) : zH) = (g, K, R)) → Zt none mX11_text 0 0 95 [(0, .ref 0), (1, .int (nI so)), (2, .int x2), (3, .int (nI (tLen t))), (4, .int (nI (cnS t so))), (5, .int x5)] [] (g, iA I, P) (some (.int w)) (g, I1, R) := by
    intro w I1 H1 H2
    refine wX11_text_95 ⟨S.k 0 11 (by decide), 41, Q.p 0 2 41 (by decide), S.k 0 11 (by decide), 1, Q.p 0 0 1 (by decide), S.k 1 9 (by decide), 2, Q.p 1 0 2 (by decide), S.k 41 6 (by decide), I10, R, zr, S.k 0 11 (by decide), 1, QR.p 0 0 1 (by decide), S.k 0 11 (by decide), 41, QR.p 0 2 41 (by decide), S.k 41 6 (by decide), S.k 1 9 (by decide), S.k 0 11 (by decide), 1, QR.p 0 0 1 (by decide), S.k 0 11 (by decide), 41, QR.p 0 2 41 (by decide), S.k 41 6 (by decide), S.k 1 9 (by decide), S.k 0 11 (by decide), 41, QR.p 0 2 41 (by decide), S.k 41 6 (by decide), ?_⟩
    rw [zU_a (f := I10) (a := 1) (k := 2) (b := 41) (j := 5) _ (by decide), ← hK]
    refine ⟨fun e => ⟨fun e5 => ?_, fun e5 => ?_⟩, H2⟩
    · obtain ⟨I37, z, a, b⟩ := (H1 e).1 e5
      exact ⟨S.k 0 11 (by decide), 1, QR.p 0 0 1 (by decide), S.k 0 11 (by decide), 41, QR.p 0 2 41 (by decide), S.k 1 9 (by decide), I37, z, a, b⟩
    · obtain ⟨I47, z, a, b⟩ := (H1 e).2 e5
      exact ⟨S.k 0 11 (by decide), 1, QR.p 0 0 1 (by decide), S.k 0 11 (by decide), 41, QR.p 0 2 41 (by decide), S.k 1 9 (by decide), I47, z, a, b⟩
  by_cases h0 : (tG' t so).1 = 0
  · obtain ⟨Da, Y⟩ := Rd h0
    have DK : DatC K (tR t so) := Da.k (fun c c1 c2 => ka c (by omega))
    obtain ⟨J, zJ, jA, j3, jD, jb⟩ := c_keepT (g := g) (P := R) (s := s) S QR hso hs (by rw [kI 3 (by decide) (by omega)]; exact cn_c D hso) c2 DK Y
    have d1 : ¬ (dsC so s ≤ 1 ∧ 1 < dsC so s + dln so) := by
      rcases (show so = 0 ∨ so = 1 ∨ so = 2 ∨ so = 3 by omega) with rfl | rfl | rfl | rfl
      · show ¬ (8 + 16 * s ≤ 1 ∧ _); omega
      · show ¬ (14 + 16 * s ≤ 1 ∧ _); omega
      · show ¬ (18 + 16 * s ≤ 1 ∧ _); omega
      · show ¬ (21 + 16 * s ≤ 1 ∧ _); omega
    have dF : ∀ a, 95 ≤ a ∨ a = 2 → ¬ (dsC so s ≤ a ∧ a < dsC so s + dln so) := by
      intro a ha
      rcases (show so = 0 ∨ so = 1 ∨ so = 2 ∨ so = 3 by omega) with rfl | rfl | rfl | rfl
      · show ¬ (8 + 16 * s ≤ a ∧ a < 8 + 16 * s + 6); omega
      · show ¬ (14 + 16 * s ≤ a ∧ a < 14 + 16 * s + 4); omega
      · show ¬ (18 + 16 * s ≤ a ∧ a < 18 + 16 * s + 3); omega
      · show ¬ (21 + 16 * s ≤ a ∧ a < 21 + 16 * s + 3); omega
    have J1 : J 1 = K 1 := jA 1 (by decide) d1
    refine ⟨nI s, J, R, head (nI s) J (fun _ => ⟨fun e5 => ?_, fun e5 => ?_⟩) (fun e => absurd (e4.trans h0) e), kP, ⟨by rw [J1]; exact e1, by rw [J1]; exact e2, by rw [J1]; exact e3⟩, fun a ha => by rw [jA a (by omega) (dF a ha), kI a (by omega) (by omega)], fun e => absurd h0 e, fun _ => ⟨rfl, Y, fun a a1 a2 a3 => by rw [jA a (by omega) a3, kI a (by omega) (by omega)], fun k hk => by rw [j3 k hk, kI 3 (by decide) (by omega)], jD, jb⟩⟩
    · rcases hx with ⟨-, h2⟩ | ⟨h1, -⟩
      · exact ⟨J, by rw [← h2]; exact zJ, by rw [← h2], rfl⟩
      · rw [h1] at e5; exact absurd e5 (by decide)
    · rcases hx with ⟨h1, -⟩ | ⟨-, h2⟩
      · exact absurd h1 e5
      · exact ⟨J, by rw [h2]; exact zJ, by rw [h2], rfl⟩
  · exact ⟨-1, K, R, head (-1) K (fun e => absurd (e4.symm.trans e) h0) (fun _ => ⟨rfl, rfl⟩), kP, ⟨e1, e2, e3⟩, fun a ha => kI a (by omega) (by omega), fun _ => ⟨rfl, fun a a1 a2 => kI a (by omega) (by omega)⟩, fun e => absurd e h0⟩
/-- the reference reads and keeps -/
theorem r_text88 {so s : Nat} {x2 : Int32} (S : Sg g) (Q : Sp P) (hso : so < 4) (hs : s < 2) (W : TW t) (h4 : I 96 4 = nI (tLen t)) (hT : ∀ k, k < tLen t → I 96 (10 + k) = tByte t k) (hc : I 96 so = nI (cnS t so)) (hx : (x2 = -1 ∧ s = cnS t so) ∨ (¬ x2 = -1 ∧ x2 = nI s ∧ s < cnS t so)) : ∃ w J, Zt none mX12_text 0 0 88 [(0, .ref 95), (1, .int (nI so)), (2, .int x2), (3, .int 0)] [] (g, zU (zU (zU (iM I) 95 3 0) 95 8 0) 95 9 (-1), P) (some (.int w)) (g, J, P) ∧ (∀ c, c ≠ 95 → c ≠ 96 → c ≠ 98 → c ≠ 99 → J c = I c) ∧ (J 96 4 = 0 ∧ J 96 5 = (tG' t so).1 ∧ J 96 6 = (tG' t so).2) ∧ ((tG' t so).1 ≠ 0 → w = -1 ∧ ∀ k, k < 4 ∨ 610 ≤ k → J 96 k = I 96 k) ∧ ((tG' t so).1 = 0 → PW (tR t so) → w = nI s ∧ (∀ k, (k < 4 ∧ k ≠ so) ∨ 1242 ≤ k ∨ (610 ≤ k ∧ ¬ (plc so s ≤ k ∧ k < plc so s + psz so)) → J 96 k = I 96 k) ∧ J 96 so = nI (max (cnS t so) (s + 1)) ∧ DtR so J (plc so s) (tR t so)) := by
  have h6 := W.1.1
  have c2 := cn_le W hso
  obtain ⟨p1, p2, p3⟩ := plc_le (so := so) (s := s) hso hs
  obtain ⟨⟨a4, a5, a6⟩, a96⟩ := iM_96 (I := I)
  obtain ⟨K0, hK0⟩ : ∃ K0, K0 = zU (zU (zU (iM I) 95 3 0) 95 8 0) 95 9 (-1) := ⟨_, rfl⟩
  have k0a : ∀ a, a ≠ 95 → K0 a = iM I a := fun a ha => by rw [hK0]; funext j; rw [zU_a _ _ ha, zU_a _ _ ha, zU_a _ _ ha]
  have C : TpR K0 (tT t) := ⟨h6, by rw [hK0, zU_k _ _ (by decide), zU_k _ _ (by decide), zU_k _ _ (by decide), iM_95, h4]; rfl, fun k hk => by
    obtain ⟨e1, e2⟩ := tT_b W hk
    rw [k0a 96 (by decide), a96 _ (by omega) (by omega) (by omega)]
    exact ⟨(hT k hk).trans e1, e2⟩⟩
  obtain ⟨J1, z1, k1, g5, g6, d1⟩ := r_reads (g := g) (x := x2) (so := so) S Q hso C (by rw [hK0, zU_k _ _ (by decide), zU_k _ _ (by decide), zU_s]) (by rw [hK0, zU_k _ _ (by decide), zU_s]) (by rw [hK0, zU_s]) (by rw [k0a 96 (by decide)]; exact a5) (by rw [k0a 96 (by decide)]; exact a6)
  have g5 : J1 96 5 = (tG' t so).1 := g5
  have g6 : J1 96 6 = (tG' t so).2 := g6
  have d1 : (tG' t so).1 = 0 → DatR so J1 (tR t so) := d1
  have J96 : ∀ k, k ≠ 5 → k ≠ 6 → J1 96 k = iM I 96 k := fun k x y => by rw [k1.2.1 k x y, k0a 96 (by decide)]
  have Jc : ∀ c, c ≠ 95 → c ≠ 96 → c ≠ 98 → c ≠ 99 → J1 c = I c := fun c x1 x2 x3 x4 => by rw [k1.1 c x1 x2 x3 x4, k0a c x1, iM_a x1 x2]
  have J4 : J1 96 4 = 0 := by rw [J96 4 (by decide) (by decide)]; exact a4
  have v5 : vp_in 5 (g.2.2 96) := by rw [S.l 96 4968 (by decide)]; exact vp_in_nI (n := 5) (by decide) (by decide)
  have vs : vp_in (nI so) (g.2.2 96) := by rw [S.l 96 4968 (by decide)]; exact vp_in_nI (by omega) (by decide)
  have cs : (nI so).toNatClampNeg = so := nI_clamp (by omega)
  have Jso : J1 96 so = nI (cnS t so) := by rw [J96 so (by omega) (by omega), a96 so (by omega) (by omega) (by omega)]; exact hc
  by_cases h0 : (tG' t so).1 = 0
  · -- the place in the row of counts
    obtain ⟨K2, hK2, zc⟩ : ∃ K2, ((∀ c, c ≠ 96 → K2 c = J1 c) ∧ K2 96 so = nI (max (cnS t so) (s + 1)) ∧ ∀ k, k ≠ so → K2 96 k = J1 96 k) ∧ ∀ J, Zt none mX12_text 0 0 301 [(0, .ref 95), (1, .int (nI so)), (3, .int (nI s)), (4, .int 0)] [] (g, K2, P) (some (.int (nI s))) (g, J, P) → Zt none mX12_text 0 0 256 [(0, .ref 95), (1, .int (nI so)), (2, .int x2)] [] (g, J1, P) (some (.int (nI s))) (g, J, P) := by
      rcases hx with ⟨e1, e2⟩ | ⟨e1, e2, e3⟩
      · refine ⟨zU J1 96 so (nI (cnS t so + 1)), ⟨fun c hc' => by (funext j; rw [zU_a _ _ hc']), by rw [zU_s, show max (cnS t so) (s + 1) = cnS t so + 1 by omega], fun k hk => by rw [zU_k _ _ hk]⟩, fun J Z => wX12_text_256 ⟨S.k 95 12 (by decide), 96, Q.p 95 0 96 (by decide), S.k 96 13 (by decide), v5, fun _ => ⟨fun e => absurd e1 e, fun _ => ⟨S.k 95 12 (by decide), 96, Q.p 95 0 96 (by decide), S.k 96 13 (by decide), vs, ?_⟩⟩, fun e => absurd (by rw [c5, g5]; exact h0) e⟩⟩
        rw [cs, Jso, ← e2]
        refine wX12_text_282 ⟨fun e => absurd e1 e, fun _ => ⟨S.k 95 12 (by decide), 96, Q.p 95 0 96 (by decide), S.k 96 13 (by decide), vs, S.k 96 13 (by decide), vs, ?_⟩⟩
        rw [cs, Jso, nI_1]
        exact Z
      · refine ⟨J1, ⟨fun _ _ => rfl, by rw [Jso, show max (cnS t so) (s + 1) = cnS t so by omega], fun _ _ => rfl⟩, fun J Z => wX12_text_256 ⟨S.k 95 12 (by decide), 96, Q.p 95 0 96 (by decide), S.k 96 13 (by decide), v5, fun _ => ⟨fun _ => ?_, fun e => absurd e e1⟩, fun e => absurd (by rw [c5, g5]; exact h0) e⟩⟩
        refine wX12_text_282 ⟨fun _ => ?_, fun e => absurd e e1⟩
        rw [e2]; exact Z
    obtain ⟨J, zJ, b1, b2⟩ := r_copyT (g := g) (so := so) (s := s) S Q hso hs (psz so) 0 K2 (by omega)
    have fin : ∀ k, ¬ (plc so s ≤ k ∧ k < plc so s + psz so) → J 96 k = K2 96 k := fun k hk => by rw [b2 k, if_neg (by omega)]
    refine ⟨nI s, J, by rw [← hK0]; exact z1 _ _ (zc J zJ), fun c x1 x2 x3 x4 => by rw [b1 c x2, hK2.1 c x2, Jc c x1 x2 x3 x4], ⟨by rw [fin 4 (by omega), hK2.2.2 4 (by omega)]; exact J4, by rw [fin 5 (by omega), hK2.2.2 5 (by omega)]; exact g5, by rw [fin 6 (by omega), hK2.2.2 6 (by omega)]; exact g6⟩, fun e => absurd h0 e, fun _ Y => ⟨rfl, fun k hk => ?_, by rw [fin so (by omega)]; exact hK2.2.1, ?_⟩⟩
    · rw [fin k (by omega), hK2.2.2 k (by omega), J96 k (by omega) (by omega), a96 k (by omega) (by omega) (by omega)]
    · refine DatR.put hso (d1 h0) Y (fun i hi => ?_)
      rw [b2, if_pos (by omega), hK2.1 98 (by decide), show plc so s + i - plc so s = i by omega]
  · refine ⟨-1, J1, by rw [← hK0]; exact z1 _ _ (wX12_text_256 ⟨S.k 95 12 (by decide), 96, Q.p 95 0 96 (by decide), S.k 96 13 (by decide), v5, fun e => absurd (by rw [c5, g5] at e; exact e) h0, fun _ => ⟨rfl, rfl⟩⟩), Jc, ⟨J4, g5, g6⟩, fun _ => ⟨rfl, fun k hk => ?_⟩, fun e => absurd e h0⟩
    rw [J96 k (by omega) (by omega), a96 k (by omega) (by omega) (by omega)]
/-- the reference's head -/
theorem r_head {so : Nat} {x1 x2 : Int32} (S : Sg g) (Q : Sp P) : ∀ r h', (∃ (w13 : Int32), Cl mX12_isIn [.int x1, .int 0, .int 3] (g, iM I, P) (some (.int w13)) (g, iM I, P) ∧ ((w13 = 0) → r = some (.int (-2)) ∧ h' = (g, iM I, P)) ∧ ((¬ w13 = 0) → ((¬ x2 = (-1)) → ∃ (w19 : Int32), Cl mX12_isOf [.ref 95, .int x1, .int x2] (g, iM I, P) (some (.int w19)) (g, iM I, P) ∧ ((¬ w19 = 0) → Zt none mX12_text 0 0 88 [(0, .ref 95), (1, .int x1), (2, .int x2), (3, .int 0)] [] (g, zU (zU (zU (iM I) 95 3 0) 95 8 0) 95 9 (-1), P) r h') ∧ ((w19 = 0) → r = some (.int (-2)) ∧ h' = (g, iM I, P))) ∧ ((x2 = (-1)) → vp_in x1 (g.2.2 96) ∧ ((iM I 96 x1.toNatClampNeg < 2) → Zt none mX12_text 0 0 88 [(0, .ref 95), (1, .int x1), (2, .int x2), (3, .int 0)] [] (g, zU (zU (zU (iM I) 95 3 0) 95 8 0) 95 9 (-1), P) r h') ∧ ((¬ iM I 96 x1.toNatClampNeg < 2) → r = some (.int (-2)) ∧ h' = (g, iM I, P))))) → Zt none mX12_text 0 0 0 [(0, .ref 95), (1, .int x1), (2, .int x2)] [] (g, I, P) r h' := by
  rintro r h' ⟨w13, z13, H1, H2⟩
  have v4 : vp_in 4 (g.2.2 96) := by rw [S.l 96 4968 (by decide)]; exact vp_in_nI (n := 4) (by decide) (by decide)
  have v5 : vp_in 5 (g.2.2 96) := by rw [S.l 96 4968 (by decide)]; exact vp_in_nI (n := 5) (by decide) (by decide)
  have v6 : vp_in 6 (g.2.2 96) := by rw [S.l 96 4968 (by decide)]; exact vp_in_nI (n := 6) (by decide) (by decide)
  have eM : zU (zU (zU (zU I 95 2 (I 96 (4 : Int32).toNatClampNeg)) 96 (4 : Int32).toNatClampNeg 0) 96 (5 : Int32).toNatClampNeg 0) 96 (6 : Int32).toNatClampNeg (-1) = iM I := by rw [c4, c5, c6]; rfl
  refine wX12_text_0 ⟨S.k 95 12 (by decide), 96, Q.p 95 0 96 (by decide), S.k 96 13 (by decide), v4, S.k 95 12 (by decide), S.k 95 12 (by decide), 96, Q.p 95 0 96 (by decide), S.k 96 13 (by decide), v4, S.k 95 12 (by decide), 96, Q.p 95 0 96 (by decide), S.k 96 13 (by decide), v5, S.k 95 12 (by decide), 96, Q.p 95 0 96 (by decide), S.k 96 13 (by decide), v6, ?_⟩
  rw [eM]
  refine ⟨w13, z13, H1, fun e => ⟨fun e2 => ?_, fun e2 => ?_⟩⟩
  · obtain ⟨w19, z19, h1, h2⟩ := (H2 e).1 e2
    exact ⟨S.k 95 12 (by decide), w19, z19, fun e3 => ⟨S.k 95 12 (by decide), S.k 95 12 (by decide), S.k 95 12 (by decide), h1 e3⟩, h2⟩
  · obtain ⟨v, h1, h2⟩ := (H2 e).2 e2
    exact ⟨S.k 95 12 (by decide), 96, Q.p 95 0 96 (by decide), S.k 96 13 (by decide), v, fun e3 => ⟨S.k 95 12 (by decide), S.k 95 12 (by decide), S.k 95 12 (by decide), h1 e3⟩, h2⟩
/-- the class's head -/
theorem c_head {x1 x2 w16 : Int32} (S : Sg g) (Q : Sp P) (z16 : Cl mX9_many [.ref 1, .int x1] (g, iA I, P) (some (.int w16)) (g, iA I, P)) : ∀ r h', ((x2 < 0) → Zt none mX11_text 0 0 57 [(0, .ref 0), (1, .int x1), (2, .int x2), (3, .int (I 1 1)), (4, .int w16)] [.int 0] (g, iA I, P) r h') → ((¬ x2 < 0) → ((w16 ≤ x2) → Zt none mX11_text 0 0 57 [(0, .ref 0), (1, .int x1), (2, .int x2), (3, .int (I 1 1)), (4, .int w16)] [.int 0] (g, iA I, P) r h') ∧ ((¬ w16 ≤ x2) → Zt none mX11_text 0 0 57 [(0, .ref 0), (1, .int x1), (2, .int x2), (3, .int (I 1 1)), (4, .int w16)] [.int 1] (g, iA I, P) r h')) → Cl mX11_text [.ref 0, .int x1, .int x2] (g, I, P) r h' :=
  fun r h' H1 H2 => eX11_text (wX11_text_0 ⟨S.k 0 11 (by decide), 1, Q.p 0 0 1 (by decide), S.k 1 9 (by decide), S.k 0 11 (by decide), 1, Q.p 0 0 1 (by decide), S.k 1 9 (by decide), S.k 0 11 (by decide), 1, Q.p 0 0 1 (by decide), S.k 1 9 (by decide), S.k 0 11 (by decide), 1, Q.p 0 0 1 (by decide), S.k 1 9 (by decide), S.k 0 11 (by decide), 1, Q.p 0 0 1 (by decide), S.k 1 9 (by decide), w16, z16, H1, H2⟩)
/-- no text is read -/
theorem b_none {x1 x2 : Int32} (L : LI g I P t im) (hc : Cl mX11_text [.ref 0, .int x1, .int x2] (g, I, P) (some (.int (-2))) (g, iA I, P)) (hr : Cl mX12_text [.ref 95, .int x1, .int x2] (g, iA I, P) (some (.int (-2))) (g, iM (iA I), P)) : ∃ (w : Int32) (I1 : Nat → Nat → Int32) (P1 : Nat → Nat → Option Nat) (J : Nat → Nat → Int32) (t' : TD), Cl mX11_text [.ref 0, .int x1, .int x2] (g, I, P) (some (.int w)) (g, I1, P1) ∧ Cl mX12_text [.ref 95, .int x1, .int x2] (g, I1, P1) (some (.int w)) (g, J, P1) ∧ LI g J P1 t' im := by
  obtain ⟨⟨a4, a5, a6⟩, a96⟩ := iM_96 (I := iA I)
  obtain ⟨b1, b2, b3⟩ := iA_1 (I := I)
  refine ⟨-2, iA I, P, iM (iA I), tBase t (0, -1), hc, hr, LI.base L (KpP.rf L.2.1) (fun a ha => by rw [iM_a (by omega) (by omega), iA_a (by omega)]) (by rw [iM_a (by decide) (by decide), iA_a (by decide)]) (fun k hk => by rw [a96 k (by omega) (by omega) (by omega), iA_a (by decide)]) (fun a h1 h2 => by rw [iM_a (by omega) (by omega), iA_a (by omega)]) ?_ ?_ ?_ a4 a5 a6⟩
  · rw [iM_a (by decide) (by decide)]; exact b1
  · rw [iM_a (by decide) (by decide)]; exact b2
  · rw [iM_a (by decide) (by decide)]; exact b3
/-- a text is read -/
theorem b_some {so s : Nat} {x2 x5 : Int32} (L : LI g I P t im) (hso : so < 4) (hs : s < 2) (hsc : s ≤ cnS t so) (h5 : (x5 = 0 ∧ s = cnS t so) ∨ (x5 = 1 ∧ x2 = nI s)) (hx : (x2 = -1 ∧ s = cnS t so) ∨ (¬ x2 = -1 ∧ x2 = nI s ∧ s < cnS t so)) (hc : ∀ w I1 R, Zt none mX11_text 0 0 95 [(0, .ref 0), (1, .int (nI so)), (2, .int x2), (3, .int (nI (tLen t))), (4, .int (nI (cnS t so))), (5, .int x5)] [] (g, iA I, P) (some (.int w)) (g, I1, R) → Cl mX11_text [.ref 0, .int (nI so), .int x2] (g, I, P) (some (.int w)) (g, I1, R)) : ∃ (w : Int32) (I1 : Nat → Nat → Int32) (P1 : Nat → Nat → Option Nat) (J : Nat → Nat → Int32) (t' : TD), Cl mX11_text [.ref 0, .int (nI so), .int x2] (g, I, P) (some (.int w)) (g, I1, P1) ∧ Cl mX12_text [.ref 95, .int (nI so), .int x2] (g, I1, P1) (some (.int w)) (g, J, P1) ∧ LI g J P1 t' im := by
  obtain ⟨w, I1, R, zc, kP, ⟨c1', c2', c3'⟩, cf, cB, cG⟩ := c_text95 L hso hs h5
  have L0 := L
  obtain ⟨S, Q, W, D, M, -⟩ := L
  have QR := kP.2
  have c2 := cn_le W hso
  have M96 : I1 96 = I 96 := cf 96 (by omega)
  obtain ⟨w', J, zr, rc, ⟨m4, m5, m6⟩, rB, rG⟩ := r_text88 (g := g) (I := I1) (P := R) (t := t) (so := so) (s := s) (x2 := x2) S QR hso hs W (by rw [M96]; exact M.1.1) (fun k hk => by rw [M96]; have := M.1.2.2.2 k hk; rw [Nat.zero_add] at this; exact this) (by rw [M96]; exact cn_r M hso) hx
  -- the reference gets there
  have zR : Cl mX12_text [.ref 95, .int (nI so), .int x2] (g, I1, R) (some (.int w')) (g, J, R) := by
    obtain ⟨-, a96⟩ := iM_96 (I := I1)
    have hso96 : iM I1 96 so = nI (cnS t so) := by rw [a96 so (by omega) (by omega) (by omega), M96]; exact cn_r M hso
    have isIn := r_isInN (g := g) (I := iM I1) (P := R) (n := so) (lo := 0) (hi := 3) (by omega) (by decide) (by decide)
    rw [decide_eq_true (show 0 ≤ so ∧ so ≤ 3 by omega)] at isIn
    refine eX12_text (r_head (so := so) S QR _ _ ⟨1, isIn, fun e => absurd e (by decide), fun _ => ⟨fun e => ⟨_, r_isOf (n := cnS t so) S QR hso c2 hso96, fun _ => zr, fun e2 => ?_⟩, fun e => ⟨by rw [S.l 96 4968 (by decide)]; exact vp_in_nI (by omega) (by decide), fun _ => zr, fun e2 => ?_⟩⟩⟩)
    · rcases hx with ⟨h1, -⟩ | ⟨-, h1, h2⟩
      · exact absurd h1 e
      · rw [h1, pk_nI (by omega) h2] at e2; cases e2
    · rcases hx with ⟨-, h1⟩ | ⟨h1, -⟩
      · rw [nI_clamp (by omega), hso96] at e2
        exact absurd (nI_lt (b := 2) (by omega) (by decide)) e2
      · exact absurd e h1
  have a1 : J 1 = I1 1 := rc 1 (by decide) (by decide) (by decide) (by decide)
  have j114 : ∀ a, 114 ≤ a → J a = I a := fun a ha => by rw [rc a (by omega) (by omega) (by omega) (by omega), cf a (by omega)]
  have j97 : J 97 = I 97 := by rw [rc 97 (by decide) (by decide) (by decide) (by decide), cf 97 (by omega)]
  by_cases h0 : (tG' t so).1 = 0
  · obtain ⟨e1, Y, cA, c3, cD, cb⟩ := cG h0
    obtain ⟨e2, rA, rso, rD⟩ := rG h0 Y
    subst e1 e2
    have rcell : ∀ a, a ≤ 40 → J a = I1 a := fun a ha => rc a (by omega) (by omega) (by omega) (by omega)
    have dl : dsC so s + dln so ≤ 40 ∧ 8 ≤ dsC so s := by
      rcases (show so = 0 ∨ so = 1 ∨ so = 2 ∨ so = 3 by omega) with rfl | rfl | rfl | rfl
      · show 8 + 16 * s + 6 ≤ 40 ∧ 8 ≤ 8 + 16 * s; omega
      · show 14 + 16 * s + 4 ≤ 40 ∧ 8 ≤ 14 + 16 * s; omega
      · show 18 + 16 * s + 3 ≤ 40 ∧ 8 ≤ 18 + 16 * s; omega
      · show 21 + 16 * s + 3 ≤ 40 ∧ 8 ≤ 21 + 16 * s; omega
    have dC : DtC so J (dsC so s) (tR t so) := by
      refine ⟨fun e => ?_, fun e => ?_, fun e => ?_, fun e => ?_⟩
      · subst e
        exact (cD.1 rfl).keep (fun j hj => rcell _ (by have : dsC 0 s + 6 ≤ 40 := dl.1; omega))
      · subst e
        exact (cD.2.1 rfl).keep (fun j hj => rcell _ (by have : dsC 1 s + 4 ≤ 40 := dl.1; omega))
      · subst e
        exact (cD.2.2.1 rfl).keep (fun j hj => rcell _ (by have : dsC 2 s + 3 ≤ 40 := dl.1; omega))
      · subst e
        exact (cD.2.2.2 rfl).keep (fun j hj => rcell _ (by have : dsC 3 s + 3 ≤ 40 := dl.1; omega))
    have dW : DtW so (tR t so) := ⟨fun e => by subst e; exact ⟨Y.1, hx_of (T := tT t) (F := (prs (tT t) 0 (tT t).1 0 y0 (0, -1)).2) Y h0⟩, fun _ => Y.2.2.2.2.1, fun _ => Y.2.2.2.2.2.1, fun _ => Y.2.2.2.2.2.2⟩
    refine ⟨nI s, I1, R, J, tPut t so s (tR t so) (tG' t so), hc _ _ _ zc, zR, LI.put L0 hso hs hsc kP j114 j97 (fun k hk => by rw [rA k hk, M96]) (fun a h1 h2 h3 => by rw [rcell a h2, cA a h1 h2 h3]) (fun e => by rw [rcell _ (by omega)]; exact cb e) (by rw [a1]; exact c1') (by rw [a1]; exact c2') (by rw [a1]; exact c3') (fun k hk => by rw [rcell 3 (by decide)]; exact c3 k hk) m4 m5 m6 rso dC rD dW⟩
  · obtain ⟨e1, cA⟩ := cB h0
    obtain ⟨e2, rA⟩ := rB h0
    subst e1 e2
    exact ⟨-1, I1, R, J, tBase t (tG' t so), hc _ _ _ zc, zR, LI.base L0 kP j114 j97 (fun k hk => by rw [rA k hk, M96]) (fun a h1 h2 => by rw [rc a (by omega) (by omega) (by omega) (by omega), cA a h1 h2]) (by rw [a1]; exact c1') (by rw [a1]; exact c2') (by rw [a1]; exact c3') m4 m5 m6⟩
theorem b_text (L : LI g I P t im) (x1 x2 : Int32) : ∃ (w : Int32) (I1 : Nat → Nat → Int32) (P1 : Nat → Nat → Option Nat) (J : Nat → Nat → Int32) (t' : TD), Cl mX11_text [.ref 0, .int x1, .int x2] (g, I, P) (some (.int w)) (g, I1, P1) ∧ Cl mX12_text [.ref 95, .int x1, .int x2] (g, I1, P1) (some (.int w)) (g, J, P1) ∧ LI g J P1 t' im := by
  have L0 := L
  obtain ⟨S, Q, W, D, M, -⟩ := L
  obtain ⟨-, a96⟩ := iM_96 (I := iA I)
  by_cases hx1 : ¬ x1 < 0 ∧ x1 < 4
  · obtain ⟨so, hso, rfl⟩ : ∃ so, so < 4 ∧ x1 = nI so := by
      obtain ⟨k, hk, e⟩ := nI_of hx1.1
      have h4 := hx1.2
      rw [e, show (4 : Int32) = nI 4 from rfl, nI_ltI hk (by decide)] at h4
      exact ⟨k, h4, e⟩
    have c2 := cn_le W hso
    have hcc := cn_c D hso
    have hcr := cn_r M hso
    have z16 : Cl mX9_many [.ref 1, .int (nI so)] (g, iA I, P) (some (.int (nI (cnS t so)))) (g, iA I, P) := by
      have gt := c_got (g := g) (I := iA I) (P := P) (a := 3) (k := so) (n := 4) (S.k 3 13 (by decide)) (S.l 3 4 (by decide)) (by decide) hso
      rw [iA_a (by decide), hcc] at gt
      exact eX9_many (wX9_many_0 ⟨fun e => absurd e hx1.1, fun _ => ⟨fun _ => ⟨S.k 1 9 (by decide), 3, Q.p 1 4 3 (by decide), _, gt, rfl, rfl⟩, fun e => absurd hx1.2 e⟩⟩)
    have head := c_head (x2 := x2) S Q z16
    rw [D.1.1] at head
    have hso96 : iM (iA I) 96 so = nI (cnS t so) := by rw [a96 so (by omega) (by omega) (by omega), iA_a (by decide)]; exact hcr
    have isIn := r_isInN (g := g) (I := iM (iA I)) (P := P) (n := so) (lo := 0) (hi := 3) (by omega) (by decide) (by decide)
    rw [decide_eq_true (show 0 ≤ so ∧ so ≤ 3 by omega)] at isIn
    have vso : vp_in (nI so) (g.2.2 96) := by rw [S.l 96 4968 (by decide)]; exact vp_in_nI (by omega) (by decide)
    by_cases hm : x2 = -1
    · have hneg : x2 < 0 := by rw [hm]; decide
      by_cases hc1 : cnS t so < 2
      · refine b_some (s := cnS t so) (x5 := 0) L0 hso hc1 (Nat.le_refl _) (Or.inl ⟨rfl, rfl⟩) (Or.inl ⟨hm, rfl⟩) (fun w I1 R z => head _ _ (fun _ => wX11_text_57 ⟨fun e => absurd hm e, fun _ => ⟨fun e => absurd e (nI_pos (by omega)), fun _ => ⟨fun e => absurd e (nI_ge (b := 2) hc1 (by decide)), fun _ => ⟨fun e => absurd rfl e, fun _ => ⟨fun _ => z, fun e => absurd e (by decide)⟩⟩⟩⟩⟩) (fun e => absurd hneg e))
      · refine b_none L0 (head _ _ (fun _ => wX11_text_57 ⟨fun e => absurd hm e, fun _ => ⟨fun e => absurd e (nI_pos (by omega)), fun _ => ⟨fun _ => ⟨fun e => absurd rfl e, fun _ => ⟨fun e => absurd rfl e, fun _ => ⟨rfl, rfl⟩⟩⟩, fun e => absurd (nI_le (a := 2) (by omega) (by omega)) e⟩⟩⟩) (fun e => absurd hneg e)) (eX12_text (r_head (so := so) S Q _ _ ⟨1, isIn, fun e => absurd e (by decide), fun _ => ⟨fun e => absurd hm e, fun _ => ⟨vso, fun e => ?_, fun _ => ⟨rfl, rfl⟩⟩⟩⟩))
        rw [nI_clamp (by omega), hso96, n2, nI_ltI (by omega) (by decide)] at e
        exact absurd e hc1
    · cases hp : pk x2 (cnS t so) with
      | some s =>
        obtain ⟨hs, rfl⟩ := pk_some (by omega) hp
        have hpos : ¬ nI s < 0 := nI_pos (by omega)
        have hlt : ¬ nI (cnS t so) ≤ nI s := nI_ge hs (by omega)
        exact b_some (s := s) (x5 := 1) L0 hso (by omega) (by omega) (Or.inr ⟨rfl, rfl⟩) (Or.inr ⟨hm, rfl, hs⟩) (fun w I1 R z => head _ _ (fun e => absurd e hpos) (fun _ => ⟨fun e => absurd e hlt, fun _ => wX11_text_57 ⟨fun _ => ⟨fun _ => z, fun e => absurd e (by decide)⟩, fun e => absurd e hm⟩⟩))
      | none =>
        have of' := r_isOf (g := g) (I := iM (iA I)) (P := P) (s := so) (n := cnS t so) (x := x2) S Q hso c2 hso96
        rw [hp] at of'
        have zN : Zt none mX11_text 0 0 57 [(0, .ref 0), (1, .int (nI so)), (2, .int x2), (3, .int (nI (tLen t))), (4, .int (nI (cnS t so)))] [.int 0] (g, iA I, P) (some (.int (-2))) (g, iA I, P) := wX11_text_57 ⟨fun _ => ⟨fun e => absurd rfl e, fun _ => ⟨fun e => absurd rfl e, fun _ => ⟨rfl, rfl⟩⟩⟩, fun e => absurd e hm⟩
        refine b_none L0 (head _ _ (fun _ => zN) (fun e => ⟨fun _ => zN, fun e2 => ?_⟩)) (eX12_text (r_head (so := so) S Q _ _ ⟨1, isIn, fun e => absurd e (by decide), fun _ => ⟨fun _ => ⟨_, of', fun e => absurd rfl e, fun _ => ⟨rfl, rfl⟩⟩, fun e => absurd e hm⟩⟩))
        rw [pk_ok e e2] at hp; cases hp
  · have z16 : Cl mX9_many [.ref 1, .int x1] (g, iA I, P) (some (.int (-2))) (g, iA I, P) :=
      eX9_many (wX9_many_0 ⟨fun _ => ⟨rfl, rfl⟩, fun e => ⟨fun e2 => absurd ⟨e, e2⟩ hx1, fun _ => ⟨rfl, rfl⟩⟩⟩)
    have head := c_head (x2 := x2) S Q z16
    have zN : ∀ x3 : Int32, Zt none mX11_text 0 0 57 [(0, .ref 0), (1, .int x1), (2, .int x2), (3, .int x3), (4, .int (-2))] [.int 0] (g, iA I, P) (some (.int (-2))) (g, iA I, P) := fun x3 => wX11_text_57 ⟨fun _ => ⟨fun e => absurd rfl e, fun _ => ⟨fun e => absurd rfl e, fun _ => ⟨rfl, rfl⟩⟩⟩, fun _ => ⟨fun _ => ⟨fun e => absurd rfl e, fun _ => ⟨fun e => absurd rfl e, fun _ => ⟨rfl, rfl⟩⟩⟩, fun e => absurd (by decide) e⟩⟩
    have isIn := r_isIn (g := g) (I := iM (iA I)) (P := P) (x := x1) (lo := 0) (hi := 3)
    refine b_none L0 (head _ _ (fun _ => zN _) (fun e => ⟨fun _ => zN _, fun e2 => absurd (Int32.le_trans (by decide) (Int32.not_lt.mp e)) e2⟩)) (eX12_text (r_head (so := 0) S Q _ _ ⟨_, isIn, fun _ => ⟨rfl, rfl⟩, fun e => ?_⟩))
    exfalso
    rw [← ne_eq, zb_ne, decide_eq_true_eq] at e
    obtain ⟨k, -, hk, e3⟩ := inN (lo := 0) (hi := 3) (by decide) (by decide) e.1 e.2
    exact hx1 ⟨e.1, by rw [e3]; exact nI_lt (b := 4) (by omega) (by decide)⟩
end BTEXT
