/-! ===== said, odds, sure, asked, soonest ===== -/
theorem zmmin_n {a b : Nat} (ha : a < 2 ^ 31) (hb : b < 2 ^ 31) : zmmin (nI a) (nI b) = nI (min a b) := by
  unfold zmmin
  by_cases h : b < a
  · rw [if_pos (nI_lt h ha), Nat.min_eq_right (by omega)]
  · rw [if_neg (nI_nlt (by omega) hb), Nat.min_eq_left (by omega)]
theorem zmmax_n {a b : Nat} (ha : a < 2 ^ 31) (hb : b < 2 ^ 31) : zmmax (nI a) (nI b) = nI (max a b) := by
  unfold zmmax
  by_cases h : a < b
  · rw [if_pos (nI_lt h hb), Nat.max_eq_right (by omega)]
  · rw [if_neg (nI_nlt (by omega) ha), Nat.max_eq_left (by omega)]
theorem hNd_same {d : HD} {s : Int32} {w n v : Nat} (h : ¬ (v ≠ w ∧ tb s v = true)) : hNd d s w n (v + 1) = hNd d s w n v := by
  simp only [hNd]; rw [if_neg h]
theorem hNd_more {d : HD} {s : Int32} {w n v : Nat} (h : v ≠ w ∧ tb s v = true) : hNd d s w n (v + 1) = max (hNd d s w n v) (hLcp d v w + 1) := by
  simp only [hNd]; rw [if_pos h]
/-- the first of the best -/
def bst (p : Nat → Bool) (v : Nat → Nat) : Nat → Option Nat
  | 0 => none
  | n + 1 => if p n = true then (match bst p v n with
    | none => some n
    | some b => if v n ≤ v b then some b else some n) else bst p v n
def oI : Option Nat → Int32
  | none => -1
  | some n => nI n
theorem nI_m1' {b : Nat} (h : b < 2 ^ 31) : ¬ nI b = -1 := fun e => nI_pos h (by rw [e]; decide)
theorem bst_f {p : Nat → Bool} {v : Nat → Nat} {n : Nat} (h : p n = false) : bst p v (n + 1) = bst p v n := by
  show (if p n = true then _ else _) = _
  rw [if_neg (by rw [h]; decide)]
theorem bst_t {p : Nat → Bool} {v : Nat → Nat} {n : Nat} (h : p n = true) : bst p v (n + 1) = match bst p v n with
    | none => some n
    | some b => if v n ≤ v b then some b else some n := by
  show (if p n = true then _ else _) = _
  rw [if_pos h]
theorem bst_lt {p : Nat → Bool} {v : Nat → Nat} : ∀ n b, bst p v n = some b → b < n ∧ p b = true := by
  intro n
  induction n with
  | zero => intro b h; cases h
  | succ n ih =>
    intro b h
    cases hp : p n with
    | false => rw [bst_f hp] at h; have := ih b h; exact ⟨by omega, this.2⟩
    | true =>
      rw [bst_t hp] at h
      cases hb : bst p v n with
      | none => rw [hb] at h; cases h; exact ⟨by omega, hp⟩
      | some c =>
        rw [hb] at h
        simp only at h
        by_cases hc : v n ≤ v c
        · rw [if_pos hc] at h; obtain rfl : c = b := Option.some.inj h; have := ih c hb; exact ⟨by omega, this.2⟩
        · rw [if_neg hc] at h; cases h; exact ⟨by omega, hp⟩
theorem bst_ext {p : Nat → Bool} {v : Nat → Nat} {n : Nat} : ∀ m, (∀ k, n ≤ k → k < n + m → p k = false) → bst p v (n + m) = bst p v n := by
  intro m
  induction m with
  | zero => intro _; rfl
  | succ m ih =>
    intro h
    rw [← Nat.add_assoc, bst_f (h (n + m) (by omega) (by omega))]
    exact ih (fun k h1 h2 => h k h1 (by omega))
/-- the answer of odds, sure, asked: a half of x over y, NONE if y is 0 -/
def F_half (x y : Nat) (u : Int32) : Int64 := if y = 0 then -1 else zle x y u
section SAID
variable {g : zG} {I : Nat → Nat → Int32} {P : Nat → Nat → Option Nat} {t : TD} {im : Nat → Option TD} {a : Nat} {d : HD}
theorem c_half {x y : Nat} {u : Int32} (hx : x < 2 ^ 31) (hy : y < 2 ^ 31) : Cl mX11_least [.long (nI x).toInt64, .long (nI y).toInt64, .int u] (g, I, P) (some (.long (F_half x y u))) (g, I, P) := by
  rw [nI_l hx, nI_l hy]
  unfold F_half
  by_cases h : y = 0
  · rw [if_pos h, h]; exact c_least0 (by omega)
  · rw [if_neg h]; exact c_least (by omega) (by omega) (by omega)
theorem c_oft {s : Int32} (S : HlS g P a) (W : HW d) (D : HlD I a d) : Cl mX3_oftenOfAll [.ref a, .int s] (g, I, P) (some (.int (nI (oft d s)))) (g, I, P) := by
  rw [← oft_z]; exact c_oftenOfAll S W D
theorem r_oft {s : Int32} {h0 : Nat} (S : Sg g) (Q : Sp P) (W : HW d) (D : MhD I h0 d) : Cl mX12_oftenIn [.ref 95, .int s] (g, I, P) (some (.int (nI (oft d s)))) (g, I, P) := by
  rw [← oft_z]; exact r_oftenIn S Q W D
theorem c_tell {w n : Nat} {s : Int32} (S : HlS g P a) (W : HW d) (D : HlD I a d) (hw : w < hN d) (hn : n ≤ 12) : Cl mX3_lettersToTell [.ref a, .int s, .int (nI w), .int (nI n)] (g, I, P) (some (.int (nI (hTell d s w n)))) (g, I, P) := by
  have h10 := W.2.1
  have hz := (W.2.2.1 w hw).2
  have key : ∀ m v, v + m = hN d → Zt none mX3_lettersToTell 0 0 6 [(0, .ref a), (1, .int s), (2, .int (nI w)), (4, .int (nI (hNd d s w n v))), (5, .int (nI v))] [] (g, I, P) (some (.int (nI (hTell d s w n)))) (g, I, P) := by
    intro m
    induction m with
    | zero =>
      intro v hv
      obtain rfl : v = hN d := hv
      have hl := hNd_le (s := s) W hw hn (hN d) (Nat.le_refl _)
      exact wX3_lettersToTell_6 ⟨S.1, fun _ => ⟨S.1, _, c_sizeOf S W D hw, by rw [zmmin_n (by omega) (by omega)]; rfl, rfl⟩, fun q => absurd (by rw [D.2.1]; exact Int32.le_refl _) q⟩
    | succ m ih =>
      intro v hv
      have ih := ih (v + 1) (by omega)
      have hl := hNd_le (s := s) W hw hn v (by omega)
      have hc := (hLcp_le d v w).2
      refine wX3_lettersToTell_6 ⟨S.1, fun q => ?_, fun _ => pk_eq v w (fun e => ?_) (fun e => ⟨_, c_has (by omega), zp (fun h => ?_) (fun h => ⟨S.1, _, c_lcp S W D (by omega) hw, ?_⟩)⟩)⟩
      · rw [D.2.1] at q
        exact absurd q (nI_ge (by omega) (by omega))
      · rw [hNd_same (fun q => q.1 e)] at ih
        rw [nI_1]; exact ih
      · rw [hNd_same (fun q => by rw [h] at q; exact absurd q.2 (by decide))] at ih
        rw [nI_1]; exact ih
      · rw [hNd_more ⟨e, h⟩] at ih
        rw [nI_1, nI_1, zmmax_n (by omega) (by omega)]; exact ih
  exact eX3_lettersToTell (wX3_lettersToTell_0 (key (hN d) 0 (by omega)))
theorem hTell_ge {s : Int32} {w n : Nat} (h : n ≤ hZ d w) : n ≤ hTell d s w n := by
  have := hNd_ge d s w n (hN d)
  unfold hTell
  omega
theorem c_sureS {n : Nat} {s : Int32} (S : HlS g P a) (W : HW d) (D : HlD I a d) (hn : n ≤ 12) (hs : ∀ w, w < hN d → tb s w = true → n ≤ hZ d w) : Cl mX3_lettersTillSure [.ref a, .int s, .int (nI n)] (g, I, P) (some (.int (nI (hSure d s n)))) (g, I, P) := by
  have h10 := W.2.1
  have key : ∀ m w, w + m = hN d → Zt none mX3_lettersTillSure 0 0 5 [(0, .ref a), (1, .int s), (2, .int (nI n)), (3, .int (nI (nsum (fun w => if tb s w = true then (hTell d s w n - n) * hO d w else 0) w))), (4, .int (nI w))] [] (g, I, P) (some (.int (nI (hSure d s n)))) (g, I, P) := by
    intro m
    induction m with
    | zero =>
      intro w hw
      obtain rfl : w = hN d := hw
      exact wX3_lettersTillSure_5 ⟨S.1, fun _ => ⟨rfl, rfl⟩, fun q => absurd (by rw [D.2.1]; exact Int32.le_refl _) q⟩
    | succ m ih =>
      intro w hw
      have ih := ih (w + 1) (by omega)
      simp only [nsum] at ih
      refine wX3_lettersTillSure_5 ⟨S.1, fun q => ?_, fun _ => ⟨_, c_has (by omega), zp (fun h => ?_) (fun h => ⟨S.1, _, c_tell S W D (by omega) hn, S.1, _, c_oftenOf S W D (by omega), ?_⟩)⟩⟩
      · rw [D.2.1] at q
        exact absurd q (nI_ge (by omega) (by omega))
      · rw [if_neg (by rw [h]; decide)] at ih
        rw [nI_1]; exact ih
      · rw [if_pos h] at ih
        rw [nI_1, pk_sub (hTell_ge (hs w (by omega) h)), pk_mul, nI_add]; exact ih
  exact eX3_lettersTillSure (wX3_lettersTillSure_0 (key (hN d) 0 (by omega)))
theorem r_sureS {n h0 : Nat} {s : Int32} (S : Sg g) (Q : Sp P) (W : HW d) (D : MhD I h0 d) (hn : n ≤ 12) (hs : ∀ w, w < hN d → tb s w = true → n ≤ hZ d w) : Cl mX12_sureIn [.ref 95, .int s, .int (nI n)] (g, I, P) (some (.int (nI (hSure d s n)))) (g, I, P) := by
  have h10 := W.2.1
  have k95 := S.k 95 12 (by decide)
  have inner : ∀ w (X : Int32), w < hN d → n ≤ hZ d w → Zt none mX12_sureIn 0 0 5 [(0, .ref 95), (1, .int s), (2, .int (nI n)), (3, .int (X + nI ((hTell d s w n - n) * hO d w))), (4, .int (nI (w + 1)))] [] (g, I, P) (some (.int (nI (hSure d s n)))) (g, I, P) → ∀ m v, v + m = hN d → Zt none mX12_sureIn 0 0 32 [(0, .ref 95), (1, .int s), (2, .int (nI n)), (3, .int X), (4, .int (nI w)), (5, .int (nI (hNd d s w n v))), (6, .int (nI v))] [] (g, I, P) (some (.int (nI (hSure d s n)))) (g, I, P) := by
    intro w X hw hwn nxt m
    have hz := (W.2.2.1 w hw).2
    induction m with
    | zero =>
      intro v hv
      obtain rfl : v = hN d := hv
      have hl := hNd_le (s := s) W hw hn (hN d) (Nat.le_refl _)
      have hg := hNd_ge d s w n (hN d)
      refine wX12_sureIn_32 ⟨k95, fun _ => ⟨k95, _, r_longOf S Q W D hw, pk_le (hNd d s w n (hN d)) (hZ d w) (fun q => ⟨k95, _, r_oftenOf S Q W D hw, ?_⟩) (fun q => ⟨k95, _, r_longOf S Q W D hw, k95, _, r_oftenOf S Q W D hw, ?_⟩)⟩, fun q => absurd (by rw [D.2.2.2.1]; exact Int32.le_refl _) q⟩
      · rw [show hTell d s w n = hNd d s w n (hN d) from Nat.min_eq_left q] at nxt
        rw [nI_1, pk_sub hg, pk_mul, Nat.mul_comm]; exact nxt
      · rw [show hTell d s w n = hZ d w from Nat.min_eq_right (by omega)] at nxt
        rw [nI_1, pk_sub hwn, pk_mul, Nat.mul_comm]; exact nxt
    | succ m ih =>
      intro v hv
      have ih := ih (v + 1) (by omega)
      have hl := hNd_le (s := s) W hw hn v (by omega)
      have hc := (hLcp_le d v w).2
      refine wX12_sureIn_32 ⟨k95, fun q => ?_, fun _ => pk_eq v w (fun e => ?_) (fun e => ⟨_, r_holds, zp (fun h => ?_) (fun h => ⟨k95, _, r_lcp S Q W D hw (by omega), ?_⟩)⟩)⟩
      · rw [D.2.2.2.1] at q
        exact absurd q (nI_ge (by omega) (by omega))
      · rw [hNd_same (fun q => q.1 e)] at ih
        rw [nI_1]; exact ih
      · rw [hNd_same (fun q => by rw [h] at q; exact absurd q.2 (by decide))] at ih
        rw [nI_1]; exact ih
      · rw [hNd_more ⟨e, h⟩] at ih
        rw [hLcp_comm d w v, nI_1, nI_1]
        refine pk_le (hLcp d v w + 1) (hNd d s w n v) (fun q => ?_) (fun q => ⟨k95, _, r_lcp S Q W D hw (by omega), ?_⟩)
        · rw [Nat.max_eq_left q] at ih; exact ih
        · rw [Nat.max_eq_right (by omega)] at ih
          rw [hLcp_comm d w v, nI_1]; exact ih
  have key : ∀ m w, w + m = hN d → Zt none mX12_sureIn 0 0 5 [(0, .ref 95), (1, .int s), (2, .int (nI n)), (3, .int (nI (nsum (fun w => if tb s w = true then (hTell d s w n - n) * hO d w else 0) w))), (4, .int (nI w))] [] (g, I, P) (some (.int (nI (hSure d s n)))) (g, I, P) := by
    intro m
    induction m with
    | zero =>
      intro w hw
      obtain rfl : w = hN d := hw
      exact wX12_sureIn_5 ⟨k95, fun _ => ⟨rfl, rfl⟩, fun q => absurd (by rw [D.2.2.2.1]; exact Int32.le_refl _) q⟩
    | succ m ih =>
      intro w hw
      have ih := ih (w + 1) (by omega)
      simp only [nsum] at ih
      refine wX12_sureIn_5 ⟨k95, fun q => ?_, fun _ => ⟨_, r_holds, zq (fun h => ?_) (fun h => ?_)⟩⟩
      · rw [D.2.2.2.1] at q
        exact absurd q (nI_ge (by omega) (by omega))
      · rw [if_pos h, ← nI_add] at ih
        exact inner w _ (by omega) (hs w (by omega) h) ih (hN d) 0 (by omega)
      · rw [if_neg (by rw [h]; decide)] at ih
        rw [nI_1]; exact ih
  exact eX12_sureIn (wX12_sureIn_0 (key (hN d) 0 (by omega)))
theorem beg_le {f : Nat → Nat} {n w : Nat} (W : HW d) (hw : w < hN d) (h : tb (bs (beg d f n) (hN d)) w = true) : n ≤ hZ d w := by
  have h10 := W.2.1
  rw [tb_bs (by omega) (by omega)] at h
  unfold beg at h
  simp only [Bool.and_eq_true, decide_eq_true_eq] at h
  exact h.2.1
theorem beg_out {f : Nat → Nat} {n w : Nat} (W : HW d) (hw : w < 32) (h : tb (bs (beg d f n) (hN d)) w = true) : w < hN d := by
  have h10 := W.2.1
  rw [tb_bs (by omega) hw] at h
  simp only [Bool.and_eq_true, decide_eq_true_eq] at h
  exact h.1
theorem c_likely {n : Nat} {f : Nat → Nat} (E : Er g I P a d n f) : Cl mX1_likely [.ref 73] (g, I, P) (some (.int (oI (bst (tb (bs (beg d f n) (hN d))) (hO d) (hN d))))) (g, I, P) := by
  have E0 := E
  obtain ⟨S, Q, T, W, D, e1, -⟩ := E
  have h10 := W.2.1
  refine eX1_likely (wX1_likely_0 ⟨S.k 73 1 (by decide), _, c_heard E0, ?_⟩)
  have out : ∀ w, w < 32 → tb (bs (beg d f n) (hN d)) w = true → w < hN d := fun w hw h => beg_out W hw h
  generalize bs (beg d f n) (hN d) = s at out ⊢
  have e10 : bst (tb s) (hO d) 10 = bst (tb s) (hO d) (hN d) := by
    have := bst_ext (p := tb s) (v := hO d) (n := hN d) (10 - hN d) (fun k h1 h2 => by
      cases hb : tb s k with
      | false => rfl
      | true => have := out k (by omega) hb; omega)
    rw [show hN d + (10 - hN d) = 10 by omega] at this
    exact this
  rw [← e10]
  have key : ∀ m w, w + m = 10 → Zt none mX1_likely 0 0 9 [(0, .ref 73), (1, .int s), (2, .int (oI (bst (tb s) (hO d) w))), (3, .int (nI w))] [] (g, I, P) (some (.int (oI (bst (tb s) (hO d) 10)))) (g, I, P) := by
    intro m
    induction m with
    | zero =>
      intro w hw
      obtain rfl : w = 10 := hw
      exact wX1_likely_9 ⟨fun _ => ⟨rfl, rfl⟩, fun q => absurd (by decide) q⟩
    | succ m ih =>
      intro w hw
      have ih := ih (w + 1) (by omega)
      refine wX1_likely_9 ⟨fun q => absurd q (nI_ge (b := 10) (by omega) (by decide)), fun _ => ⟨_, c_has (by omega), zp (fun h => ?_) (fun h => ?_)⟩⟩
      · rw [bst_f h] at ih
        rw [nI_1]; exact ih
      · rw [bst_t h] at ih
        have hwd := out w (by omega) h
        have o1 := W.2.2.2.1 w hwd
        rw [nI_1]
        cases hb : bst (tb s) (hO d) w with
        | none => rw [hb] at ih; exact ⟨fun _ => ih, fun q => absurd rfl q⟩
        | some b =>
          rw [hb] at ih
          simp only at ih
          obtain ⟨b1, b2⟩ := bst_lt w b hb
          have hbd := out b (by omega) b2
          have o2 := W.2.2.2.1 b hbd
          refine ⟨fun q => absurd q (nI_m1' (by omega)), fun _ => ⟨S.k 73 1 (by decide), _, e1, T.1, _, c_oftenOf T W D hwd, S.k 73 1 (by decide), _, e1, T.1, _, c_oftenOf T W D hbd, pk_le _ _ (fun q => ?_) (fun q => ?_)⟩⟩
          · rw [if_pos q] at ih; exact ih
          · rw [if_neg (by omega)] at ih; exact ih
  exact key 10 0 rfl
theorem r_likely {s : Int32} {h0 : Nat} (S : Sg g) (Q : Sp P) (W : HW d) (D : MhD I h0 d) : Zt none mX12_said 0 0 50 [(0, .ref 95), (5, .int s), (6, .int (-1)), (7, .int 0)] [] (g, I, P) (some (.int (oI (bst (tb s) (hO d) (hN d))))) (g, I, P) := by
  have h10 := W.2.1
  have key : ∀ m w, w + m = hN d → Zt none mX12_said 0 0 50 [(0, .ref 95), (5, .int s), (6, .int (oI (bst (tb s) (hO d) w))), (7, .int (nI w))] [] (g, I, P) (some (.int (oI (bst (tb s) (hO d) (hN d))))) (g, I, P) := by
    intro m
    induction m with
    | zero =>
      intro w hw
      obtain rfl : w = hN d := hw
      exact wX12_said_50 ⟨S.k 95 12 (by decide), fun _ => ⟨rfl, rfl⟩, fun q => absurd (by rw [D.2.2.2.1]; exact Int32.le_refl _) q⟩
    | succ m ih =>
      intro w hw
      have ih := ih (w + 1) (by omega)
      refine wX12_said_50 ⟨S.k 95 12 (by decide), fun q => ?_, fun _ => ⟨_, r_holds, zp (fun h => ?_) (fun h => ?_)⟩⟩
      · rw [D.2.2.2.1] at q
        exact absurd q (nI_ge (by omega) (by omega))
      · rw [bst_f h] at ih
        rw [nI_1]; exact ih
      · rw [bst_t h] at ih
        have o1 := W.2.2.2.1 w (by omega)
        rw [nI_1]
        cases hb : bst (tb s) (hO d) w with
        | none => rw [hb] at ih; exact ⟨fun _ => ih, fun q => absurd rfl q⟩
        | some b =>
          rw [hb] at ih
          simp only at ih
          obtain ⟨b1, b2⟩ := bst_lt w b hb
          have o2 := W.2.2.2.1 b (by omega)
          refine ⟨fun q => absurd q (nI_m1' (by omega)), fun _ => ⟨S.k 95 12 (by decide), _, r_oftenOf S Q W D (by omega), S.k 95 12 (by decide), _, r_oftenOf S Q W D (by omega), pk_le _ _ (fun q => ?_) (fun q => ?_)⟩⟩
          · rw [if_pos q] at ih; exact ih
          · rw [if_neg (by omega)] at ih; exact ih
  exact key (hN d) 0 (by omega)
/-- the reference's side of a line heard -/
theorem hearR (S : Sg g) (Q : Sp P) (W : TW t) (M : MtA I 0 t) {x1 x2 x3 : Int32} {i j k : Nat} (hp : pk x1 (tNh t) = some i) (hl : pk x2 (tNl t) = some j) (hk : pk x3 (tL t j).1 = some k) : ∃ J1 J2, Cl mX12_isHill [.ref 95, .int x1] (g, I, P) (some (.int 1)) (g, J1, P) ∧ Cl mX12_isLine [.ref 95, .int x2, .int x3] (g, J1, P) (some (.int 1)) (g, J2, P) ∧ MhD J2 (610 + 99 * i) (tH t i) ∧ (∃ l0, MeD J2 l0 ((tL t j).2.1 k) ((tL t j).2.2 k)) ∧ Kf I J2 := by
  obtain ⟨J1, z1, E1, f1, -⟩ := r_isHill S Q W M hp
  obtain ⟨J2, z2, E2, f2, g2⟩ := r_isLine S Q W (f1.Mt M) hl hk
  refine ⟨J1, J2, z1, z2, ?_, ⟨_, E2⟩, f1.tr f2⟩
  obtain ⟨a1, a2, a3, a4, a5⟩ := E1
  refine ⟨a1, (g2 13 (by decide) (by decide)).trans a2, (g2 14 (by decide) (by decide)).trans a3, (g2 15 (by decide) (by decide)).trans a4, ?_⟩
  unfold MhA at a5 ⊢
  rw [f2 96 (by decide)]; exact a5
theorem b_said (L : LI g I P t im) (x1 x2 x3 x4 : Int32) : ∃ (w : Int32) (I1 : Nat → Nat → Int32) (P1 : Nat → Nat → Option Nat) (J : Nat → Nat → Int32), Cl mX11_said [.ref 0, .int x1, .int x2, .int x3, .int x4] (g, I, P) (some (.int w)) (g, I1, P1) ∧ Kp I I1 ∧ KpP P P1 ∧ Cl mX12_said [.ref 95, .int x1, .int x2, .int x3, .int x4] (g, I1, P1) (some (.int w)) (g, J, P1) ∧ Km I1 J := by
  refine u_said L (fun i j k hp hl hk => ?_)
  have L0 := L
  obtain ⟨S, Q0, TW0, -⟩ := L
  obtain ⟨I1, z, kI, kP, E, M1⟩ := hear L0 hp hl hk
  have E0 := E
  obtain ⟨-, Q, -, HW0, -, -, -, e12, -, ef⟩ := E
  obtain ⟨J1, J2, z1, z2, D2, ⟨l0, E2⟩, f2⟩ := hearR S Q TW0 M1 hp hl hk
  have rs := r_saidOf S Q HW0 D2 E2 (fun q hq => by have := (ef q hq).2; omega)
  have ch := c_heard E0
  have cl := c_likely E0
  have rl := r_likely (s := bs (beg (tH t i) ((tL t j).2.2 k) ((tL t j).2.1 k)) (hN (tH t i))) S Q HW0 D2
  generalize bs (beg (tH t i) ((tL t j).2.2 k) ((tL t j).2.1 k)) (hN (tH t i)) = s at rs ch cl rl
  have R : ∀ w : Int32, (x4 = 0 → w = s) → (x4 = 1 → w = oI (bst (tb s) (hO (tH t i)) (hN (tH t i)))) → (¬ x4 = 0 → ¬ x4 = 1 → w = -2) → ∃ (w : Int32) (I1 : Nat → Nat → Int32) (P1 : Nat → Nat → Option Nat) (J : Nat → Nat → Int32), Cl mX11_said [.ref 0, .int x1, .int x2, .int x3, .int x4] (g, I, P) (some (.int w)) (g, I1, P1) ∧ Kp I I1 ∧ KpP P P1 ∧ Cl mX12_said [.ref 95, .int x1, .int x2, .int x3, .int x4] (g, I1, P1) (some (.int w)) (g, J, P1) ∧ Km I1 J := by
    intro w w0 w1 w2
    refine ⟨w, I1, _, J2, ?_, kI, kP, ?_, f2.m⟩
    · refine eX11_said (wX11_said_0 ⟨S.k 0 11 (by decide), 73, Q0.p 0 4 73 (by decide), S.k 0 11 (by decide), 1, Q0.p 0 0 1 (by decide), S.k 1 9 (by decide), _, c_hillY L0 hp, fun q => (nomatch q), fun b hb => ⟨S.k 0 11 (by decide), 1, Q0.p 0 0 1 (by decide), S.k 1 9 (by decide), _, c_linesY L0 hl, fun q => (nomatch q), fun b2 hb2 => ?_⟩⟩)
      cases hb
      cases hb2
      exact ⟨S.k 73 1 (by decide), _, _, _, z, fun _ => ⟨fun q => ⟨S.k 0 11 (by decide), 73, Q.p 0 4 73 (by decide), S.k 73 1 (by decide), _, ch, by rw [w0 q], rfl⟩, fun q => ⟨S.k 0 11 (by decide), 73, Q.p 0 4 73 (by decide), S.k 73 1 (by decide), _, cl, by rw [w1 q], rfl⟩, fun q1 q2 => ⟨by rw [w2 q1 q2], rfl⟩⟩, fun q => absurd q (by decide)⟩
    · refine eX12_said (wX12_said_0 ⟨S.k 95 12 (by decide), _, _, z1, fun q => absurd q (by decide), fun _ => ⟨S.k 95 12 (by decide), _, _, z2, fun q => absurd q (by decide), fun _ => ⟨_, r_isIn, zq (fun q => ⟨S.k 95 12 (by decide), _, rs, fun q2 => ?_, fun q2 => ⟨by rw [w0 q2], rfl⟩⟩) (fun q => ⟨?_, rfl⟩)⟩⟩⟩)
      · have q := of_decide_eq_true q
        obtain ⟨n, -, hn, rfl⟩ := inN (lo := 0) (hi := 1) (by decide) (by decide) q.1 q.2
        rcases (show n = 0 ∨ n = 1 by omega) with rfl | rfl
        · exact absurd rfl q2
        · rw [w1 rfl]; exact rl
      · have q := of_decide_eq_false q
        rw [w2 (fun h => q (by rw [h]; decide)) (fun h => q (by rw [h]; decide))]
  by_cases h0 : x4 = 0
  · exact R s (fun _ => rfl) (fun h => absurd (h0.symm.trans h) (by decide)) (fun h => absurd h0 h)
  · by_cases h1 : x4 = 1
    · exact R _ (fun h => absurd h h0) (fun _ => rfl) (fun _ h => absurd h1 h)
    · exact R (-2) (fun h => absurd h h0) (fun h => absurd h h1) (fun _ _ => rfl)
end SAID
