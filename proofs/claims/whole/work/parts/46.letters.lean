/-! ===== letters behind a line ===== -/
def gw (d : HD) (s : Int32) (n c w : Nat) : Bool := tb s w && decide (n < hZ d w ∧ hL d w n = c)
def gAny (d : HD) (s : Int32) (n c : Nat) : Nat → Bool
  | 0 => false
  | w + 1 => gAny d s n c w || gw d s n c w
def gSum (d : HD) (s : Int32) (n c N : Nat) : Nat := nsum (fun w => if gw d s n c w = true then hO d w else 0) N
theorem nsum_ext {f : Nat → Nat} {n : Nat} : ∀ m, (∀ k, n ≤ k → k < n + m → f k = 0) → nsum f (n + m) = nsum f n := by
  intro m
  induction m with
  | zero => intro _; rfl
  | succ m ih =>
    intro h
    show nsum f (n + m) + f (n + m) = _
    rw [h (n + m) (by omega) (by omega), ih (fun k h1 h2 => h k h1 (by omega)), Nat.add_zero]
theorem gw_f {d : HD} {s : Int32} {n c w : Nat} (h : tb s w = false) : gw d s n c w = false := by unfold gw; rw [h, Bool.false_and]
theorem gw_z {d : HD} {s : Int32} {n c w : Nat} (h : ¬ (n < hZ d w ∧ hL d w n = c)) : gw d s n c w = false := by unfold gw; rw [decide_eq_false h, Bool.and_false]
theorem gw_t {d : HD} {s : Int32} {n c w : Nat} (h : tb s w = true) (h2 : n < hZ d w ∧ hL d w n = c) : gw d s n c w = true := by unfold gw; rw [h, decide_eq_true h2]; rfl
theorem gAny_f {d : HD} {s : Int32} {n c w : Nat} (h : gw d s n c w = false) : gAny d s n c (w + 1) = gAny d s n c w := by
  show (gAny d s n c w || gw d s n c w) = _
  rw [h, Bool.or_false]
theorem gAny_t {d : HD} {s : Int32} {n c w : Nat} (h : gw d s n c w = true) : gAny d s n c (w + 1) = true := by
  show (gAny d s n c w || gw d s n c w) = _
  rw [h, Bool.or_true]
theorem gSum_f {d : HD} {s : Int32} {n c w : Nat} (h : gw d s n c w = false) : gSum d s n c (w + 1) = gSum d s n c w := by
  show gSum d s n c w + (if gw d s n c w = true then hO d w else 0) = _
  rw [if_neg (by rw [h]; decide)]; rfl
theorem gSum_t {d : HD} {s : Int32} {n c w : Nat} (h : gw d s n c w = true) : gSum d s n c (w + 1) = gSum d s n c w + hO d w := by
  show gSum d s n c w + (if gw d s n c w = true then hO d w else 0) = _
  rw [if_pos h]
theorem gAny_ext {d : HD} {s : Int32} {n c N : Nat} : ∀ m, (∀ k, N ≤ k → k < N + m → tb s k = false) → gAny d s n c (N + m) = gAny d s n c N := by
  intro m
  induction m with
  | zero => intro _; rfl
  | succ m ih =>
    intro h
    rw [← Nat.add_assoc, gAny_f (gw_f (h (N + m) (by omega) (by omega)))]
    exact ih (fun k h1 h2 => h k h1 (by omega))
theorem gSum_ext {d : HD} {s : Int32} {n c N : Nat} : ∀ m, (∀ k, N ≤ k → k < N + m → tb s k = false) → gSum d s n c (N + m) = gSum d s n c N := by
  intro m
  induction m with
  | zero => intro _; rfl
  | succ m ih =>
    intro h
    rw [← Nat.add_assoc, gSum_f (gw_f (h (N + m) (by omega) (by omega)))]
    exact ih (fun k h1 h2 => h k h1 (by omega))
theorem gSum_le {d : HD} {s : Int32} {n c : Nat} (W : HW d) : gSum d s n c (hN d) ≤ 990 := by
  have h1 := W.2.1
  have h2 : gSum d s n c (hN d) ≤ hN d * 99 := by
    apply nsum_le
    intro k hk
    have := W.2.2.2.1 k hk
    split
    · exact this
    · omega
  omega
def mst (v : Nat → Nat) : Option Nat → Int32
  | none => 0
  | some b => nI (v b)
section LETT
variable {g : zG} {I : Nat → Nat → Int32} {P : Nat → Nat → Option Nat} {t : TD} {im : Nat → Option TD} {a : Nat} {d : HD}
theorem c_lettersBehind {n : Nat} {f : Nat → Nat} (E : Er g I P a d n f) : Cl mX1_lettersBehind [.ref 73] (g, I, P) (some (.int (bs (fun c => gAny d (bs (beg d f n) (hN d)) n c (hN d)) 6))) (g, I, P) := by
  have E0 := E
  obtain ⟨S, Q, T, W, D, e1, e2, e3, -, e4⟩ := E
  have h10 := W.2.1
  refine eX1_lettersBehind (wX1_lettersBehind_0 ⟨S.k 73 1 (by decide), _, c_heard E0, ?_⟩)
  have out : ∀ w, w < 32 → tb (bs (beg d f n) (hN d)) w = true → w < hN d := fun w hw h => beg_out W hw h
  generalize bs (beg d f n) (hN d) = s at out ⊢
  have key : ∀ m w (B : Int32), w + m = 10 → (∀ k, k < 32 → tb B k = (decide (k < 6) && gAny d s n k w)) → Zt none mX1_lettersBehind 0 0 9 [(0, .ref 73), (1, .int s), (2, .int B), (3, .int (nI w))] [] (g, I, P) (some (.int (bs (fun c => gAny d s n c (hN d)) 6))) (g, I, P) := by
    intro m
    induction m with
    | zero =>
      intro w B hw hB
      obtain rfl : w = 10 := hw
      have e : B = bs (fun c => gAny d s n c (hN d)) 6 := by
        apply tb_ext
        intro k hk
        rw [hB k hk, tb_bs (by decide) hk]
        have := gAny_ext (d := d) (s := s) (n := n) (c := k) (N := hN d) (10 - hN d) (fun k h1 h2 => by
          cases hb : tb s k with
          | false => rfl
          | true => have := out k (by omega) hb; omega)
        rw [show hN d + (10 - hN d) = 10 by omega] at this
        rw [this]
      exact wX1_lettersBehind_9 ⟨fun _ => ⟨by rw [e], rfl⟩, fun q => absurd (by decide) q⟩
    | succ m ih =>
      intro w B hw hB
      refine wX1_lettersBehind_9 ⟨fun q => absurd q (nI_ge (b := 10) (by omega) (by decide)), fun _ => ⟨_, c_has (by omega), zp (fun h => ?_) (fun h => ?_)⟩⟩
      · rw [nI_1]
        exact ih (w + 1) B (by omega) (fun k hk => by rw [gAny_f (gw_f h)]; exact hB k hk)
      · have hwd := out w (by omega) h
        have hz := (W.2.2.1 w hwd).2
        refine ⟨S.k 73 1 (by decide), _, e1, T.1, _, c_sizeOf T W D hwd, S.k 73 1 (by decide), pk_le (hZ d w) n (fun q => ?_) (fun q => ⟨S.k 73 1 (by decide), _, e1, S.k 73 1 (by decide), T.1, _, by rw [e2]; exact c_letterOf T W D hwd q, _, c_bit (by have := W.2.2.2.2 w n hwd q; omega), ?_⟩) rfl e2⟩
        · rw [nI_1]
          exact ih (w + 1) B (by omega) (fun k hk => by rw [gAny_f (gw_z (fun h => by omega))]; exact hB k hk)
        · rw [nI_1]
          have hl := W.2.2.2.2 w n hwd q
          refine ih (w + 1) _ (by omega) (fun k hk => ?_)
          rw [tb_or hk, hB k hk, tb_bit (by omega) hk]
          by_cases hc : k = hL d w n
          · rw [gAny_t (gw_t h ⟨q, hc.symm⟩), decide_eq_true hc, decide_eq_true (show k < 6 by omega)]
            simp
          · rw [gAny_f (gw_z (fun h => hc h.2.symm)), decide_eq_false hc, Bool.or_false]
  exact key 10 0 0 rfl (fun k hk => by rw [tb_0 hk]; show false = (decide (k < 6) && false); rw [Bool.and_false])
theorem c_oftenGoingOn {n c : Nat} {f : Nat → Nat} (E : Er g I P a d n f) (hc : c < 6) : Cl mX1_oftenGoingOn [.ref 73, .int (nI c)] (g, I, P) (some (.int (nI (gSum d (bs (beg d f n) (hN d)) n c (hN d))))) (g, I, P) := by
  have E0 := E
  obtain ⟨S, Q, T, W, D, e1, e2, e3, -, e4⟩ := E
  have h10 := W.2.1
  refine eX1_oftenGoingOn (wX1_oftenGoingOn_0 ⟨S.k 73 1 (by decide), _, c_heard E0, ?_⟩)
  have out : ∀ w, w < 32 → tb (bs (beg d f n) (hN d)) w = true → w < hN d := fun w hw h => beg_out W hw h
  generalize bs (beg d f n) (hN d) = s at out ⊢
  have e10 := gSum_ext (d := d) (s := s) (n := n) (c := c) (N := hN d) (10 - hN d) (fun k h1 h2 => by
    cases hb : tb s k with
    | false => rfl
    | true => have := out k (by omega) hb; omega)
  rw [show hN d + (10 - hN d) = 10 by omega] at e10
  rw [← e10]
  have key : ∀ m w, w + m = 10 → Zt none mX1_oftenGoingOn 0 0 10 [(0, .ref 73), (1, .int (nI c)), (2, .int s), (3, .int (nI (gSum d s n c w))), (4, .int (nI w))] [] (g, I, P) (some (.int (nI (gSum d s n c 10)))) (g, I, P) := by
    intro m
    induction m with
    | zero =>
      intro w hw
      obtain rfl : w = 10 := hw
      exact wX1_oftenGoingOn_10 ⟨fun _ => ⟨rfl, rfl⟩, fun q => absurd (by decide) q⟩
    | succ m ih =>
      intro w hw
      have ih := ih (w + 1) (by omega)
      have no : gw d s n c w = false → Zt none mX1_oftenGoingOn 0 0 10 [(0, .ref 73), (1, .int (nI c)), (2, .int s), (3, .int (nI (gSum d s n c w))), (4, .int (nI w + 1))] [] (g, I, P) (some (.int (nI (gSum d s n c 10)))) (g, I, P) := by
        intro h
        rw [gSum_f h] at ih
        rw [nI_1]; exact ih
      refine wX1_oftenGoingOn_10 ⟨fun q => absurd q (nI_ge (b := 10) (by omega) (by decide)), fun _ => ⟨_, c_has (by omega), zp (fun h => no (gw_f h)) (fun h => ?_)⟩⟩
      have hwd := out w (by omega) h
      have hz := (W.2.2.1 w hwd).2
      refine ⟨S.k 73 1 (by decide), _, e1, T.1, _, c_sizeOf T W D hwd, S.k 73 1 (by decide), pk_le (hZ d w) n (fun q => no (gw_z (fun h => by omega))) (fun q => ⟨S.k 73 1 (by decide), _, e1, S.k 73 1 (by decide), T.1, _, by rw [e2]; exact c_letterOf T W D hwd q, ?_⟩) rfl e2⟩
      have hl := W.2.2.2.2 w n hwd q
      refine pq_eq (hL d w n) c (fun h2 => no (gw_z (fun h => h2 h.2))) (fun h2 => ⟨S.k 73 1 (by decide), _, e1, T.1, _, c_oftenOf T W D hwd, ?_⟩)
      rw [gSum_t (gw_t h ⟨q, h2⟩)] at ih
      rw [nI_1, nI_add]; exact ih
  exact key 10 0 rfl
theorem c_keenest {n : Nat} {f : Nat → Nat} (E : Er g I P a d n f) : Cl mX1_keenest [.ref 73] (g, I, P) (some (.int (oI (bst (fun c => gAny d (bs (beg d f n) (hN d)) n c (hN d)) (fun c => gSum d (bs (beg d f n) (hN d)) n c (hN d)) 6)))) (g, I, P) := by
  have E0 := E
  obtain ⟨S, Q, T, W, D, e1, e2, e3, -, e4⟩ := E
  refine eX1_keenest (wX1_keenest_0 ⟨S.k 73 1 (by decide), _, c_lettersBehind E0, ?_⟩)
  have of : ∀ c, c < 6 → Cl mX1_oftenGoingOn [.ref 73, .int (nI c)] (g, I, P) (some (.int (nI (gSum d (bs (beg d f n) (hN d)) n c (hN d))))) (g, I, P) := fun c hc => c_oftenGoingOn E0 hc
  generalize bs (beg d f n) (hN d) = s at of ⊢
  have key : ∀ m c, c + m = 6 → Zt none mX1_keenest 0 0 12 [(0, .ref 73), (1, .int (bs (fun c => gAny d s n c (hN d)) 6)), (2, .int (oI (bst (fun c => gAny d s n c (hN d)) (fun c => gSum d s n c (hN d)) c))), (3, .int (mst (fun c => gSum d s n c (hN d)) (bst (fun c => gAny d s n c (hN d)) (fun c => gSum d s n c (hN d)) c))), (4, .int (nI c))] [] (g, I, P) (some (.int (oI (bst (fun c => gAny d s n c (hN d)) (fun c => gSum d s n c (hN d)) 6)))) (g, I, P) := by
    intro m
    induction m with
    | zero =>
      intro c hc
      obtain rfl : c = 6 := hc
      exact wX1_keenest_12 ⟨fun _ => ⟨rfl, rfl⟩, fun q => absurd (by decide) q⟩
    | succ m ih =>
      intro c hc
      have ih := ih (c + 1) (by omega)
      refine wX1_keenest_12 ⟨fun q => absurd q (nI_ge (b := 6) (by omega) (by decide)), fun _ => ⟨_, c_has (by omega), zp (fun h => ?_) (fun h => ⟨S.k 73 1 (by decide), _, of c (by omega), ?_⟩)⟩⟩
      · rw [tb_bs (by decide) (by omega), decide_eq_true (show c < 6 by omega), Bool.true_and] at h
        rw [bst_f (p := fun c => gAny d s n c (hN d)) h] at ih
        exact wX1_keenest_38 ⟨fun _ => by rw [nI_1]; exact ih, fun q => absurd rfl q⟩
      · rw [tb_bs (by decide) (by omega), decide_eq_true (show c < 6 by omega), Bool.true_and] at h
        rw [bst_t (p := fun c => gAny d s n c (hN d)) h] at ih
        have b1 := gSum_le (s := s) (n := n) (c := c) W
        refine wX1_keenest_38 ⟨fun q => absurd q (nI_m1' (by omega)), fun _ => ?_⟩
        rw [nI_1]
        cases hb : bst (fun c => gAny d s n c (hN d)) (fun c => gSum d s n c (hN d)) c with
        | none => rw [hb] at ih; exact ⟨fun _ => ih, fun q => absurd rfl q⟩
        | some b =>
          have := (bst_lt c b hb).1
          have b2 := gSum_le (s := s) (n := n) (c := b) W
          rw [hb] at ih
          simp only at ih
          refine ⟨fun q => absurd q (nI_m1' (by omega)), fun _ => pk_le (gSum d s n c (hN d)) (gSum d s n b (hN d)) (fun q => ?_) (fun q => ?_)⟩
          · rw [if_pos q] at ih; exact ih
          · rw [if_neg (by omega)] at ih; exact ih
  exact key 6 0 rfl
theorem r_letters {n h0 l0 : Nat} {f : Nat → Nat} {y : Int32} (S : Sg g) (Q : Sp P) (W : HW d) (D : MhD I h0 d) (E : MeD I l0 n f) (hn : n ≤ 12) : Zt none mX12_next 0 0 59 [(0, .ref 95), (4, .int y), (5, .int (bs (beg d f n) (hN d))), (6, .int 0), (7, .int (-1)), (8, .int 0), (9, .int 0)] [] (g, I, P) (some (.int (if y = 0 then bs (fun c => gAny d (bs (beg d f n) (hN d)) n c (hN d)) 6 else oI (bst (fun c => gAny d (bs (beg d f n) (hN d)) n c (hN d)) (fun c => gSum d (bs (beg d f n) (hN d)) n c (hN d)) 6)))) (g, I, P) := by
  have h10 := W.2.1
  have ge : ∀ w, w < hN d → tb (bs (beg d f n) (hN d)) w = true → n ≤ hZ d w := fun w hw h => beg_le W hw h
  generalize bs (beg d f n) (hN d) = s at ge ⊢
  generalize hR : (if y = 0 then bs (fun c => gAny d s n c (hN d)) 6 else oI (bst (fun c => gAny d s n c (hN d)) (fun c => gSum d s n c (hN d)) 6)) = R
  have key : ∀ m c, c + m = 6 → Zt none mX12_next 0 0 59 [(0, .ref 95), (4, .int y), (5, .int s), (6, .int (bs (fun c => gAny d s n c (hN d)) c)), (7, .int (oI (bst (fun c => gAny d s n c (hN d)) (fun c => gSum d s n c (hN d)) c))), (8, .int (mst (fun c => gSum d s n c (hN d)) (bst (fun c => gAny d s n c (hN d)) (fun c => gSum d s n c (hN d)) c))), (9, .int (nI c))] [] (g, I, P) (some (.int R)) (g, I, P) := by
    intro m
    induction m with
    | zero =>
      intro c hc
      obtain rfl : c = 6 := hc
      exact wX12_next_59 ⟨fun _ => ⟨fun q => ⟨by rw [← hR, if_neg q], rfl⟩, fun q => ⟨by rw [← hR, if_pos q], rfl⟩⟩, fun q => absurd (by decide) q⟩
    | succ m ih =>
      intro c hc
      have ih := ih (c + 1) (by omega)
      have b1 := gSum_le (s := s) (n := n) (c := c) W
      have fin : ∀ A, A = gAny d s n c (hN d) → ∀ u, u = bs (fun c => gAny d s n c (hN d)) (c + 1) → ∀ v0 v1 : Int32, v0 ||| v1 = u → Zt none mX12_next 0 0 160 [(0, .ref 95), (4, .int y), (5, .int s), (7, .int (oI (bst (fun c => gAny d s n c (hN d)) (fun c => gSum d s n c (hN d)) c))), (8, .int (mst (fun c => gSum d s n c (hN d)) (bst (fun c => gAny d s n c (hN d)) (fun c => gSum d s n c (hN d)) c))), (9, .int (nI c)), (10, .int (nI (gSum d s n c (hN d)))), (11, .int (zb A))] [.int v1, .int v0] (g, I, P) (some (.int R)) (g, I, P) := by
        rintro A hA u rfl v0 v1 hv
        refine wX12_next_160 (zp (fun h => ?_) (fun h => ?_))
        · have h : gAny d s n c (hN d) = false := hA.symm.trans h
          rw [bst_f (p := fun c => gAny d s n c (hN d)) h] at ih
          rw [nI_1, hv]; exact ih
        · have h : gAny d s n c (hN d) = true := hA.symm.trans h
          rw [bst_t (p := fun c => gAny d s n c (hN d)) h] at ih
          rw [nI_1, hv]
          cases hb : bst (fun c => gAny d s n c (hN d)) (fun c => gSum d s n c (hN d)) c with
          | none => rw [hb] at ih; exact ⟨fun _ => ih, fun q => absurd rfl q⟩
          | some b =>
            have := (bst_lt c b hb).1
            have b2 := gSum_le (s := s) (n := n) (c := b) W
            rw [hb] at ih
            simp only at ih
            refine ⟨fun q => absurd q (nI_m1' (by omega)), fun _ => pk_lt (gSum d s n b (hN d)) (gSum d s n c (hN d)) (fun q => ?_) (fun q => ?_)⟩
            · rw [if_neg (by omega)] at ih; exact ih
            · rw [if_pos q] at ih; exact ih
      have inner : ∀ m w, w + m = hN d → Zt none mX12_next 0 0 75 [(0, .ref 95), (4, .int y), (5, .int s), (6, .int (bs (fun c => gAny d s n c (hN d)) c)), (7, .int (oI (bst (fun c => gAny d s n c (hN d)) (fun c => gSum d s n c (hN d)) c))), (8, .int (mst (fun c => gSum d s n c (hN d)) (bst (fun c => gAny d s n c (hN d)) (fun c => gSum d s n c (hN d)) c))), (9, .int (nI c)), (10, .int (nI (gSum d s n c w))), (11, .int (zb (gAny d s n c w))), (12, .int (nI w))] [] (g, I, P) (some (.int R)) (g, I, P) := by
        intro m
        induction m with
        | zero =>
          intro w hw
          obtain rfl : w = hN d := hw
          refine wX12_next_75 ⟨S.k 95 12 (by decide), fun _ => zp (fun h => fin _ rfl _ rfl _ _ ?_) (fun h => fin _ rfl _ rfl _ _ ?_), fun q => absurd (by rw [D.2.2.2.1]; exact Int32.le_refl _) q⟩
          · rw [bs_f (p := fun c => gAny d s n c (hN d)) h, or_z]
          · rw [bs_t (p := fun c => gAny d s n c (hN d)) h]
        | succ m ihw =>
          intro w hw
          have ihw := ihw (w + 1) (by omega)
          have no : gw d s n c w = false → Zt none mX12_next 0 0 75 [(0, .ref 95), (4, .int y), (5, .int s), (6, .int (bs (fun c => gAny d s n c (hN d)) c)), (7, .int (oI (bst (fun c => gAny d s n c (hN d)) (fun c => gSum d s n c (hN d)) c))), (8, .int (mst (fun c => gSum d s n c (hN d)) (bst (fun c => gAny d s n c (hN d)) (fun c => gSum d s n c (hN d)) c))), (9, .int (nI c)), (10, .int (nI (gSum d s n c w))), (11, .int (zb (gAny d s n c w))), (12, .int (nI w + 1))] [] (g, I, P) (some (.int R)) (g, I, P) := by
            intro h
            rw [gSum_f h, gAny_f h] at ihw
            rw [nI_1]; exact ihw
          refine wX12_next_75 ⟨S.k 95 12 (by decide), fun q => ?_, fun _ => ⟨_, r_holds, zp (fun h => no (gw_f h)) (fun h => ?_)⟩⟩
          · rw [D.2.2.2.1] at q
            exact absurd q (nI_ge (by omega) (by omega))
          · have hz := (W.2.2.1 w (by omega)).2
            have hg := ge w (by omega) h
            refine ⟨S.k 95 12 (by decide), _, r_longOf S Q W D (by omega), S.k 95 12 (by decide), pk_eq (hZ d w) n (fun q => no (gw_z (fun h => by omega))) (fun q => ?_) rfl E.2.2.1⟩
            have hl := W.2.2.2.2 w n (by omega) (by omega)
            refine ⟨S.k 95 12 (by decide), S.k 95 12 (by decide), _, by rw [E.2.2.1]; exact r_letterOf S Q W D (by omega) (by omega), pk_eq (hL d w n) c (fun h2 => ⟨S.k 95 12 (by decide), _, r_oftenOf S Q W D (by omega), ?_⟩) (fun h2 => no (gw_z (fun h => h2 h.2)))⟩
            rw [gSum_t (gw_t h ⟨by omega, h2⟩), gAny_t (gw_t h ⟨by omega, h2⟩)] at ihw
            rw [nI_1, nI_add]; exact ihw
      exact wX12_next_59 ⟨fun q => absurd q (nI_ge (b := 6) (by omega) (by decide)), fun _ => inner (hN d) 0 (by omega)⟩
  exact key 6 0 rfl
end LETT
