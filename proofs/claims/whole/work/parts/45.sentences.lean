/-! ===== fill, copies, sentences ===== -/
theorem zsum_ext {f : Nat → Int32} {n : Nat} : ∀ m, (∀ k, n ≤ k → k < n + m → f k = 0) → zsum f (n + m) = zsum f n := by
  intro m
  induction m with
  | zero => intro _; rfl
  | succ m ih =>
    intro h
    show zsum f (n + m) + f (n + m) = _
    rw [h (n + m) (by omega) (by omega), ih (fun k h1 h2 => h k h1 (by omega)), Int32.add_zero]
theorem zsum_congr {f h : Nat → Int32} : ∀ n, (∀ k, k < n → f k = h k) → zsum f n = zsum h n := by
  intro n
  induction n with
  | zero => intro _; rfl
  | succ n ih =>
    intro e
    show zsum f n + f n = zsum h n + h n
    rw [ih (fun k hk => e k (by omega)), e n (by omega)]
theorem zCp_in {I : Nat → Nat → Int32} {a b n k : Nat} (h : k < n) : zCp I a 0 b 0 n b k = I a k := by
  unfold zCp va_cpy
  rw [if_pos rfl, if_pos (by omega)]
  simp
theorem zCp_out {I : Nat → Nat → Int32} {a b n c : Nat} (h : c ≠ b) : zCp I a 0 b 0 n c = I c := by
  funext k
  unfold zCp
  rw [if_neg h]
/-- words that may come behind what is ahead: 0 nothing, w + 1 the word w -/
def hBw (d : HD) : Nat → Int32
  | 0 => hAll d
  | w + 1 => hBeh d w
/-- rows of so many words behind what is ahead -/
def swy (d : HD) : Nat → Nat → Int32
  | 0, _ => 1
  | k + 1, a => zsum (fun v => if tb (hBw d a) v = true then swy d k (v + 1) else 0) (hN d)
section SENT
variable {g : zG} {I : Nat → Nat → Int32} {P : Nat → Nat → Option Nat} {t : TD} {im : Nat → Option TD} {a : Nat} {d : HD}
theorem hBw_in {b k : Nat} (W : HW d) (X : HX d) (hb : b ≤ hN d) (hk : k < 31) (h : tb (hBw d b) k = true) : k < hN d := by
  cases b with
  | zero =>
    have h : tb (hAll d) k = true := h
    rw [tb_all W (by omega)] at h
    exact of_decide_eq_true h
  | succ w => exact hBeh_lt W X (by omega) hk h
theorem c_fill {n : Nat} {x : Int32} (hk : zk g a 13) (hl : g.2.2 a = n) (hn : n < 2 ^ 31) : ∃ J, Cl mJ7_fill_53178 [.ref a, .int x] (g, I, P) none (g, J, P) ∧ (∀ k, k < n → J a k = x) ∧ ∀ c, c ≠ a → J c = I c := by
  have key : ∀ m k (K : Nat → Nat → Int32), k + m = n → (∀ j, j < k → K a j = x) → (∀ c, c ≠ a → K c = I c) → ∃ J, Zt none mJ7_fill_53178 0 0 5 [(0, .ref a), (1, .int x), (2, .int (nI k)), (3, .int (nI n))] [] (g, K, P) none (g, J, P) ∧ (∀ k, k < n → J a k = x) ∧ ∀ c, c ≠ a → J c = I c := by
    intro m
    induction m with
    | zero =>
      intro k K hkm h1 h2
      obtain rfl : k = n := hkm
      exact ⟨K, wJ7_fill_53178_5 ⟨fun _ => ⟨rfl, rfl⟩, fun q => absurd (Int32.le_refl _) q⟩, h1, h2⟩
    | succ m ih =>
      intro k K hkm h1 h2
      obtain ⟨v1, v2⟩ := ix (x := nI k) (k := k) (N := n) rfl (by omega) hn
      obtain ⟨J, z, z2⟩ := ih (k + 1) (zU K a k x) (by omega) (fun j hj => by
        by_cases hjk : j = k
        · subst hjk; rw [zU_s]
        · rw [zU_k _ _ hjk]; exact h1 j (by omega)) (fun c hc => by funext j; rw [zU_a _ _ hc, h2 c hc])
      exact ⟨J, wJ7_fill_53178_5 ⟨fun q => absurd q (nI_ge (by omega) (by omega)), fun _ => ⟨hk, by rw [hl]; exact v1, by rw [v2, nI_1]; exact z⟩⟩, z2⟩
  obtain ⟨J, z, z2⟩ := key n 0 I (by omega) (fun j hj => by omega) (fun _ _ => rfl)
  exact ⟨J, eJ7_fill_53178 (wJ7_fill_53178_0 ⟨hk, by rw [hl]; exact z⟩), z2⟩
theorem MhD.keep {J : Nat → Nat → Int32} {h0 : Nat} (D : MhD I h0 d) (h5 : J 95 = I 95) (h6 : J 96 = I 96) : MhD J h0 d := by
  unfold MhD MhA
  rw [h5, h6]
  exact D
theorem r_behindA {h0 b : Nat} (S : Sg g) (Q : Sp P) (W : HW d) (D : MhD I h0 d) (hb : b ≤ hN d) : Cl mX12_behind [.ref 95, .int (nI b - 1)] (g, I, P) (some (.int (hBw d b))) (g, I, P) := by
  cases b with
  | zero => exact r_behind0 S D
  | succ w =>
    rw [show nI (w + 1) - 1 = nI w from pk_sub (b := 1) (by omega)]
    exact r_behind S Q W D (by omega)
theorem c_sumOf {s : Int32} {r : Nat → Int32} (S : Sg g) (Q : Sp P) (W : HW d) (hs : ∀ w, w < 10 → tb s w = true → w < hN d) (hr : ∀ w, w < hN d → I 84 w = r w) : Cl mX10_sumOf [.ref 83, .int s] (g, I, P) (some (.int (zsum (fun v => if tb s v = true then r v else 0) (hN d)))) (g, I, P) := by
  have h10 := W.2.1
  have e10 : zsum (fun v => if tb s v = true then r v else 0) 10 = zsum (fun v => if tb s v = true then r v else 0) (hN d) := by
    have := zsum_ext (f := fun v => if tb s v = true then r v else 0) (n := hN d) (10 - hN d) (fun k h1 h2 => if_neg (fun h => by have := hs k (by omega) h; omega))
    rw [show hN d + (10 - hN d) = 10 by omega] at this
    exact this
  rw [← e10]
  have key : ∀ m w, w + m = 10 → Zt none mX10_sumOf 0 0 4 [(0, .ref 83), (1, .int s), (2, .int (zsum (fun v => if tb s v = true then r v else 0) w)), (3, .int (nI w))] [] (g, I, P) (some (.int (zsum (fun v => if tb s v = true then r v else 0) 10))) (g, I, P) := by
    intro m
    induction m with
    | zero =>
      intro w hw
      obtain rfl : w = 10 := hw
      exact wX10_sumOf_4 ⟨fun _ => ⟨rfl, rfl⟩, fun q => absurd (by decide) q⟩
    | succ m ih =>
      intro w hw
      have ih := ih (w + 1) (by omega)
      simp only [zsum] at ih
      refine wX10_sumOf_4 ⟨fun q => absurd q (nI_ge (b := 10) (by omega) (by decide)), fun _ => ⟨_, c_has (by omega), zp (fun h => ?_) (fun h => ⟨S.k 83 10 (by decide), 84, Q.p 83 0 84 (by decide), _, c_got (S.k 84 13 (by decide)) (S.l 84 10 (by decide)) (by decide) (by omega), ?_⟩)⟩⟩
      · rw [if_neg (by rw [h]; decide), Int32.add_zero] at ih
        rw [nI_1]; exact ih
      · rw [if_pos h] at ih
        rw [nI_1, hr w (hs w (by omega) h)]; exact ih
  exact eX10_sumOf (wX10_sumOf_0 (key 10 0 rfl))
theorem c_rowsOf {n : Nat} (S : Sg g) (Q : Sp P) (T : HlS g P a) (W : HW d) (X : HX d) (D : HlD I a d) (ha : a + 5 < 41) (hn : n ≤ 6) : ∃ J, Cl mX10_rowsOf [.ref 83, .ref a, .int (nI n)] (g, I, P) (some (.int (swy d n 0))) (g, J, P) ∧ Kp I J := by
  have h10 := W.2.1
  cases n with
  | zero => exact ⟨I, eX10_rowsOf (wX10_rowsOf_0 ⟨fun q => absurd rfl q, fun _ => ⟨rfl, rfl⟩⟩), Kp.rf I⟩
  | succ n =>
    have key : ∀ m k (K : Nat → Nat → Int32), k + m = n → Kp I K → (∀ w, w < hN d → K 84 w = swy d k (w + 1)) → ∃ J, Zt none mX10_rowsOf 0 0 16 [(0, .ref 83), (1, .ref a), (2, .int (nI (n + 1))), (3, .int (nI (k + 2)))] [] (g, K, P) (some (.int (swy d (n + 1) 0))) (g, J, P) ∧ Kp I J := by
      intro m
      induction m with
      | zero =>
        intro k K hk hK hr
        obtain rfl : k = n := hk
        have D2 : HlD K a d := D.keep (fun j hj => hK _ (by omega))
        exact ⟨K, wX10_rowsOf_16 ⟨fun _ => ⟨T.1, _, c_all T D2, S.k 83 10 (by decide), _, c_sumOf S Q W (fun w hw h => by rw [tb_all W (by omega)] at h; exact of_decide_eq_true h) hr, rfl, rfl⟩, fun q => absurd (nI_lt (by omega) (by omega)) q⟩, hK⟩
      | succ m ih =>
        intro k K hk hK hr
        have inner : ∀ m w (K : Nat → Nat → Int32), w + m = hN d → Kp I K → (∀ w, w < hN d → K 84 w = swy d k (w + 1)) → (∀ v, v < w → K 85 v = swy d (k + 1) (v + 1)) → ∃ J, Zt none mX10_rowsOf 0 0 24 [(0, .ref 83), (1, .ref a), (2, .int (nI (n + 1))), (3, .int (nI (k + 2))), (4, .int (nI w))] [] (g, K, P) (some (.int (swy d (n + 1) 0))) (g, J, P) ∧ Kp I J := by
          intro m
          induction m with
          | zero =>
            intro w K hw hK hr h5
            obtain rfl : w = hN d := hw
            have D2 : HlD K a d := D.keep (fun j hj => hK _ (by omega))
            obtain ⟨J, z, z2⟩ := ih (k + 1) (zCp K 85 0 84 0 10) (by omega) (fun c hc => by rw [zCp_out (by omega)]; exact hK c hc) (fun w hw => by rw [zCp_in (by omega)]; exact h5 w hw)
            exact ⟨J, wX10_rowsOf_24 ⟨T.1, fun _ => ⟨S.k 83 10 (by decide), 85, Q.p 83 1 85 (by decide), S.k 83 10 (by decide), 84, Q.p 83 0 84 (by decide), _, c_copyRow (S.k 85 13 (by decide)) (S.k 84 13 (by decide)) (S.l 85 10 (by decide)) (S.l 84 10 (by decide)) (by decide), by rw [nI_1]; exact z⟩, fun q => absurd (by rw [D2.2.1]; exact Int32.le_refl _) q⟩, z2⟩
          | succ m ihw =>
            intro w K hw hK hr h5
            have D2 : HlD K a d := D.keep (fun j hj => hK _ (by omega))
            obtain ⟨J, z, z2⟩ := ihw (w + 1) (zU K 85 w (swy d (k + 1) (w + 1))) (by omega) (hK.tr (fun c hc => by funext j; rw [zU_a _ _ (by omega)])) (fun v hv => by rw [zU_a _ _ (by decide)]; exact hr v hv) (fun v hv => by
              by_cases hvw : v = w
              · subst hvw; rw [zU_s]
              · rw [zU_k _ _ hvw]; exact h5 v (by omega))
            refine ⟨J, wX10_rowsOf_24 ⟨T.1, fun q => ?_, fun _ => ⟨S.k 83 10 (by decide), 85, Q.p 83 1 85 (by decide), T.1, _, c_behind T W D2 (by omega), S.k 83 10 (by decide), _, c_sumOf S Q W (fun v hv h => hBeh_lt W X (by omega) (by omega) h) hr, _, c_put (S.k 85 13 (by decide)) (S.l 85 10 (by decide)) (by decide) (by omega), by rw [nI_1]; exact z⟩⟩, z2⟩
            rw [D2.2.1] at q
            exact absurd q (nI_ge (by omega) (by omega))
        obtain ⟨J, z, z2⟩ := inner (hN d) 0 K (by omega) hK hr (fun v hv => by omega)
        exact ⟨J, wX10_rowsOf_16 ⟨fun q => absurd q (nI_nlt (by omega) (by omega)), fun _ => z⟩, z2⟩
    obtain ⟨I1, f1, f2, f3⟩ := c_fill (I := I) (P := P) (x := 1) (S.k 84 13 (by decide)) (S.l 84 10 (by decide)) (by decide)
    obtain ⟨J, z, z2⟩ := key n 0 I1 (by omega) (fun c hc => f3 c (by omega)) (fun w hw => f2 w (by omega))
    exact ⟨J, eX10_rowsOf (wX10_rowsOf_0 ⟨fun _ => ⟨S.k 83 10 (by decide), 84, Q.p 83 0 84 (by decide), _, f1, z⟩, fun q => absurd ((nI_eq (b := 0) (by omega) (by decide)).mp q) (by omega)⟩), z2⟩
/-- only the reference's ways are changed -/
def Kw (I J : Nat → Nat → Int32) : Prop := ∀ c, c ≠ 107 → J c = I c
theorem Kw.rf (I : Nat → Nat → Int32) : Kw I I := fun _ _ => rfl
theorem Kw.m {I J : Nat → Nat → Int32} (h : Kw I J) : Km I J := fun c hc => h c (by omega)
theorem Kw.u {I J : Nat → Nat → Int32} (h : Kw I J) (k : Nat) (x : Int32) : Kw I (zU J 107 k x) := fun c hc => by funext j; rw [zU_a _ _ hc, h c hc]
theorem Kw.h {I J : Nat → Nat → Int32} {h0 : Nat} (h : Kw I J) (D : MhD I h0 d) : MhD J h0 d := D.keep (h 95 (by decide)) (h 96 (by decide))
theorem Kw.e {I J : Nat → Nat → Int32} {l0 n : Nat} {f : Nat → Nat} (h : Kw I J) (E : MeD I l0 n f) : MeD J l0 n f := by
  unfold MeD
  rw [h 95 (by decide), h 96 (by decide)]
  exact E
theorem r_sentences {h0 n : Nat} (S : Sg g) (Q : Sp P) (W : HW d) (D : MhD I h0 d) (hn : n ≤ 6) : ∃ J, Zt none mX12_sentences 0 0 22 [(0, .ref 95), (2, .int (nI n)), (3, .int 0)] [] (g, I, P) (some (.int (swy d n 0))) (g, J, P) ∧ Kw I J := by
  have h10 := W.2.1
  have step : ∀ m k (K : Nat → Nat → Int32), k + m = n → Kw I K → (∀ x, x ≤ hN d → K 107 x = swy d k x) → ∃ J, Zt none mX12_sentences 0 0 45 [(0, .ref 95), (2, .int (nI n)), (3, .int (nI k))] [] (g, K, P) (some (.int (swy d n 0))) (g, J, P) ∧ Kw I J := by
    intro m
    induction m with
    | zero =>
      intro k K hk hK hr
      obtain rfl : k = n := hk
      refine ⟨K, wX12_sentences_45 ⟨fun _ => ⟨S.k 95 12 (by decide), 107, Q.p 95 28 107 (by decide), S.k 107 13 (by decide), by rw [S.l 107 143 (by decide)]; exact (ix (x := 0) (k := 0) (N := 143) rfl (by decide) (by decide)).1, ?_, rfl⟩, fun q => absurd (Int32.le_refl _) q⟩, hK⟩
      rw [show (0 : Int32).toNatClampNeg = 0 from rfl, hr 0 (by omega)]
    | succ m ih =>
      intro k K hk hK hr
      have copy : ∀ m b (K : Nat → Nat → Int32), b + m = hN d + 1 → Kw I K → (∀ x, x ≤ hN d → K 107 (20 + x) = swy d (k + 1) x) → (∀ x, x < b → K 107 x = swy d (k + 1) x) → ∃ J, Zt none mX12_sentences 0 0 138 [(0, .ref 95), (2, .int (nI n)), (3, .int (nI k)), (4, .int (nI b))] [] (g, K, P) (some (.int (swy d n 0))) (g, J, P) ∧ Kw I J := by
        intro m
        induction m with
        | zero =>
          intro b K hb hK h1 h2
          obtain rfl : b = hN d + 1 := hb
          obtain ⟨J, z, z2⟩ := ih (k + 1) K (by omega) hK (fun x hx => h2 x (by omega))
          exact ⟨J, wX12_sentences_138 ⟨S.k 95 12 (by decide), fun _ => by rw [nI_1]; exact z, fun q => absurd (by rw [(hK.h D).2.2.2.1]; exact nI_lt (by omega) (by omega)) q⟩, z2⟩
        | succ m ihb =>
          intro b K hb hK h1 h2
          obtain ⟨v1, v2⟩ := ix (x := nI b) (k := b) (N := 143) rfl (by omega) (by decide)
          obtain ⟨u1, u2⟩ := ix (x := 20 + nI b) (k := 20 + b) (N := 143) (by show nI 20 + nI b = _; rw [nI_add]) (by omega) (by decide)
          obtain ⟨J, z, z2⟩ := ihb (b + 1) (zU K 107 b (swy d (k + 1) b)) (by omega) (hK.u _ _) (fun x hx => by rw [zU_k _ _ (by omega)]; exact h1 x hx) (fun x hx => by
            by_cases hxb : x = b
            · subst hxb; rw [zU_s]
            · rw [zU_k _ _ hxb]; exact h2 x (by omega))
          refine ⟨J, wX12_sentences_138 ⟨S.k 95 12 (by decide), fun q => ?_, fun _ => ⟨S.k 95 12 (by decide), 107, Q.p 95 28 107 (by decide), S.k 95 12 (by decide), 107, Q.p 95 28 107 (by decide), S.k 107 13 (by decide), by rw [S.l 107 143 (by decide)]; exact u1, S.k 107 13 (by decide), by rw [S.l 107 143 (by decide)]; exact v1, by rw [v2, u2, h1 b (by omega), nI_1]; exact z⟩⟩, z2⟩
          rw [(hK.h D).2.2.2.1] at q
          exact absurd q (nI_nlt (by omega) (by omega))
      have mid : ∀ m b (K : Nat → Nat → Int32), b + m = hN d + 1 → Kw I K → (∀ x, x ≤ hN d → K 107 x = swy d k x) → (∀ x, x < b → K 107 (20 + x) = swy d (k + 1) x) → ∃ J, Zt none mX12_sentences 0 0 53 [(0, .ref 95), (2, .int (nI n)), (3, .int (nI k)), (4, .int (nI b))] [] (g, K, P) (some (.int (swy d n 0))) (g, J, P) ∧ Kw I J := by
        intro m
        induction m with
        | zero =>
          intro b K hb hK h1 h2
          obtain rfl : b = hN d + 1 := hb
          obtain ⟨J, z, z2⟩ := copy (hN d + 1) 0 K (by omega) hK (fun x hx => h2 x (by omega)) (fun x hx => by omega)
          exact ⟨J, wX12_sentences_53 ⟨S.k 95 12 (by decide), fun _ => z, fun q => absurd (by rw [(hK.h D).2.2.2.1]; exact nI_lt (by omega) (by omega)) q⟩, z2⟩
        | succ m ihb =>
          intro b K hb hK h1 h2
          obtain ⟨u1, u2⟩ := ix (x := 20 + nI b) (k := 20 + b) (N := 143) (by show nI 20 + nI b = _; rw [nI_add]) (by omega) (by decide)
          obtain ⟨J, z, z2⟩ := ihb (b + 1) (zU K 107 (20 + b) (swy d (k + 1) b)) (by omega) (hK.u _ _) (fun x hx => by rw [zU_k _ _ (by omega)]; exact h1 x hx) (fun x hx => by
            by_cases hxb : x = b
            · subst hxb; rw [zU_s]
            · rw [zU_k _ _ (by omega)]; exact h2 x (by omega))
          have inner : ∀ m w, w + m = hN d → Zt none mX12_sentences 0 0 68 [(0, .ref 95), (2, .int (nI n)), (3, .int (nI k)), (4, .int (nI b)), (5, .int (zsum (fun v => if tb (hBw d b) v = true then swy d k (v + 1) else 0) w)), (6, .int (nI w))] [] (g, K, P) (some (.int (swy d n 0))) (g, J, P) := by
            intro m
            induction m with
            | zero =>
              intro w hw
              obtain rfl : w = hN d := hw
              exact wX12_sentences_68 ⟨S.k 95 12 (by decide), fun _ => ⟨S.k 95 12 (by decide), 107, Q.p 95 28 107 (by decide), S.k 107 13 (by decide), by rw [S.l 107 143 (by decide)]; exact u1, by rw [u2, nI_1]; exact z⟩, fun q => absurd (by rw [(hK.h D).2.2.2.1]; exact Int32.le_refl _) q⟩
            | succ m ihw =>
              intro w hw
              have ihw := ihw (w + 1) (by omega)
              simp only [zsum] at ihw
              obtain ⟨v1, v2⟩ := ix (x := nI w + 1) (k := w + 1) (N := 143) (by rw [nI_1]) (by omega) (by decide)
              refine wX12_sentences_68 ⟨S.k 95 12 (by decide), fun q => ?_, fun _ => ⟨S.k 95 12 (by decide), _, r_behindA S Q W (hK.h D) (by omega), _, r_holds, zp (fun h => ?_) (fun h => ⟨S.k 95 12 (by decide), 107, Q.p 95 28 107 (by decide), S.k 107 13 (by decide), by rw [S.l 107 143 (by decide)]; exact v1, fun y hy => ?_⟩)⟩⟩
              · rw [(hK.h D).2.2.2.1] at q
                exact absurd q (nI_ge (by omega) (by omega))
              · rw [if_neg (by rw [h]; decide)] at ihw
                rw [nI_1]; exact ihw
              · rw [if_pos h] at ihw
                rw [hy, v2, h1 (w + 1) (by omega), nI_1]; exact ihw
          refine ⟨J, wX12_sentences_53 ⟨S.k 95 12 (by decide), fun q => ?_, fun _ => inner (hN d) 0 (by omega)⟩, z2⟩
          rw [(hK.h D).2.2.2.1] at q
          exact absurd q (nI_nlt (by omega) (by omega))
      obtain ⟨J, z, z2⟩ := mid (hN d + 1) 0 K (by omega) hK hr (fun x hx => by omega)
      exact ⟨J, wX12_sentences_45 ⟨fun q => absurd q (nI_ge (by omega) (by omega)), fun _ => z⟩, z2⟩
  have first : ∀ m b (K : Nat → Nat → Int32), b + m = hN d + 1 → Kw I K → (∀ x, x < b → K 107 x = 1) → ∃ J, Zt none mX12_sentences 0 0 22 [(0, .ref 95), (2, .int (nI n)), (3, .int (nI b))] [] (g, K, P) (some (.int (swy d n 0))) (g, J, P) ∧ Kw I J := by
    intro m
    induction m with
    | zero =>
      intro b K hb hK h2
      obtain rfl : b = hN d + 1 := hb
      obtain ⟨J, z, z2⟩ := step n 0 K (by omega) hK (fun x hx => by rw [h2 x (by omega)]; rfl)
      exact ⟨J, wX12_sentences_22 ⟨S.k 95 12 (by decide), fun _ => z, fun q => absurd (by rw [(hK.h D).2.2.2.1]; exact nI_lt (by omega) (by omega)) q⟩, z2⟩
    | succ m ihb =>
      intro b K hb hK h2
      obtain ⟨v1, v2⟩ := ix (x := nI b) (k := b) (N := 143) rfl (by omega) (by decide)
      obtain ⟨J, z, z2⟩ := ihb (b + 1) (zU K 107 b 1) (by omega) (hK.u _ _) (fun x hx => by
        by_cases hxb : x = b
        · subst hxb; rw [zU_s]
        · rw [zU_k _ _ hxb]; exact h2 x (by omega))
      refine ⟨J, wX12_sentences_22 ⟨S.k 95 12 (by decide), fun q => ?_, fun _ => ⟨S.k 95 12 (by decide), 107, Q.p 95 28 107 (by decide), S.k 107 13 (by decide), by rw [S.l 107 143 (by decide)]; exact v1, by rw [v2, nI_1]; exact z⟩⟩, z2⟩
      rw [(hK.h D).2.2.2.1] at q
      exact absurd q (nI_nlt (by omega) (by omega))
  exact first (hN d + 1) 0 I (by omega) (Kw.rf I) (fun x hx => by omega)
theorem b_sentences (L : LI g I P t im) (x1 x2 : Int32) : ∃ (w : Int32) (I1 : Nat → Nat → Int32) (J : Nat → Nat → Int32), Cl mX11_sentences [.ref 0, .int x1, .int x2] (g, I, P) (some (.int w)) (g, I1, P) ∧ Kp I I1 ∧ Cl mX12_sentences [.ref 95, .int x1, .int x2] (g, I1, P) (some (.int w)) (g, J, P) ∧ Km I1 J := by
  have L0 := L
  obtain ⟨S, Q, W, D, M, -⟩ := L
  have n2 := W.2.1.1
  cases hp : pk x1 (tNh t) with
  | none => exact ⟨-1, I, I, eX11_sentences (wX11_sentences_0 ⟨S.k 0 11 (by decide), 1, Q.p 0 0 1 (by decide), S.k 1 9 (by decide), _, c_hillN L0 hp, fun _ => ⟨rfl, rfl⟩, fun b hb => (nomatch hb)⟩), Kp.rf I, eX12_sentences (wX12_sentences_0 ⟨S.k 95 12 (by decide), _, _, r_isHill0 S Q W M hp, fun _ => ⟨rfl, rfl⟩, fun q => absurd rfl q⟩), Km.rf I⟩
  | some i =>
    have hi : i < tNh t := (pk_some (by omega) hp).1
    obtain ⟨hW, hX⟩ := W.2.1.2 i hi
    have T := HlS_i S Q (i := i) (by omega)
    have D1 : HlD I (8 + 16 * i) (tH t i) := D.2.2.1 i hi
    by_cases hx : ¬ x2 < 0 ∧ ¬ 6 < x2
    · obtain ⟨n, -, hn, rfl⟩ := inN (lo := 0) (hi := 6) (by decide) (by decide) hx.1 hx.2
      obtain ⟨I1, zc, kc⟩ := c_rowsOf S Q T hW hX D1 (by omega) hn
      obtain ⟨J1, z, E, f, -⟩ := r_isHill S Q W (M.keep (kc 96 (by decide))) hp
      obtain ⟨J, zr, kr⟩ := r_sentences S Q hW E hn
      refine ⟨_, I1, J, eX11_sentences (wX11_sentences_0 ⟨S.k 0 11 (by decide), 1, Q.p 0 0 1 (by decide), S.k 1 9 (by decide), _, c_hillY L0 hp, fun q => (nomatch q), fun b hb => ?_⟩), kc, eX12_sentences (wX12_sentences_0 ⟨S.k 95 12 (by decide), _, _, z, fun q => absurd q (by decide), fun _ => ⟨_, r_isIn, fun _ => zr, fun q => ?_⟩⟩), f.m.tr kr.m⟩
      · cases hb
        exact ⟨fun q => absurd q hx.1, fun _ => ⟨fun _ => ⟨S.k 0 11 (by decide), 83, Q.p 0 5 83 (by decide), S.k 83 10 (by decide), _, _, zc, rfl, rfl⟩, fun q => absurd (Int32.not_lt.mp hx.2) q⟩⟩
      · rw [decide_eq_true hx] at q
        exact absurd q (by decide)
    · obtain ⟨J1, z, E, f, -⟩ := r_isHill S Q W M hp
      refine ⟨-1, I, J1, eX11_sentences (wX11_sentences_0 ⟨S.k 0 11 (by decide), 1, Q.p 0 0 1 (by decide), S.k 1 9 (by decide), _, c_hillY L0 hp, fun q => (nomatch q), fun b hb => ?_⟩), Kp.rf I, eX12_sentences (wX12_sentences_0 ⟨S.k 95 12 (by decide), _, _, z, fun q => absurd q (by decide), fun _ => ⟨_, r_isIn, fun q => ?_, fun _ => ⟨rfl, rfl⟩⟩⟩), f.m⟩
      · cases hb
        exact ⟨fun q => ⟨rfl, rfl⟩, fun q => ⟨fun q2 => absurd ⟨q, Int32.not_lt.mpr q2⟩ hx, fun _ => ⟨rfl, rfl⟩⟩⟩
      · rw [decide_eq_false hx] at q
        exact absurd rfl q
end SENT
