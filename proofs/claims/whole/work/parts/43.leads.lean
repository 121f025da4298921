/-! ===== which words a word leads to; tree ===== -/
def Sb (s u : Int32) : Prop := ∀ k, k < 32 → tb s k = true → tb u k = true
def Clo (d : HD) (s : Int32) : Prop := ∀ w, w < hN d → tb s w = true → Sb (hBeh d w) s
/-- F is what the word leads to: the least closed set that holds what may come behind it -/
def Lds (d : HD) (w : Nat) (F : Int32) : Prop := Sb (hBeh d w) F ∧ Clo d F ∧ ∀ C, Clo d C → Sb (hBeh d w) C → Sb F C
theorem Lds.eq {d : HD} {w : Nat} {F G : Int32} (h : Lds d w F) (h2 : Lds d w G) : F = G := by
  apply tb_ext
  intro k hk
  have a := h.2.2 G h2.2.1 h2.1 k hk
  have b := h2.2.2 F h.2.1 h.1 k hk
  cases e : tb F k with
  | false => cases e2 : tb G k with
    | false => rfl
    | true => rw [b e2] at e; cases e
  | true => exact (a e).symm
theorem Sb.or {a b c : Int32} (h : Sb a c) (h2 : Sb b c) : Sb (a ||| b) c := by
  intro k hk h3
  rw [tb_or hk, Bool.or_eq_true] at h3
  rcases h3 with h3 | h3
  · exact h k hk h3
  · exact h2 k hk h3
theorem Sb.l (a b : Int32) : Sb a (a ||| b) := fun k hk h => by rw [tb_or hk, h, Bool.true_or]
theorem Sb.r (a b : Int32) : Sb b (a ||| b) := fun k hk h => by rw [tb_or hk, h, Bool.or_true]
theorem Sb.tr {a b c : Int32} (h : Sb a b) (h2 : Sb b c) : Sb a c := fun k hk q => h2 k hk (h k hk q)
theorem Sb.rf (a : Int32) : Sb a a := fun _ _ q => q
theorem Sb.anti {a b : Int32} (h : Sb a b) (h2 : Sb b a) : a = b := by
  apply tb_ext
  intro k hk
  cases e : tb a k with
  | false => cases e2 : tb b k with
    | false => rfl
    | true => rw [h2 k hk e2] at e; cases e
  | true => exact (h k hk e).symm
theorem nI_top {n : Nat} (h : n < 2 ^ 10) : tb (nI n) 31 = false := by
  rw [tb_N (by omega) (by decide)]
  exact Nat.testBit_lt_two_pow (Nat.lt_trans h (by decide))
theorem hBeh_in {d : HD} {w k : Nat} (W : HW d) (X : HX d) (hw : w < hN d) (hk : k < 32) (h : tb (hBeh d w) k = true) : k < hN d := by
  by_cases e : k = 31
  · exfalso
    subst e
    unfold hBeh at h
    by_cases hf : hF d = true
    · rw [if_pos hf] at h
      obtain ⟨n, h1, h2⟩ := X.2.2.2.1 w hw
      rw [h2, nI_top h1] at h; cases h
    · rw [if_neg hf, tb_all W (by decide)] at h
      have := of_decide_eq_true h
      have := W.2.1
      omega
  · exact hBeh_lt W X hw (by omega) h
/-- how many words of a set -/
def cnt (s : Int32) (n : Nat) : Nat := nsum (fun k => if tb s k = true then 1 else 0) n
theorem cnt_le (s : Int32) (n : Nat) : cnt s n ≤ n := by
  have := nsum_le (f := fun k => if tb s k = true then 1 else 0) (b := 1) n (fun k _ => by show (if _ then _ else _) ≤ 1; split <;> omega)
  unfold cnt; omega
theorem nsum_mono {f h : Nat → Nat} : ∀ n, (∀ k, k < n → f k ≤ h k) → nsum f n ≤ nsum h n := by
  intro n
  induction n with
  | zero => intro _; exact Nat.le_refl _
  | succ n ih => intro H; exact Nat.add_le_add (ih (fun k hk => H k (by omega))) (H n (by omega))
theorem nsum_lt {f h : Nat → Nat} : ∀ n, (∀ k, k < n → f k ≤ h k) → (∃ k, k < n ∧ f k < h k) → nsum f n < nsum h n := by
  intro n
  induction n with
  | zero => rintro _ ⟨k, hk, -⟩; omega
  | succ n ih =>
    rintro H ⟨k, hk, hl⟩
    have h1 := H n (by omega)
    by_cases e : k = n
    · subst e
      have := nsum_mono (f := f) (h := h) k (fun j hj => H j (by omega))
      show nsum f k + f k < nsum h k + h k
      omega
    · have := ih (fun j hj => H j (by omega)) ⟨k, by omega, hl⟩
      show nsum f n + f n < nsum h n + h n
      omega
/-- a larger set of words has more of them -/
theorem cnt_lt {d : HD} {s u : Int32} (h10 : hN d ≤ 10) (h : Sb s u) (hu : ∀ k, k < 32 → tb u k = true → k < hN d) (ne : s ≠ u) : cnt s (hN d) < cnt u (hN d) := by
  apply nsum_lt
  · intro k hk
    show (if _ then _ else _) ≤ (if _ then _ else _)
    by_cases e : tb s k = true
    · rw [if_pos e, if_pos (h k (by omega) e)]; omega
    · rw [if_neg e]; omega
  · by_cases hx : ∃ k, k < 32 ∧ tb s k = false ∧ tb u k = true
    · obtain ⟨k, hk, h1, h2⟩ := hx
      refine ⟨k, hu k hk h2, ?_⟩
      show (if _ then _ else _) < (if _ then _ else _)
      rw [if_neg (by rw [h1]; decide), if_pos h2]; omega
    · exfalso
      apply ne
      apply h.anti
      intro k hk h2
      cases e : tb s k with
      | true => rfl
      | false => exact (hx ⟨k, hk, e, h2⟩).elim
/-- one round over all words -/
def ps (d : HD) (s : Int32) : Nat → Int32
  | 0 => s
  | n + 1 => if tb (ps d s n) n = true then ps d s n ||| hBeh d n else ps d s n
def it (d : HD) (s : Int32) : Nat → Int32
  | 0 => s
  | k + 1 => ps d (it d s k) (hN d)
theorem ps_t {d : HD} {s : Int32} {n : Nat} (h : tb (ps d s n) n = true) : ps d s (n + 1) = ps d s n ||| hBeh d n := by
  show (if _ then _ else _) = _
  rw [if_pos h]
theorem ps_f {d : HD} {s : Int32} {n : Nat} (h : tb (ps d s n) n = false) : ps d s (n + 1) = ps d s n := by
  show (if _ then _ else _) = _
  rw [if_neg (by rw [h]; decide)]
theorem ps_up {d : HD} {s : Int32} (n : Nat) : Sb (ps d s n) (ps d s (n + 1)) := by
  cases e : tb (ps d s n) n with
  | true => rw [ps_t e]; exact Sb.l _ _
  | false => rw [ps_f e]; exact Sb.rf _
theorem ps_ups {d : HD} {s : Int32} {n : Nat} : ∀ m, Sb (ps d s n) (ps d s (n + m)) := by
  intro m
  induction m with
  | zero => exact Sb.rf _
  | succ m ih => exact ih.tr (ps_up (n + m))
theorem ps_in {d : HD} {s C : Int32} (hC : Clo d C) (h : Sb s C) : ∀ n, n ≤ hN d → n ≤ 32 → Sb (ps d s n) C := by
  intro n
  induction n with
  | zero => intro _ _; exact h
  | succ n ih =>
    intro hn h32
    have h1 := ih (by omega) (by omega)
    cases e : tb (ps d s n) n with
    | true => rw [ps_t e]; exact h1.or (hC n (by omega) (h1 n (by omega) e))
    | false => rw [ps_f e]; exact h1
theorem ps_fix {d : HD} {s : Int32} (h : ps d s (hN d) = s) : Clo d s := by
  have all : ∀ n, n ≤ hN d → ps d s n = s := by
    intro n hn
    have h1 : Sb s (ps d s n) := by
      have := ps_ups (d := d) (s := s) (n := 0) n
      rw [Nat.zero_add] at this; exact this
    have h2 : Sb (ps d s n) s := by
      have := ps_ups (d := d) (s := s) (n := n) (hN d - n)
      rw [show n + (hN d - n) = hN d by omega, h] at this; exact this
    exact h2.anti h1
  intro w hw hb
  have e1 := all w (by omega)
  have e2 := all (w + 1) (by omega)
  rw [ps_t (by rw [e1]; exact hb), e1] at e2
  have := Sb.r s (hBeh d w)
  rw [e2] at this
  exact this
theorem ps_clo {d : HD} {s : Int32} (h10 : hN d ≤ 10) (h : Clo d s) : ps d s (hN d) = s := by
  have h1 : Sb s (ps d s (hN d)) := by
    have := ps_ups (d := d) (s := s) (n := 0) (hN d)
    rw [Nat.zero_add] at this; exact this
  exact (ps_in h (Sb.rf s) (hN d) (Nat.le_refl _) (by omega)).anti h1
def Bd (d : HD) (s : Int32) : Prop := ∀ k, k < 32 → tb s k = true → k < hN d
theorem ps_bd {d : HD} {s : Int32} (W : HW d) (X : HX d) (h : Bd d s) : ∀ n, n ≤ hN d → Bd d (ps d s n) := by
  intro n
  induction n with
  | zero => intro _; exact h
  | succ n ih =>
    intro hn
    have h1 := ih (by omega)
    cases e : tb (ps d s n) n with
    | false => rw [ps_f e]; exact h1
    | true =>
      rw [ps_t e]
      intro k hk hb
      rw [tb_or hk, Bool.or_eq_true] at hb
      rcases hb with hb | hb
      · exact h1 k hk hb
      · exact hBeh_in W X (by omega) hk hb
theorem it_bd {d : HD} {s : Int32} (W : HW d) (X : HX d) (h : Bd d s) : ∀ n, Bd d (it d s n) := by
  intro n
  induction n with
  | zero => exact h
  | succ n ih => exact ps_bd W X ih (hN d) (Nat.le_refl _)
theorem it_clo {d : HD} {s : Int32} (W : HW d) (X : HX d) (h : Bd d s) : Clo d (it d s (hN d)) := by
  have h10 := W.2.1
  have step : ∀ k, Clo d (it d s k) ∨ k + 1 ≤ cnt (it d s k) (hN d) := by
    intro k
    induction k with
    | zero =>
      by_cases h0 : 1 ≤ cnt s (hN d)
      · exact Or.inr h0
      · refine Or.inl (fun w hw hb => ?_)
        exfalso
        apply h0
        have : cnt 0 (hN d) < cnt s (hN d) := cnt_lt (s := 0) h10 (fun k hk q => by rw [tb_0 hk] at q; cases q) h (fun e => by
          have hb : tb s w = true := hb
          rw [← e, tb_0 (by omega)] at hb; cases hb)
        omega
    | succ k ih =>
      rcases ih with ih | ih
      · left
        show Clo d (ps d (it d s k) (hN d))
        rw [ps_clo h10 ih]; exact ih
      · by_cases e : it d s k = ps d (it d s k) (hN d)
        · left
          show Clo d (ps d (it d s k) (hN d))
          rw [← e]; exact ps_fix e.symm
        · right
          have hs : Sb (it d s k) (ps d (it d s k) (hN d)) := by
            have := ps_ups (d := d) (s := it d s k) (n := 0) (hN d)
            rw [Nat.zero_add] at this; exact this
          have := cnt_lt h10 hs (ps_bd W X (it_bd W X h k) (hN d) (Nat.le_refl _)) e
          show k + 1 + 1 ≤ cnt (ps d (it d s k) (hN d)) (hN d)
          omega
  rcases step (hN d) with h1 | h1
  · exact h1
  · have := cnt_le (it d s (hN d)) (hN d)
    omega
theorem it_up {d : HD} {s : Int32} : ∀ n, Sb s (it d s n) := by
  intro n
  induction n with
  | zero => exact Sb.rf _
  | succ n ih =>
    have := ps_ups (d := d) (s := it d s n) (n := 0) (hN d)
    rw [Nat.zero_add] at this
    exact ih.tr this
theorem it_in {d : HD} {s C : Int32} (h10 : hN d ≤ 10) (hC : Clo d C) (h : Sb s C) : ∀ n, Sb (it d s n) C := by
  intro n
  induction n with
  | zero => exact h
  | succ n ih => exact ps_in hC ih (hN d) (Nat.le_refl _) (by omega)
section LEADS
variable {g : zG} {I : Nat → Nat → Int32} {P : Nat → Nat → Option Nat} {t : TD} {im : Nat → Option TD} {a : Nat} {d : HD}
theorem c_leads {w : Nat} (T : HlS g P a) (W : HW d) (X : HX d) (D : HlD I a d) (hw : w < hN d) : ∃ F, Cl mX3_leadsOf [.ref a, .int (nI w)] (g, I, P) (some (.int F)) (g, I, P) ∧ Lds d w F := by
  have h10 := W.2.1
  refine ⟨it d (hBeh d w) (hN d), eX3_leadsOf (wX3_leadsOf_0 ⟨T.1, _, c_behind T W D hw, ?_⟩), it_up _, it_clo W X (fun k hk hb => hBeh_in W X hw hk hb), fun C hC hs => it_in h10 hC hs _⟩
  have key : ∀ m k, k + m = hN d → Zt none mX3_leadsOf 0 0 8 [(0, .ref a), (2, .int (it d (hBeh d w) k)), (3, .int (nI k))] [] (g, I, P) (some (.int (it d (hBeh d w) (hN d)))) (g, I, P) := by
    intro m
    induction m with
    | zero =>
      intro k hk
      obtain rfl : k = hN d := hk
      exact wX3_leadsOf_8 ⟨T.1, fun _ => ⟨rfl, rfl⟩, fun q => absurd (by rw [D.2.1]; exact Int32.le_refl _) q⟩
    | succ m ih =>
      intro k hk
      have ih := ih (k + 1) (by omega)
      have inner : ∀ m v, v + m = hN d → Zt none mX3_leadsOf 0 0 19 [(0, .ref a), (2, .int (ps d (it d (hBeh d w) k) v)), (3, .int (nI k)), (4, .int (nI v))] [] (g, I, P) (some (.int (it d (hBeh d w) (hN d)))) (g, I, P) := by
        intro m
        induction m with
        | zero =>
          intro v hv
          obtain rfl : v = hN d := hv
          exact wX3_leadsOf_19 ⟨T.1, fun _ => by rw [nI_1]; exact ih, fun q => absurd (by rw [D.2.1]; exact Int32.le_refl _) q⟩
        | succ m ihv =>
          intro v hv
          have ihv := ihv (v + 1) (by omega)
          refine wX3_leadsOf_19 ⟨T.1, fun q => ?_, fun _ => ⟨_, c_has (by omega), zp (fun h => ?_) (fun h => ⟨T.1, _, c_behind T W D (by omega), ?_⟩)⟩⟩
          · rw [D.2.1] at q
            exact absurd q (nI_ge (by omega) (by omega))
          · rw [ps_f h] at ihv
            rw [nI_1]; exact ihv
          · rw [ps_t h] at ihv
            rw [nI_1]; exact ihv
      refine wX3_leadsOf_8 ⟨T.1, fun q => ?_, fun _ => inner (hN d) 0 (by omega)⟩
      rw [D.2.1] at q
      exact absurd q (nI_ge (by omega) (by omega))
  exact key (hN d) 0 (by omega)
/-- a round of the reference, out of the set as it was -/
def pr (d : HD) (s : Int32) : Nat → Int32
  | 0 => s
  | n + 1 => if tb s n = true then pr d s n ||| hBeh d n else pr d s n
theorem pr_t {s : Int32} {n : Nat} (h : tb s n = true) : pr d s (n + 1) = pr d s n ||| hBeh d n := by
  show (if _ then _ else _) = _
  rw [if_pos h]
theorem pr_f {s : Int32} {n : Nat} (h : tb s n = false) : pr d s (n + 1) = pr d s n := by
  show (if _ then _ else _) = _
  rw [if_neg (by rw [h]; decide)]
theorem pr_up {s : Int32} : ∀ n, Sb s (pr d s n) ∧ ∀ w, w < n → tb s w = true → Sb (hBeh d w) (pr d s n) := by
  intro n
  induction n with
  | zero => exact ⟨Sb.rf _, fun w hw => by omega⟩
  | succ n ih =>
    cases e : tb s n with
    | false =>
      rw [pr_f e]
      exact ⟨ih.1, fun w hw h => ih.2 w (by
        by_cases q : w = n
        · subst q; rw [e] at h; cases h
        · omega) h⟩
    | true =>
      rw [pr_t e]
      refine ⟨ih.1.tr (Sb.l _ _), fun w hw h => ?_⟩
      by_cases q : w = n
      · subst q; exact Sb.r _ _
      · exact (ih.2 w (by omega) h).tr (Sb.l _ _)
theorem pr_in {s C : Int32} (hC : Clo d C) (h : Sb s C) : ∀ n, n ≤ hN d → n ≤ 32 → Sb (pr d s n) C := by
  intro n
  induction n with
  | zero => intro _ _; exact h
  | succ n ih =>
    intro hn h32
    have h1 := ih (by omega) (by omega)
    cases e : tb s n with
    | true => rw [pr_t e]; exact h1.or (hC n (by omega) (h n (by omega) e))
    | false => rw [pr_f e]; exact h1
theorem pr_bd {s : Int32} (W : HW d) (X : HX d) (h : Bd d s) : ∀ n, n ≤ hN d → Bd d (pr d s n) := by
  intro n
  induction n with
  | zero => intro _; exact h
  | succ n ih =>
    intro hn
    have h1 := ih (by omega)
    cases e : tb s n with
    | false => rw [pr_f e]; exact h1
    | true =>
      rw [pr_t e]
      intro k hk hb
      rw [tb_or hk, Bool.or_eq_true] at hb
      rcases hb with hb | hb
      · exact h1 k hk hb
      · exact hBeh_in W X (by omega) hk hb
theorem r_leads {w h0 : Nat} (S : Sg g) (Q : Sp P) (W : HW d) (X : HX d) (D : MhD I h0 d) (hw : w < hN d) : ∃ F, Cl mX12_leadsOf [.ref 95, .int (nI w)] (g, I, P) (some (.int F)) (g, I, P) ∧ Lds d w F := by
  have h10 := W.2.1
  have key : ∀ m s, hN d - cnt s (hN d) < m → Bd d s → Sb (hBeh d w) s → (∀ C, Clo d C → Sb (hBeh d w) C → Sb s C) → ∃ F, Zt none mX12_leadsOf 0 0 8 [(0, .ref 95), (2, .int s), (3, .int 1)] [] (g, I, P) (some (.int F)) (g, I, P) ∧ Lds d w F := by
    intro m
    induction m with
    | zero => intro s hm; omega
    | succ m ih =>
      intro s hm hb hs hC
      have fin : ∃ F, ((pr d s (hN d) = s → Zt none mX12_leadsOf 0 0 8 [(0, .ref 95), (2, .int (pr d s (hN d))), (3, .int 0)] [] (g, I, P) (some (.int F)) (g, I, P)) ∧ (¬ pr d s (hN d) = s → Zt none mX12_leadsOf 0 0 8 [(0, .ref 95), (2, .int (pr d s (hN d))), (3, .int 1)] [] (g, I, P) (some (.int F)) (g, I, P))) ∧ Lds d w F := by
        by_cases e : pr d s (hN d) = s
        · refine ⟨s, ⟨fun _ => wX12_leadsOf_8 ⟨fun _ => ⟨by rw [e], rfl⟩, fun q => absurd rfl q⟩, fun q => absurd e q⟩, hs, fun v hv h => ?_, hC⟩
          have := (pr_up (d := d) (s := s) (hN d)).2 v hv h
          rw [e] at this; exact this
        · have hc := cnt_lt h10 (pr_up (d := d) (s := s) (hN d)).1 (pr_bd W X hb (hN d) (Nat.le_refl _)) (fun q => e q.symm)
          have hl := cnt_le (pr d s (hN d)) (hN d)
          obtain ⟨F, z, z2⟩ := ih (pr d s (hN d)) (by omega) (pr_bd W X hb (hN d) (Nat.le_refl _)) (hs.tr (pr_up (hN d)).1) (fun C h1 h2 => pr_in h1 (hC C h1 h2) (hN d) (Nat.le_refl _) (by omega))
          exact ⟨F, ⟨fun q => absurd q e, fun _ => z⟩, z2⟩
      obtain ⟨F, zf, z2⟩ := fin
      have inner : ∀ m v, v + m = hN d → Zt none mX12_leadsOf 0 0 18 [(0, .ref 95), (2, .int (pr d s v)), (4, .int s), (5, .int (nI v))] [] (g, I, P) (some (.int F)) (g, I, P) := by
        intro m
        induction m with
        | zero =>
          intro v hv
          obtain rfl : v = hN d := hv
          exact wX12_leadsOf_18 ⟨S.k 95 12 (by decide), fun _ => zf, fun q => absurd (by rw [D.2.2.2.1]; exact Int32.le_refl _) q⟩
        | succ m ihv =>
          intro v hv
          have ihv := ihv (v + 1) (by omega)
          refine wX12_leadsOf_18 ⟨S.k 95 12 (by decide), fun q => ?_, fun _ => ⟨_, r_holds, zp (fun h => ?_) (fun h => ⟨S.k 95 12 (by decide), _, r_behind S Q W D (by omega), ?_⟩)⟩⟩
          · rw [D.2.2.2.1] at q
            exact absurd q (nI_ge (by omega) (by omega))
          · rw [pr_f h] at ihv
            rw [nI_1, or_z]; exact ihv
          · rw [pr_t h] at ihv
            rw [nI_1]; exact ihv
      exact ⟨F, wX12_leadsOf_8 ⟨fun q => absurd q (by decide), fun _ => inner (hN d) 0 (by omega)⟩, z2⟩
  obtain ⟨F, z, z2⟩ := key (hN d + 1) (hBeh d w) (by omega) (fun k hk hb => hBeh_in W X hw hk hb) (Sb.rf _) (fun C _ h => h)
  exact ⟨F, eX12_leadsOf (wX12_leadsOf_0 ⟨S.k 95 12 (by decide), _, r_behind S Q W D hw, z⟩), z2⟩
theorem b_tree (L : LI g I P t im) (x1 x2 : Int32) : ∃ (w : Int32) (I1 : Nat → Nat → Int32) (J : Nat → Nat → Int32), Cl mX11_tree [.ref 0, .int x1, .int x2] (g, I, P) (some (.int w)) (g, I1, P) ∧ Kp I I1 ∧ Cl mX12_tree [.ref 95, .int x1, .int x2] (g, I1, P) (some (.int w)) (g, J, P) ∧ Km I1 J := by
  have L0 := L
  obtain ⟨S, Q, W, D, M, -⟩ := L
  have n2 := W.2.1.1
  cases hp : pk x1 (tNh t) with
  | none => exact ⟨-2, I, I, eX11_tree (wX11_tree_0 ⟨S.k 0 11 (by decide), 1, Q.p 0 0 1 (by decide), S.k 1 9 (by decide), _, c_hillN L0 hp, fun _ => ⟨rfl, rfl⟩, fun b hb => (nomatch hb)⟩), Kp.rf I, eX12_tree (wX12_tree_0 ⟨S.k 95 12 (by decide), _, _, r_isHill0 S Q W M hp, fun _ => ⟨rfl, rfl⟩, fun q => absurd rfl q⟩), Km.rf I⟩
  | some i =>
    have hi : i < tNh t := (pk_some (by omega) hp).1
    obtain ⟨hW, hX⟩ := W.2.1.2 i hi
    have h10 := hW.2.1
    have T := HlS_i S Q (i := i) (by omega)
    have D1 : HlD I (8 + 16 * i) (tH t i) := D.2.2.1 i hi
    have pre : ∀ {w : Int32} {I1 : Nat → Nat → Int32}, (((x2 = 0) → S.k 0 11 (by decide) = S.k 0 11 (by decide) ∧ ∃ (w15 : Int32) (I16 : Nat → Nat → Int32), Cl mX1_closest [.ref 73, .ref (8 + 16 * i), .int 1] (g, I, P) (some (.int w15)) (g, I16, P) ∧ w = w15 ∧ I1 = I16) ∧ ((x2 = 1) → ∃ (w24 : Int32) (I25 : Nat → Nat → Int32), Cl mX1_closest [.ref 73, .ref (8 + 16 * i), .int 0] (g, I, P) (some (.int w24)) (g, I25, P) ∧ w = w24 ∧ I1 = I25) ∧ ((x2 = 2) → w = zsum (hTr (tH t i)) (hN (tH t i)) ∧ I1 = I) ∧ ((x2 = 3) → w = bs (fun w => wiN (tH t i) (hAll (tH t i)) w (hN (tH t i))) (hN (tH t i)) ∧ I1 = I) ∧ ((x2 = 4) → w = bs (uns (tH t i)) 6 ∧ I1 = I) ∧ (¬ x2 = 0 → ¬ x2 = 1 → ¬ x2 = 2 → ¬ x2 = 3 → ¬ x2 = 4 → (pk (x2 - 10) (hN (tH t i)) = none → w = -2 ∧ I1 = I) ∧ (∀ v, pk (x2 - 10) (hN (tH t i)) = some v → Cl mX3_leadsOf [.ref (8 + 16 * i), .int (x2 - 10)] (g, I, P) (some (.int w)) (g, I, P) ∧ I1 = I))) → Cl mX11_tree [.ref 0, .int x1, .int x2] (g, I, P) (some (.int w)) (g, I1, P) := by
      rintro w I1 ⟨h0, h1, h2, h3, h4, h5⟩
      refine eX11_tree (wX11_tree_0 ⟨S.k 0 11 (by decide), 1, Q.p 0 0 1 (by decide), S.k 1 9 (by decide), _, c_hillY L0 hp, fun q => (nomatch q), fun b hb => ?_⟩)
      cases hb
      refine ⟨fun q => ?_, fun q => ?_, fun q => ?_, fun q => ?_, fun q => ?_, fun q0 q1 q2 q3 q4 => ?_⟩
      · obtain ⟨-, a1, a2, a3, rfl, rfl⟩ := h0 q
        exact ⟨S.k 0 11 (by decide), 73, Q.p 0 4 73 (by decide), S.k 73 1 (by decide), _, _, a3, rfl, rfl⟩
      · obtain ⟨a1, a2, a3, rfl, rfl⟩ := h1 q
        exact ⟨S.k 0 11 (by decide), 73, Q.p 0 4 73 (by decide), S.k 73 1 (by decide), _, _, a3, rfl, rfl⟩
      · obtain ⟨rfl, rfl⟩ := h2 q
        exact ⟨T.1, _, c_treeOf T hW D1, rfl, rfl⟩
      · obtain ⟨rfl, rfl⟩ := h3 q
        exact ⟨T.1, _, c_all T D1, T.1, _, c_within T hW D1, rfl, rfl⟩
      · obtain ⟨rfl, rfl⟩ := h4 q
        exact ⟨T.1, _, c_unsure T hW D1, rfl, rfl⟩
      · obtain ⟨a1, a2⟩ := h5 q0 q1 q2 q3 q4
        refine ⟨T.1, _, c_hasWordP T hW D1, ?_⟩
        cases hv : pk (x2 - 10) (hN (tH t i)) with
        | none => obtain ⟨rfl, rfl⟩ := a1 hv; exact ⟨fun _ => ⟨rfl, rfl⟩, fun q => absurd rfl q⟩
        | some v => obtain ⟨a3, rfl⟩ := a2 v hv; exact ⟨fun q => absurd q zsI, fun _ => ⟨T.1, _, a3, rfl, rfl⟩⟩
    by_cases hx : ¬ x2 < 0 ∧ x2 < 10
    · obtain ⟨x, hx1, rfl⟩ := nI_of hx.1
      have hx10 : x < 10 := (nI_ltI (b := 10) hx1 (by decide)).mp hx.2
      have ref : ∀ (I1 : Nat → Nat → Int32) (w : Int32), MtA I1 0 t → (x = 0 → w = clI (clA (tH t i) (hN (tH t i)))) → (x = 1 → w = clL (tH t i) (clA (tH t i) (hN (tH t i)))) → (x = 2 → w = zsum (hTr (tH t i)) (hN (tH t i))) → (x = 3 → w = bs (fun w => wiN (tH t i) (hAll (tH t i)) w (hN (tH t i))) (hN (tH t i))) → (x = 4 → w = bs (uns (tH t i)) 6) → (4 < x → w = -2) → ∃ J, Cl mX12_tree [.ref 95, .int x1, .int (nI x)] (g, I1, P) (some (.int w)) (g, J, P) ∧ Km I1 J := by
        intro I1 w M1 w0 w1 w2 w3 w4 w5
        obtain ⟨J1, z, E, f, -⟩ := r_isHill S Q W M1 hp
        obtain ⟨J2, z2, f2⟩ := r_closest S Q hW E
        have ho := clA_o (d := tH t i) (hN (tH t i)) (Nat.le_refl _)
        have E2 := f2.h E
        have fin : ∃ J, Zt none mX12_tree 0 0 51 [(0, .ref 95), (2, .int (nI x)), (3, .int (bs (uns (tH t i)) 6)), (4, .int (nI 6))] [] (g, J1, P) (some (.int w)) (g, J, P) ∧ Ke J1 J := by
          have no : ∀ k, k < 2 ^ 31 → x ≠ k → nI x = nI k → False := fun k hk hne h => hne ((nI_eq hx1 hk).mp h)
          by_cases e1 : x = 1
          · subst e1
            cases hs : clA (tH t i) (hN (tH t i)) with
            | none =>
              rw [hs] at z2
              rw [w1 rfl, hs]
              exact ⟨J2, wX12_tree_51 ⟨fun _ => ⟨S.k 95 12 (by decide), _, _, z2, fun q => absurd q (by decide), fun _ => ⟨fun q => absurd rfl q, fun _ => ⟨rfl, rfl⟩⟩, fun q => absurd q (by decide), fun q => absurd q (by decide), fun q => absurd q (by decide), fun _ q => absurd rfl q⟩, fun q => absurd (by decide) q⟩, f2⟩
            | some q =>
              obtain ⟨q1, q2⟩ := ho q hs
              obtain ⟨d1, d2⟩ := cl_dec hW ⟨q1, q2⟩
              rw [hs] at z2
              rw [w1 rfl, hs]
              obtain ⟨J3, z3, f3⟩ := r_apart (v := q.1) (w := q.2) S Q hW E2 q1 q2
              refine ⟨J3, wX12_tree_51 ⟨fun _ => ⟨S.k 95 12 (by decide), _, _, z2, fun q => absurd q (by decide), fun _ => ⟨fun _ => ⟨S.k 95 12 (by decide), _, _, by show Cl _ [_, .int (nI (10 * q.1 + q.2) / 10), .int (nI (10 * q.1 + q.2) - nI (10 * q.1 + q.2) / 10 * 10)] _ _ _; rw [d2, d1]; exact z3, rfl, rfl⟩, fun h => absurd h (nI_m1' (by omega))⟩, fun q => absurd q (by decide), fun q => absurd q (by decide), fun q => absurd q (by decide), fun _ q => absurd rfl q⟩, fun q => absurd (by decide) q⟩, f2.tr f3⟩
          · refine ⟨J2, wX12_tree_51 ⟨fun _ => ⟨S.k 95 12 (by decide), _, _, z2, fun q => ⟨?_, rfl⟩, fun q => (no 1 (by decide) e1 q).elim, fun q => ⟨S.k 95 12 (by decide), _, r_treeOf S Q hW E2, ?_, rfl⟩, fun q => ⟨S.k 95 12 (by decide), _, r_all S E2, S.k 95 12 (by decide), _, r_within S Q hW hX E2, ?_, rfl⟩, fun q => ⟨?_, rfl⟩, fun q0 q1 q2 q3 q4 => ⟨?_, rfl⟩⟩, fun q => absurd (by decide) q⟩, f2⟩
            · rw [w0 ((nI_eq (b := 0) hx1 (by decide)).mp q)]
            · rw [w2 ((nI_eq (b := 2) hx1 (by decide)).mp q)]
            · rw [w3 ((nI_eq (b := 3) hx1 (by decide)).mp q)]
            · rw [w4 ((nI_eq (b := 4) hx1 (by decide)).mp q)]
            · have r0 : x ≠ 0 := fun h => q0 (by rw [h]; rfl)
              have r2 : x ≠ 2 := fun h => q2 (by rw [h]; rfl)
              have r3 : x ≠ 3 := fun h => q3 (by rw [h]; rfl)
              have r4 : x ≠ 4 := fun h => q4 (by rw [h]; rfl)
              rw [w5 (by omega)]
        obtain ⟨J, zf, ff⟩ := fin
        have loop : ∀ m q, q + m = 6 → Zt none mX12_tree 0 0 51 [(0, .ref 95), (2, .int (nI x)), (3, .int (bs (uns (tH t i)) q)), (4, .int (nI q))] [] (g, J1, P) (some (.int w)) (g, J, P) := by
          intro m
          induction m with
          | zero =>
            intro q hq
            obtain rfl : q = 6 := hq
            exact zf
          | succ m ih =>
            intro q hq
            have ih := ih (q + 1) (by omega)
            refine wX12_tree_51 ⟨fun q => absurd q (nI_ge (b := 6) (by omega) (by decide)), fun _ => ⟨S.k 95 12 (by decide), _, r_answers S Q E (by omega), S.k 95 12 (by decide), _, r_within S Q hW hX E, fun h => ?_, fun h y hy => ?_⟩⟩
            · rw [bs_f (decide_eq_false (fun q => q h))] at ih
              rw [nI_1, or_z]; exact ih
            · rw [bs_t (decide_eq_true h)] at ih
              rw [nI_1, hy]; exact ih
        exact ⟨J, eX12_tree (wX12_tree_0 ⟨S.k 95 12 (by decide), _, _, z, fun q => absurd q (by decide), fun _ => ⟨fun _ => ⟨fun _ => loop 6 0 rfl, fun q => absurd hx.2 q⟩, fun q => absurd (nI_pos' hx1) q⟩⟩), f.m.tr ff.m⟩
      have no : ∀ {r : Prop} (k : Nat), k < 2 ^ 31 → x ≠ k → nI x = nI k → r := fun k hk hne h => absurd ((nI_eq hx1 hk).mp h) hne
      by_cases e0 : x = 0
      · obtain ⟨I1, zc, kc⟩ := c_closest (y := 1) S Q T hW D1 (by omega)
        obtain ⟨J, zr, kr⟩ := ref I1 _ (M.keep (kc 96 (by decide))) (fun _ => rfl) (fun h => by omega) (fun h => by omega) (fun h => by omega) (fun h => by omega) (fun h => by omega)
        exact ⟨_, I1, J, pre ⟨fun _ => ⟨rfl, _, _, zc, rfl, rfl⟩, fun q => no 1 (by decide) (by omega) q, fun q => no 2 (by decide) (by omega) q, fun q => no 3 (by decide) (by omega) q, fun q => no 4 (by decide) (by omega) q, fun q => absurd (by rw [e0]; rfl) q⟩, kc.p, zr, kr⟩
      · by_cases e1 : x = 1
        · obtain ⟨I1, zc, kc⟩ := c_closest (y := 0) S Q T hW D1 (by omega)
          obtain ⟨J, zr, kr⟩ := ref I1 _ (M.keep (kc 96 (by decide))) (fun h => by omega) (fun _ => rfl) (fun h => by omega) (fun h => by omega) (fun h => by omega) (fun h => by omega)
          exact ⟨_, I1, J, pre ⟨fun q => no 0 (by decide) (by omega) q, fun _ => ⟨_, _, zc, rfl, rfl⟩, fun q => no 2 (by decide) (by omega) q, fun q => no 3 (by decide) (by omega) q, fun q => no 4 (by decide) (by omega) q, fun _ q => absurd (by rw [e1]; rfl) q⟩, kc.p, zr, kr⟩
        · by_cases e2 : x = 2
          · obtain ⟨J, zr, kr⟩ := ref I _ M (fun h => by omega) (fun h => by omega) (fun _ => rfl) (fun h => by omega) (fun h => by omega) (fun h => by omega)
            exact ⟨_, I, J, pre ⟨fun q => no 0 (by decide) (by omega) q, fun q => no 1 (by decide) (by omega) q, fun _ => ⟨rfl, rfl⟩, fun q => no 3 (by decide) (by omega) q, fun q => no 4 (by decide) (by omega) q, fun _ _ q => absurd (by rw [e2]; rfl) q⟩, Kp.rf I, zr, kr⟩
          · by_cases e3 : x = 3
            · obtain ⟨J, zr, kr⟩ := ref I _ M (fun h => by omega) (fun h => by omega) (fun h => by omega) (fun _ => rfl) (fun h => by omega) (fun h => by omega)
              exact ⟨_, I, J, pre ⟨fun q => no 0 (by decide) (by omega) q, fun q => no 1 (by decide) (by omega) q, fun q => no 2 (by decide) (by omega) q, fun _ => ⟨rfl, rfl⟩, fun q => no 4 (by decide) (by omega) q, fun _ _ _ q => absurd (by rw [e3]; rfl) q⟩, Kp.rf I, zr, kr⟩
            · by_cases e4 : x = 4
              · obtain ⟨J, zr, kr⟩ := ref I _ M (fun h => by omega) (fun h => by omega) (fun h => by omega) (fun h => by omega) (fun _ => rfl) (fun h => by omega)
                exact ⟨_, I, J, pre ⟨fun q => no 0 (by decide) (by omega) q, fun q => no 1 (by decide) (by omega) q, fun q => no 2 (by decide) (by omega) q, fun q => no 3 (by decide) (by omega) q, fun _ => ⟨rfl, rfl⟩, fun _ _ _ _ q => absurd (by rw [e4]; rfl) q⟩, Kp.rf I, zr, kr⟩
              · obtain ⟨J, zr, kr⟩ := ref I (-2) M (fun h => by omega) (fun h => by omega) (fun h => by omega) (fun h => by omega) (fun h => by omega) (fun _ => rfl)
                have hneg : nI x - 10 < 0 := pk_sneg (b := 10) (by decide) hx10
                refine ⟨-2, I, J, pre ⟨fun q => no 0 (by decide) (by omega) q, fun q => no 1 (by decide) (by omega) q, fun q => no 2 (by decide) (by omega) q, fun q => no 3 (by decide) (by omega) q, fun q => no 4 (by decide) (by omega) q, fun _ _ _ _ _ => ⟨fun _ => ⟨rfl, rfl⟩, fun v hv => ?_⟩⟩, Kp.rf I, zr, kr⟩
                rw [pk_neg hneg] at hv; cases hv
    · have q5 : ¬ x2 = 0 ∧ ¬ x2 = 1 ∧ ¬ x2 = 2 ∧ ¬ x2 = 3 ∧ ¬ x2 = 4 := ⟨fun h => hx (by rw [h]; decide), fun h => hx (by rw [h]; decide), fun h => hx (by rw [h]; decide), fun h => hx (by rw [h]; decide), fun h => hx (by rw [h]; decide)⟩
      obtain ⟨J1, z, E, f, -⟩ := r_isHill S Q W M hp
      by_cases h0 : x2 < 0
      · have hn : pk (x2 - 10) (hN (tH t i)) = none := by
          cases hv : pk (x2 - 10) (hN (tH t i)) with
          | none => rfl
          | some v =>
            exfalso
            obtain ⟨v1, v2⟩ := pk_some (by omega) hv
            have e : x2 = nI (v + 10) := by
              rw [← nI_add, ← v2]
              show x2 = x2 - 10 + 10
              exact (Int32.sub_add_cancel x2 10).symm
            rw [e] at h0
            exact nI_pos (by omega) h0
        have hneg : ¬ 0 ≤ x2 := fun h => Int32.not_lt.mpr h h0
        exact ⟨-2, I, J1, pre ⟨fun q => absurd q q5.1, fun q => absurd q q5.2.1, fun q => absurd q q5.2.2.1, fun q => absurd q q5.2.2.2.1, fun q => absurd q q5.2.2.2.2, fun _ _ _ _ _ => ⟨fun _ => ⟨rfl, rfl⟩, fun v hv => by rw [hn] at hv; cases hv⟩⟩, Kp.rf I, eX12_tree (wX12_tree_0 ⟨S.k 95 12 (by decide), _, _, z, fun q => absurd q (by decide), fun _ => ⟨fun q => absurd q hneg, fun _ => ⟨rfl, rfl⟩⟩⟩), f.m⟩
      · have h10' : ¬ x2 < 10 := fun h => hx ⟨h0, h⟩
        have rw0 := r_isWordP (x := x2 - 10) (P := P) S hW E
        cases hv : pk (x2 - 10) (hN (tH t i)) with
        | none =>
          rw [hv] at rw0
          exact ⟨-2, I, J1, pre ⟨fun q => absurd q q5.1, fun q => absurd q q5.2.1, fun q => absurd q q5.2.2.1, fun q => absurd q q5.2.2.2.1, fun q => absurd q q5.2.2.2.2, fun _ _ _ _ _ => ⟨fun _ => ⟨rfl, rfl⟩, fun v hv2 => by rw [hv] at hv2; cases hv2⟩⟩, Kp.rf I, eX12_tree (wX12_tree_0 ⟨S.k 95 12 (by decide), _, _, z, fun q => absurd q (by decide), fun _ => ⟨fun _ => ⟨fun q => absurd q h10', fun _ => ⟨S.k 95 12 (by decide), _, rw0, fun _ => ⟨rfl, rfl⟩, fun q => absurd rfl q⟩⟩, fun q => absurd (Int32.not_lt.mp h0) q⟩⟩), f.m⟩
        | some v =>
          rw [hv] at rw0
          obtain ⟨v1, v2⟩ := pk_some (by omega) hv
          obtain ⟨F, zc, lc⟩ := c_leads T hW hX D1 v1
          obtain ⟨G, zr, lr⟩ := r_leads S Q hW hX E v1
          rw [lr.eq lc] at zr
          rw [← v2] at zc zr
          exact ⟨F, I, J1, pre ⟨fun q => absurd q q5.1, fun q => absurd q q5.2.1, fun q => absurd q q5.2.2.1, fun q => absurd q q5.2.2.2.1, fun q => absurd q q5.2.2.2.2, fun _ _ _ _ _ => ⟨fun h => (by rw [hv] at h; cases h), fun _ _ => ⟨zc, rfl⟩⟩⟩, Kp.rf I, eX12_tree (wX12_tree_0 ⟨S.k 95 12 (by decide), _, _, z, fun q => absurd q (by decide), fun _ => ⟨fun _ => ⟨fun q => absurd q h10', fun _ => ⟨S.k 95 12 (by decide), _, rw0, fun q => absurd q zsI, fun _ => ⟨S.k 95 12 (by decide), _, zr, rfl, rfl⟩⟩⟩, fun q => absurd (Int32.not_lt.mp h0) q⟩⟩), f.m⟩
end LEADS
