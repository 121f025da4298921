/-! ===== lines read with slips: mended ===== -/
/-- in how many of the first n letters two rows are unlike -/
def dif (u v : Nat → Nat) (n : Nat) : Nat := nsum (fun k => if u k = v k then 0 else 1) n
theorem dif_le (u v : Nat → Nat) (n : Nat) : dif u v n ≤ n := by
  have := nsum_le (f := fun k => if u k = v k then 0 else 1) (b := 1) n (fun k _ => by split <;> omega)
  unfold dif
  omega
theorem dif_e {u v : Nat → Nat} {n : Nat} (h : u n = v n) : dif u v (n + 1) = dif u v n := by
  show dif u v n + (if u n = v n then 0 else 1) = _
  rw [if_pos h]; rfl
theorem dif_n {u v : Nat → Nat} {n : Nat} (h : u n ≠ v n) : dif u v (n + 1) = dif u v n + 1 := by
  show dif u v n + (if u n = v n then 0 else 1) = _
  rw [if_neg h]
def unl (d : HD) (f : Nat → Nat) (w p : Nat) : Nat := dif (hL d w) (fun k => f (p + k)) (hZ d w)
/-- a table by place and what is ahead, filled from the end of n letters on -/
def frec (d : HD) (n z : Nat) (F : Nat → Nat → (Nat → Nat) → Nat) : Nat → Nat → Nat → Nat
  | 0, _, _ => z
  | r + 1, p, b => if p < n then F p b (fun w => frec d n z F r (p + hZ d w) (w + 1)) else z
def Fc (d : HD) (F : Nat → Nat → (Nat → Nat) → Nat) : Prop := ∀ p b (h h' : Nat → Nat), (∀ w, w < hN d → h w = h' w) → F p b h = F p b h'
theorem frec_fuel {d : HD} {n z : Nat} {F : Nat → Nat → (Nat → Nat) → Nat} (W : HW d) (C : Fc d F) : ∀ r p b, n ≤ p + r → frec d n z F (r + 1) p b = frec d n z F r p b := by
  intro r
  induction r with
  | zero =>
    intro p b h
    show (if p < n then _ else z) = z
    rw [if_neg (by omega)]
  | succ r ih =>
    intro p b h
    show (if p < n then F p b (fun w => frec d n z F (r + 1) (p + hZ d w) (w + 1)) else z) = (if p < n then F p b (fun w => frec d n z F r (p + hZ d w) (w + 1)) else z)
    by_cases hp : p < n
    · rw [if_pos hp, if_pos hp]
      refine C p b _ _ (fun w hw => ih _ _ ?_)
      have := (W.2.2.1 w hw).1
      omega
    · rw [if_neg hp, if_neg hp]
theorem frec_s {d : HD} {n z p b : Nat} {F : Nat → Nat → (Nat → Nat) → Nat} (W : HW d) (C : Fc d F) (hn : n ≤ 12) (hp : p < n) : frec d n z F 12 p b = F p b (fun w => frec d n z F 12 (p + hZ d w) (w + 1)) := by
  show (if p < n then F p b (fun w => frec d n z F 11 (p + hZ d w) (w + 1)) else z) = _
  rw [if_pos hp]
  refine C p b _ _ (fun w hw => (frec_fuel W C 11 _ _ ?_).symm)
  have := (W.2.2.1 w hw).1
  omega
theorem frec_n {d : HD} {n z p b : Nat} {F : Nat → Nat → (Nat → Nat) → Nat} (hp : n ≤ p) : frec d n z F 12 p b = z := by
  show (if p < n then _ else z) = z
  rw [if_neg (by omega)]
/-- the least of some, K at the most -/
def mn (K : Nat) (p : Nat → Bool) (v : Nat → Nat) : Nat → Nat
  | 0 => K
  | w + 1 => if p w = true then min (mn K p v w) (v w) else mn K p v w
theorem mn_t {K : Nat} {p : Nat → Bool} {v : Nat → Nat} {w : Nat} (h : p w = true) : mn K p v (w + 1) = min (mn K p v w) (v w) := by
  show (if p w = true then _ else _) = _
  rw [if_pos h]
theorem mn_f {K : Nat} {p : Nat → Bool} {v : Nat → Nat} {w : Nat} (h : p w = false) : mn K p v (w + 1) = mn K p v w := by
  show (if p w = true then _ else _) = _
  rw [if_neg (by rw [h]; decide)]
theorem mn_le (K : Nat) (p : Nat → Bool) (v : Nat → Nat) : ∀ n, mn K p v n ≤ K := by
  intro n
  induction n with
  | zero => exact Nat.le_refl _
  | succ n ih =>
    cases h : p n with
    | false => rw [mn_f h]; exact ih
    | true => rw [mn_t h]; exact Nat.le_trans (Nat.min_le_left _ _) ih
theorem mn_congr {K : Nat} {p : Nat → Bool} {v v' : Nat → Nat} : ∀ n, (∀ k, k < n → v k = v' k) → mn K p v n = mn K p v' n := by
  intro n
  induction n with
  | zero => intro _; rfl
  | succ n ih =>
    intro e
    have ih := ih (fun k hk => e k (by omega))
    cases h : p n with
    | false => rw [mn_f h, mn_f h, ih]
    | true => rw [mn_t h, mn_t h, ih, e n (by omega)]
theorem mn_ext {K : Nat} {p : Nat → Bool} {v : Nat → Nat} {n : Nat} : ∀ m, (∀ k, n ≤ k → k < n + m → p k = false) → mn K p v (n + m) = mn K p v n := by
  intro m
  induction m with
  | zero => intro _; rfl
  | succ m ih =>
    intro h
    rw [← Nat.add_assoc, mn_f (h (n + m) (by omega) (by omega))]
    exact ih (fun k h1 h2 => h k h1 (by omega))
def mF (d : HD) (f : Nat → Nat) (n K p b : Nat) (h : Nat → Nat) : Nat := mn K (tb (hBw d b)) (fun w => if p + hZ d w ≤ n then unl d f w p + h w else K) (hN d)
theorem mF_c (d : HD) (f : Nat → Nat) (n K : Nat) : Fc d (mF d f n K) := by
  intro p b h h' e
  unfold mF
  apply mn_congr
  intro w hw
  simp only [e w hw]
/-- fewest changes from a place on, K if there is no reading -/
def mT (d : HD) (f : Nat → Nat) (n K : Nat) : Nat → Nat → Nat := frec d n 0 (mF d f n K) 12
def mB (d : HD) (f : Nat → Nat) (n K p w : Nat) : Nat := if p + hZ d w ≤ n then unl d f w p + mT d f n K (p + hZ d w) (w + 1) else K
theorem mT_s {d : HD} {f : Nat → Nat} {n K p b : Nat} (W : HW d) (hn : n ≤ 12) (hp : p < n) : mT d f n K p b = mn K (tb (hBw d b)) (mB d f n K p) (hN d) := frec_s W (mF_c d f n K) hn hp
theorem mT_n {d : HD} {f : Nat → Nat} {n K p b : Nat} (hp : n ≤ p) : mT d f n K p b = 0 := frec_n hp
theorem mT_le {d : HD} {f : Nat → Nat} {n K p b : Nat} (W : HW d) (hn : n ≤ 12) : mT d f n K p b ≤ K := by
  by_cases hp : p < n
  · rw [mT_s W hn hp]; exact mn_le _ _ _ _
  · rw [mT_n (by omega)]; omega
theorem unl_le (d : HD) (f : Nat → Nat) (w p : Nat) : unl d f w p ≤ hZ d w := dif_le _ _ _
theorem mB_le {d : HD} {f : Nat → Nat} {n K p w : Nat} (W : HW d) (hn : n ≤ 12) (hw : w < hN d) : mB d f n K p w ≤ K + 6 := by
  have h1 := unl_le d f w p
  have h2 := (W.2.2.1 w hw).2
  have h3 := mT_le (f := f) (n := n) (K := K) (p := p + hZ d w) (b := w + 1) W hn
  unfold mB
  split <;> omega
theorem mT_two {d : HD} {f : Nat → Nat} {n : Nat} (W : HW d) (hn : n ≤ 12) : ∀ r p b, p + r = n → (∀ K, 13 ≤ K → 0 < r → mT d f n K p b = K) ∧ 0 < r ∨ ∃ x, x ≤ n - p ∧ ∀ K, 13 ≤ K → mT d f n K p b = x := by
  intro r
  induction r using Nat.strongRecOn with
  | ind r ih =>
    intro p b hp
    by_cases h0 : r = 0
    · exact Or.inr ⟨0, Nat.zero_le _, fun K _ => mT_n (by omega)⟩
    · have step : ∀ N, N ≤ hN d → (∀ K, 13 ≤ K → mn K (tb (hBw d b)) (mB d f n K p) N = K) ∨ ∃ x, x ≤ n - p ∧ ∀ K, 13 ≤ K → mn K (tb (hBw d b)) (mB d f n K p) N = x := by
        intro N
        induction N with
        | zero => intro _; exact Or.inl (fun K _ => rfl)
        | succ N ihN =>
          intro hN1
          have ihN := ihN (by omega)
          cases hb : tb (hBw d b) N with
          | false =>
            rcases ihN with h | ⟨x, hx, h⟩
            · exact Or.inl (fun K hK => by rw [mn_f hb]; exact h K hK)
            · exact Or.inr ⟨x, hx, fun K hK => by rw [mn_f hb]; exact h K hK⟩
          | true =>
            have z1 := (W.2.2.1 N (by omega)).1
            have u1 := unl_le d f N p
            by_cases hf : p + hZ d N ≤ n
            · rcases ih (n - (p + hZ d N)) (by omega) (p + hZ d N) (N + 1) (by omega) with ⟨e, e0⟩ | ⟨x', hx', e⟩
              · have em : ∀ K, 13 ≤ K → mB d f n K p N = unl d f N p + K := fun K hK => by unfold mB; rw [if_pos hf, e K hK e0]
                rcases ihN with h | ⟨x, hx, h⟩
                · exact Or.inl (fun K hK => by rw [mn_t hb, h K hK, em K hK, Nat.min_eq_left (by omega)])
                · exact Or.inr ⟨x, hx, fun K hK => by rw [mn_t hb, h K hK, em K hK, Nat.min_eq_left (by omega)]⟩
              · have em : ∀ K, 13 ≤ K → mB d f n K p N = unl d f N p + x' := fun K hK => by unfold mB; rw [if_pos hf, e K hK]
                rcases ihN with h | ⟨x, hx, h⟩
                · exact Or.inr ⟨unl d f N p + x', by omega, fun K hK => by rw [mn_t hb, h K hK, em K hK, Nat.min_eq_right (by omega)]⟩
                · exact Or.inr ⟨min x (unl d f N p + x'), by omega, fun K hK => by rw [mn_t hb, h K hK, em K hK]⟩
            · have em : ∀ K, mB d f n K p N = K := fun K => by unfold mB; rw [if_neg hf]
              rcases ihN with h | ⟨x, hx, h⟩
              · exact Or.inl (fun K hK => by rw [mn_t hb, h K hK, em K, Nat.min_self])
              · exact Or.inr ⟨x, hx, fun K hK => by rw [mn_t hb, h K hK, em K, Nat.min_eq_left (by omega)]⟩
      rcases step (hN d) (Nat.le_refl _) with h | ⟨x, hx, h⟩
      · exact Or.inl ⟨fun K hK _ => by rw [mT_s W hn (by omega)]; exact h K hK, by omega⟩
      · exact Or.inr ⟨x, hx, fun K hK => by rw [mT_s W hn (by omega)]; exact h K hK⟩
def mA (d : HD) (f : Nat → Nat) (n K : Nat) : Int32 := if mT d f n K 0 0 < K then nI (mT d f n K 0 0) else -1
theorem mA_two {d : HD} {f : Nat → Nat} {n : Nat} (W : HW d) (hn : n ≤ 12) : mA d f n 9999 = mA d f n 1000 := by
  unfold mA
  rcases mT_two (f := f) W hn n 0 0 (by omega) with ⟨e, e0⟩ | ⟨x, hx, e⟩
  · rw [e 9999 (by decide) e0, e 1000 (by decide) e0, if_neg (by omega), if_neg (by omega)]
  · rw [e 9999 (by decide), e 1000 (by decide), if_pos (by omega), if_pos (by omega)]
theorem nI_d1 (q : Nat) : nI (q + 1) - 1 = nI q := pk_sub (b := 1) (by omega)
theorem nI_a1 (q : Nat) : nI q + (-1) = nI q - 1 := (Int32.sub_eq_add_neg _ _).symm
section MEND
variable {g : zG} {I : Nat → Nat → Int32} {P : Nat → Nat → Option Nat} {t : TD} {im : Nat → Option TD} {a : Nat} {d : HD}
theorem c_changesAt {w b o n N : Nat} {v : Nat → Nat} (T : HlS g P a) (W : HW d) (D : HlD I a d) (hw : w < hN d) (hn : n ≤ hZ d w) (kb : zk g b 13) (lb : g.2.2 b = N) (hNN : N < 2 ^ 31) (ho : o + n ≤ N) (hv : ∀ k, k < n → I b (o + k) = nI (v k) ∧ v k < 2 ^ 31) : Cl mX3_changesAt [.ref a, .int (nI w), .ref b, .int (nI o), .int (nI n)] (g, I, P) (some (.int (nI (dif (hL d w) v n)))) (g, I, P) := by
  have hz := (W.2.2.1 w hw).2
  have key : ∀ m k, k + m = n → Zt none mX3_changesAt 0 0 6 [(0, .ref a), (1, .int (nI w)), (2, .ref b), (3, .int (nI o)), (4, .int (nI n)), (5, .int (nI (dif (hL d w) v k))), (6, .int (nI k))] [] (g, I, P) (some (.int (nI (dif (hL d w) v n)))) (g, I, P) := by
    intro m
    induction m with
    | zero =>
      intro k hk
      obtain rfl : k = n := hk
      exact wX3_changesAt_6 ⟨fun _ => ⟨rfl, rfl⟩, fun q => absurd (Int32.le_refl _) q⟩
    | succ m ih =>
      intro k hk
      have ih := ih (k + 1) (by omega)
      have hl := W.2.2.2.2 w k hw (by omega)
      obtain ⟨v1, v2⟩ := hv k (by omega)
      refine wX3_changesAt_6 ⟨fun q => absurd q (nI_ge (by omega) (by omega)), fun _ => ⟨T.1, _, c_letterOf T W D hw (by omega), _, by rw [nI_add]; exact c_got kb lb hNN (by omega), pk_eq (hL d w k) (v k) (fun h => ?_) (fun h => ?_) rfl v1⟩⟩
      · rw [dif_e h] at ih
        rw [nI_1]; exact ih
      · rw [dif_n h] at ih
        rw [nI_1, nI_1]; exact ih
  exact eX3_changesAt (wX3_changesAt_0 (key n 0 (by omega)))
theorem r_unlike {w p n h0 l0 : Nat} {f : Nat → Nat} (S : Sg g) (Q : Sp P) (W : HW d) (D : MhD I h0 d) (E : MeD I l0 n f) (hn : n ≤ 12) (hf : ∀ k, k < n → f k < 6) (hw : w < hN d) (hp : p ≤ 12) : Cl mX12_unlike [.ref 95, .int (nI w), .int (nI p)] (g, I, P) (some (.int (if p + hZ d w ≤ n then nI (unl d f w p) else 9999))) (g, I, P) := by
  have hz := (W.2.2.1 w hw).2
  refine eX12_unlike (wX12_unlike_0 ⟨S.k 95 12 (by decide), _, r_longOf S Q W D hw, S.k 95 12 (by decide), pk_le (p + hZ d w) n (fun h => ?_) (fun h => ⟨?_, rfl⟩) (by rw [nI_add]) E.2.2.1⟩)
  · rw [if_pos h]
    have key : ∀ m k, k + m = hZ d w → Zt none mX12_unlike 0 0 23 [(0, .ref 95), (1, .int (nI w)), (2, .int (nI p)), (3, .int (nI (dif (hL d w) (fun k => f (p + k)) k))), (4, .int (nI k))] [] (g, I, P) (some (.int (nI (unl d f w p)))) (g, I, P) := by
      intro m
      induction m with
      | zero =>
        intro k hk
        obtain rfl : k = hZ d w := hk
        exact wX12_unlike_23 ⟨S.k 95 12 (by decide), _, r_longOf S Q W D hw, fun _ => ⟨rfl, rfl⟩, fun q => absurd (Int32.le_refl _) q⟩
      | succ m ih =>
        intro k hk
        have ih := ih (k + 1) (by omega)
        have hl := W.2.2.2.2 w k hw (by omega)
        have hf1 := hf (p + k) (by omega)
        refine wX12_unlike_23 ⟨S.k 95 12 (by decide), _, r_longOf S Q W D hw, fun q => absurd q (nI_ge (by omega) (by omega)), fun _ => ⟨S.k 95 12 (by decide), _, r_letterOf S Q W D hw (by omega), S.k 95 12 (by decide), _, by rw [nI_add]; exact r_inLine S Q E (by omega), pq_eq (hL d w k) (f (p + k)) (fun h => ?_) (fun h => ?_)⟩⟩
        · rw [dif_n (v := fun k => f (p + k)) h] at ih
          rw [nI_1, nI_1]; exact ih
        · rw [dif_e (v := fun k => f (p + k)) h] at ih
          rw [nI_1, Int32.add_zero]; exact ih
    exact key (hZ d w) 0 (by omega)
  · rw [if_neg (by omega)]
def K81 (I J : Nat → Nat → Int32) : Prop := ∀ c, c ≠ 81 → J c = I c
theorem K81.p {I J : Nat → Nat → Int32} (h : K81 I J) : Kp I J := fun a ha => h a (by omega)
theorem K81.u {I J : Nat → Nat → Int32} (h : K81 I J) (k : Nat) (x : Int32) : K81 I (zU J 81 k x) := fun c hc => by rw [← h c hc]; funext q; rw [zU_a _ _ hc]
theorem Er.k81 {J : Nat → Nat → Int32} {n : Nat} {f : Nat → Nat} (E : Er g I P a d n f) (h : K81 I J) : Er g J P a d n f := by
  obtain ⟨S, Q, T, W, D, e1, e2, e3, e5, e4⟩ := E
  exact ⟨S, Q, T, W, D.keep (fun j hj => h _ (by omega)), e1, by rw [h 73 (by decide)]; exact e2, e3, e5, fun i hi => by rw [h 80 (by decide)]; exact e4 i hi⟩
theorem c_fewestBehind {n p : Nat} {f : Nat → Nat} {s : Int32} {e : Nat → Nat} (E : Er g I P a d n f) (hp : p < 13) (hs : ∀ w, w < 10 → tb s w = true → w < hN d) (he : ∀ w, w < hN d → I 81 (10 * p + w) = nI (e w) ∧ e w ≤ 1006) : Cl mX1_fewestBehind [.ref 73, .int (nI p), .int s] (g, I, P) (some (.int (nI (mn 1000 (tb s) e (hN d))))) (g, I, P) := by
  obtain ⟨S, Q, T, W, D, -⟩ := E
  have h10 := W.2.1
  have e10 := mn_ext (K := 1000) (p := tb s) (v := e) (n := hN d) (10 - hN d) (fun k h1 h2 => by
    cases hb : tb s k with
    | false => rfl
    | true => have := hs k (by omega) hb; omega)
  rw [show hN d + (10 - hN d) = 10 by omega] at e10
  rw [← e10]
  have key : ∀ m w, w + m = 10 → Zt none mX1_fewestBehind 0 0 7 [(0, .ref 73), (1, .int (nI p)), (2, .int s), (3, .int (nI (mn 1000 (tb s) e w))), (4, .int (nI w))] [] (g, I, P) (some (.int (nI (mn 1000 (tb s) e 10)))) (g, I, P) := by
    intro m
    induction m with
    | zero =>
      intro w hw
      obtain rfl : w = 10 := hw
      exact wX1_fewestBehind_7 ⟨fun _ => ⟨rfl, rfl⟩, fun q => absurd (by decide) q⟩
    | succ m ih =>
      intro w hw
      have ih := ih (w + 1) (by omega)
      have hm := mn_le 1000 (tb s) e w
      refine wX1_fewestBehind_7 ⟨fun q => absurd q (nI_ge (b := 10) (by omega) (by decide)), fun _ => ⟨_, c_has (by omega), zp (fun h => ?_) (fun h => ?_)⟩⟩
      · rw [mn_f h] at ih
        rw [nI_1]; exact ih
      · obtain ⟨a1, a2⟩ := he w (hs w (by omega) h)
        rw [mn_t h] at ih
        refine ⟨S.k 73 1 (by decide), 81, Q.p 73 3 81 (by decide), _, by rw [show nI p * 10 + nI w = nI (10 * p + w) by rw [show (10 : Int32) = nI 10 from rfl, pk_mul, nI_add, Nat.mul_comm]]; exact c_got (S.k 81 13 (by decide)) (S.l 81 130 (by decide)) (by decide) (by omega), ?_⟩
        rw [a1, zmmin_n (by omega) (by omega), nI_1]; exact ih
  exact eX1_fewestBehind (wX1_fewestBehind_0 (key 10 0 rfl))
theorem c_mended {n : Nat} {f : Nat → Nat} (E : Er g I P a d n f) (X : HX d) (hn1 : 1 ≤ n) : ∃ J, Cl mX1_mended [.ref 73] (g, I, P) (some (.int (mA d f n 1000))) (g, J, P) ∧ K81 I J := by
  have E0 := E
  obtain ⟨S, Q, T, W, D, e1, e2, e3, e5, e4⟩ := E
  have h10 := W.2.1
  obtain ⟨I1, f1, f2, f3⟩ := c_fill (I := I) (P := P) (x := 1000) (S.k 81 13 (by decide)) (S.l 81 130 (by decide)) (by decide)
  have key : ∀ q (K : Nat → Nat → Int32), q ≤ n → K81 I K → (∀ p w, p < q → w < hN d → K 81 (10 * p + w) = 1000) → (∀ p w, q ≤ p → p < n → w < hN d → K 81 (10 * p + w) = nI (mB d f n 1000 p w)) → ∃ J, Zt none mX1_mended 0 0 17 [(0, .ref 73), (1, .int (nI q - 1))] [] (g, K, P) (some (.int (mA d f n 1000))) (g, J, P) ∧ K81 I J := by
    intro q
    induction q with
    | zero =>
      intro K _ hK h1 h2
      have EK := E0.k81 hK
      have DK := EK.2.2.2.2.1
      have fb := c_fewestBehind (p := 0) (s := hAll d) (e := mB d f n 1000 0) EK (by decide) (fun w hw h => by rw [tb_all W (by omega)] at h; exact of_decide_eq_true h) (fun w hw => ⟨h2 0 w (by omega) (by omega) hw, mB_le W e3 hw⟩)
      have em : mn 1000 (tb (hAll d)) (mB d f n 1000 0) (hN d) = mT d f n 1000 0 0 := (mT_s (b := 0) W e3 (by omega)).symm
      rw [em] at fb
      have hl := mT_le (f := f) (n := n) (K := 1000) (p := 0) (b := 0) W e3
      refine ⟨K, wX1_mended_17 ⟨fun _ => ⟨S.k 73 1 (by decide), _, e1, T.1, _, c_all T DK, S.k 73 1 (by decide), _, fb, pk_lt (mT d f n 1000 0 0) 1000 (fun h => ⟨?_, rfl⟩) (fun h => ⟨?_, rfl⟩)⟩, fun q => absurd (by decide) q⟩, hK⟩
      · unfold mA; rw [if_pos h]
      · unfold mA; rw [if_neg (by omega)]
    | succ q ih =>
      intro K hq hK h1 h2
      have inner : ∀ m w (K : Nat → Nat → Int32), w + m = hN d → K81 I K → (∀ p v, p < q → v < hN d → K 81 (10 * p + v) = 1000) → (∀ v, w ≤ v → v < hN d → K 81 (10 * q + v) = 1000) → (∀ v, v < w → K 81 (10 * q + v) = nI (mB d f n 1000 q v)) → (∀ p v, q + 1 ≤ p → p < n → v < hN d → K 81 (10 * p + v) = nI (mB d f n 1000 p v)) → ∃ J, Zt none mX1_mended 0 0 23 [(0, .ref 73), (1, .int (nI q)), (2, .int (nI w))] [] (g, K, P) (some (.int (mA d f n 1000))) (g, J, P) ∧ K81 I J := by
        intro m
        induction m with
        | zero =>
          intro w K hw hK a1 a2 a3 a4
          obtain rfl : w = hN d := hw
          have DK := (E0.k81 hK).2.2.2.2.1
          obtain ⟨J, z, z2⟩ := ih K (by omega) hK a1 (fun p v p1 p2 p3 => by
            by_cases hpq : p = q
            · subst hpq; exact a3 v p3
            · exact a4 p v (by omega) p2 p3)
          exact ⟨J, wX1_mended_23 ⟨S.k 73 1 (by decide), _, e1, T.1, fun _ => by rw [nI_a1]; exact z, fun q => absurd (by rw [DK.2.1]; exact Int32.le_refl _) q⟩, z2⟩
        | succ m ihw =>
          intro w K hw hK a1 a2 a3 a4
          have EK := E0.k81 hK
          obtain ⟨-, -, -, -, DK, -, k2, -, -, k4⟩ := EK
          have EK := E0.k81 hK
          have hz := W.2.2.1 w (by omega)
          have nb : ¬ K a 1 ≤ nI w := by rw [DK.2.1]; exact nI_ge (by omega) (by omega)
          by_cases hfit : q + hZ d w ≤ n
          · have go : ∀ x, x = mT d f n 1000 (q + hZ d w) (w + 1) → ∃ J, Zt none mX1_mended 0 0 78 [(0, .ref 73), (1, .int (nI q)), (2, .int (nI w))] [.int (nI x)] (g, K, P) (some (.int (mA d f n 1000))) (g, J, P) ∧ K81 I J := by
              rintro x hx
              obtain ⟨J, z, z2⟩ := ihw (w + 1) (zU K 81 (10 * q + w) (nI (mB d f n 1000 q w))) (by omega) (hK.u _ _) (fun p v p1 p2 => by rw [zU_k _ _ (by omega)]; exact a1 p v p1 p2) (fun v v1 v2 => by rw [zU_k _ _ (by omega)]; exact a2 v (by omega) v2) (fun v hv => by
                by_cases hvw : v = w
                · subst hvw; rw [zU_s]
                · rw [zU_k _ _ (by omega)]; exact a3 v (by omega)) (fun p v p1 p2 p3 => by rw [zU_k _ _ (by omega)]; exact a4 p v p1 p2 p3)
              have em : mB d f n 1000 q w = x + unl d f w q := by unfold mB; rw [if_pos hfit, hx, Nat.add_comm]
              refine ⟨J, wX1_mended_78 ⟨S.k 73 1 (by decide), 81, Q.p 73 3 81 (by decide), S.k 73 1 (by decide), _, e1, S.k 73 1 (by decide), 80, Q.p 73 2 80 (by decide), S.k 73 1 (by decide), _, e1, T.1, _, c_sizeOf T W DK (by omega), T.1, _, c_changesAt (v := fun k => f (q + k)) T W DK (by omega) (Nat.le_refl _) (S.k 80 13 (by decide)) (S.l 80 12 (by decide)) (by decide) (by omega) (fun k hk => ⟨(k4 (q + k) (by omega)).1, by have := (k4 (q + k) (by omega)).2; omega⟩), _, by rw [show nI q * 10 + nI w = nI (10 * q + w) by rw [show (10 : Int32) = nI 10 from rfl, pk_mul, nI_add, Nat.mul_comm]]; exact c_put (S.k 81 13 (by decide)) (S.l 81 130 (by decide)) (by decide) (by omega), ?_⟩, z2⟩
              rw [em] at z
              rw [nI_add, nI_1]; exact z
            by_cases he : q + hZ d w = n
            · obtain ⟨J, z, z2⟩ := go 0 (mT_n (by omega)).symm
              exact ⟨J, wX1_mended_23 ⟨S.k 73 1 (by decide), _, e1, T.1, fun q => absurd q nb, fun _ => ⟨S.k 73 1 (by decide), _, e1, T.1, _, c_sizeOf T W DK (by omega), S.k 73 1 (by decide), pk_lt n (q + hZ d w) (fun h => absurd hfit (by omega)) (fun _ => ⟨S.k 73 1 (by decide), pq_eq (q + hZ d w) n (fun h => absurd he h) (fun _ => z) (by rw [nI_add]) k2⟩) k2 (by rw [nI_add])⟩⟩, z2⟩
            · obtain ⟨J, z, z2⟩ := go _ rfl
              have fb := c_fewestBehind (p := q + hZ d w) (s := hBeh d w) (e := mB d f n 1000 (q + hZ d w)) EK (by omega) (fun v hv h => hBeh_lt W X (by omega) (by omega) h) (fun v hv => ⟨a4 _ v (by omega) (by omega) hv, mB_le W e3 hv⟩)
              have em : mn 1000 (tb (hBeh d w)) (mB d f n 1000 (q + hZ d w)) (hN d) = mT d f n 1000 (q + hZ d w) (w + 1) := (mT_s (b := w + 1) W e3 (by omega)).symm
              rw [em] at fb
              exact ⟨J, wX1_mended_23 ⟨S.k 73 1 (by decide), _, e1, T.1, fun q => absurd q nb, fun _ => ⟨S.k 73 1 (by decide), _, e1, T.1, _, c_sizeOf T W DK (by omega), S.k 73 1 (by decide), pk_lt n (q + hZ d w) (fun h => absurd hfit (by omega)) (fun _ => ⟨S.k 73 1 (by decide), pq_eq (q + hZ d w) n (fun _ => ⟨S.k 73 1 (by decide), _, e1, T.1, _, c_behind T W DK (by omega), S.k 73 1 (by decide), _, by rw [nI_add]; exact fb, z⟩) (fun h => absurd h he) (by rw [nI_add]) k2⟩) k2 (by rw [nI_add])⟩⟩, z2⟩
          · obtain ⟨J, z, z2⟩ := ihw (w + 1) K (by omega) hK a1 (fun v v1 v2 => a2 v (by omega) v2) (fun v hv => by
              by_cases hvw : v = w
              · subst hvw
                rw [a2 v (Nat.le_refl _) (by omega)]
                unfold mB
                rw [if_neg hfit]; rfl
              · exact a3 v (by omega)) a4
            exact ⟨J, wX1_mended_23 ⟨S.k 73 1 (by decide), _, e1, T.1, fun q => absurd q nb, fun _ => ⟨S.k 73 1 (by decide), _, e1, T.1, _, c_sizeOf T W DK (by omega), S.k 73 1 (by decide), pk_lt n (q + hZ d w) (fun _ => by rw [nI_1]; exact z) (fun h => absurd h (by omega)) k2 (by rw [nI_add])⟩⟩, z2⟩
      obtain ⟨J, z, z2⟩ := inner (hN d) 0 K (by omega) hK (fun p v p1 p2 => h1 p v (by omega) p2) (fun v _ v2 => h1 q v (by omega) v2) (fun v hv => by omega) h2
      rw [nI_d1]
      exact ⟨J, wX1_mended_17 ⟨fun q => absurd q (nI_pos (by omega)), fun _ => z⟩, z2⟩
  have hI1 : K81 I I1 := f3
  obtain ⟨J, z, z2⟩ := key n I1 (Nat.le_refl _) hI1 (fun p w hp hw => f2 _ (by omega)) (fun p w h1 h2 => by omega)
  refine ⟨J, eX1_mended (wX1_mended_0 ⟨S.k 73 1 (by decide), 81, Q.p 73 3 81 (by decide), _, f1, S.k 73 1 (by decide), ?_⟩), z2⟩
  rw [hI1 73 (by decide), e2]; exact z
theorem r_mended {n h0 l0 : Nat} {f : Nat → Nat} (S : Sg g) (Q : Sp P) (W : HW d) (D : MhD I h0 d) (E : MeD I l0 n f) (hn : n ≤ 12) (hf : ∀ k, k < n → f k < 6) : ∃ J, Cl mX12_mendedOf [.ref 95] (g, I, P) (some (.int (mA d f n 9999))) (g, J, P) ∧ Kw I J := by
  have h10 := W.2.1
  obtain ⟨o1, o2⟩ := ix (x := 0) (k := 0) (N := 143) rfl (by decide) (by decide)
  have key : ∀ q (K : Nat → Nat → Int32), q ≤ n + 1 → Kw I K → (∀ p b, q ≤ p → p ≤ n → b ≤ hN d → K 107 (11 * p + b) = nI (mT d f n 9999 p b)) → ∃ J, Zt none mX12_mendedOf 0 0 5 [(0, .ref 95), (1, .int (nI q - 1))] [] (g, K, P) (some (.int (mA d f n 9999))) (g, J, P) ∧ Kw I J := by
    intro q
    induction q with
    | zero =>
      intro K _ hK h2
      have hl := mT_le (f := f) (n := n) (K := 9999) (p := 0) (b := 0) W hn
      have e0 : K 107 (0 : Int32).toNatClampNeg = nI (mT d f n 9999 0 0) := by rw [o2]; exact h2 0 0 (by omega) (by omega) (by omega)
      refine ⟨K, wX12_mendedOf_5 ⟨fun _ => ⟨S.k 95 12 (by decide), 107, Q.p 95 28 107 (by decide), S.k 107 13 (by decide), by rw [S.l 107 143 (by decide)]; exact o1, pk_lt (mT d f n 9999 0 0) 9999 (fun h => ⟨S.k 95 12 (by decide), 107, Q.p 95 28 107 (by decide), S.k 107 13 (by decide), by rw [S.l 107 143 (by decide)]; exact o1, ?_, rfl⟩) (fun h => ⟨?_, rfl⟩) e0 rfl⟩, fun q => absurd (by decide) q⟩, hK⟩
      · rw [e0]; unfold mA; rw [if_pos h]
      · unfold mA; rw [if_neg (by omega)]
    | succ q ih =>
      intro K hq hK h2
      have inner : ∀ m b (K : Nat → Nat → Int32), b + m = hN d + 1 → Kw I K → (∀ c, c < b → K 107 (11 * q + c) = nI (mT d f n 9999 q c)) → (∀ p b, q + 1 ≤ p → p ≤ n → b ≤ hN d → K 107 (11 * p + b) = nI (mT d f n 9999 p b)) → ∃ J, Zt none mX12_mendedOf 0 0 11 [(0, .ref 95), (1, .int (nI q)), (2, .int (nI b))] [] (g, K, P) (some (.int (mA d f n 9999))) (g, J, P) ∧ Kw I J := by
        intro m
        induction m with
        | zero =>
          intro b K hb hK a1 a2
          obtain rfl : b = hN d + 1 := hb
          obtain ⟨J, z, z2⟩ := ih K (by omega) hK (fun p b p1 p2 p3 => by
            by_cases hpq : p = q
            · subst hpq; exact a1 b (by omega)
            · exact a2 p b (by omega) p2 p3)
          exact ⟨J, wX12_mendedOf_11 ⟨S.k 95 12 (by decide), fun _ => by rw [nI_a1]; exact z, fun q => absurd (by rw [(hK.h D).2.2.2.1]; exact nI_lt (by omega) (by omega)) q⟩, z2⟩
        | succ m ihb =>
          intro b K hb hK a1 a2
          have DK := hK.h D
          have EK := hK.e E
          obtain ⟨u1, u2⟩ := ix (x := 11 * nI q + nI b) (k := 11 * q + b) (N := 143) (by rw [show (11 : Int32) = nI 11 from rfl, pk_mul, nI_add]) (by omega) (by decide)
          obtain ⟨J, z, z2⟩ := ihb (b + 1) (zU K 107 (11 * q + b) (nI (mT d f n 9999 q b))) (by omega) (hK.u _ _) (fun c hc => by
            by_cases hcb : c = b
            · subst hcb; rw [zU_s]
            · rw [zU_k _ _ (by omega)]; exact a1 c (by omega)) (fun p c p1 p2 p3 => by rw [zU_k _ _ (by omega)]; exact a2 p c p1 p2 p3)
          have nb : ¬ K 95 15 < nI b := by rw [DK.2.2.2.1]; exact nI_nlt (by omega) (by omega)
          by_cases hqn : q = n
          · rw [mT_n (by omega)] at z
            have st : Zt none mX12_mendedOf 0 0 38 [(0, .ref 95), (1, .int (nI q)), (2, .int (nI b)), (3, .int 0), (4, .int 0)] [] (g, K, P) (some (.int (mA d f n 9999))) (g, J, P) := wX12_mendedOf_38 ⟨S.k 95 12 (by decide), fun _ => ⟨S.k 95 12 (by decide), 107, Q.p 95 28 107 (by decide), S.k 107 13 (by decide), by rw [S.l 107 143 (by decide)]; exact u1, by rw [u2, nI_1]; exact z⟩, fun _ => ⟨S.k 95 12 (by decide), fun _ => ⟨S.k 95 12 (by decide), 107, Q.p 95 28 107 (by decide), S.k 107 13 (by decide), by rw [S.l 107 143 (by decide)]; exact u1, by rw [u2, nI_1]; exact z⟩, fun h => absurd (by rw [EK.2.2.1, hqn]; exact Int32.le_refl _) h⟩⟩
            exact ⟨J, wX12_mendedOf_11 ⟨S.k 95 12 (by decide), fun h => absurd h nb, fun _ => ⟨S.k 95 12 (by decide), pq_eq q n (fun h => absurd hqn h) (fun _ => st) rfl EK.2.2.1⟩⟩, z2⟩
          · have em := mT_s (f := f) (K := 9999) (b := b) W hn (show q < n by omega)
            have fold : ∀ m w, w + m = hN d → Zt none mX12_mendedOf 0 0 38 [(0, .ref 95), (1, .int (nI q)), (2, .int (nI b)), (3, .int (nI (mn 9999 (tb (hBw d b)) (mB d f n 9999 q) w))), (4, .int (nI w))] [] (g, K, P) (some (.int (mA d f n 9999))) (g, J, P) := by
              intro m
              induction m with
              | zero =>
                intro w hw
                obtain rfl : w = hN d := hw
                rw [em] at z
                exact wX12_mendedOf_38 ⟨S.k 95 12 (by decide), fun _ => ⟨S.k 95 12 (by decide), 107, Q.p 95 28 107 (by decide), S.k 107 13 (by decide), by rw [S.l 107 143 (by decide)]; exact u1, by rw [u2, nI_1]; exact z⟩, fun h => absurd (by rw [DK.2.2.2.1]; exact Int32.le_refl _) h⟩
              | succ m ihw =>
                intro w hw
                have ihw := ihw (w + 1) (by omega)
                have ml := mn_le 9999 (tb (hBw d b)) (mB d f n 9999 q) w
                have hz := W.2.2.1 w (by omega)
                have ul := unl_le d f w q
                refine wX12_mendedOf_38 ⟨S.k 95 12 (by decide), fun h => ?_, fun _ => ⟨S.k 95 12 (by decide), fun h => ?_, fun _ => ⟨S.k 95 12 (by decide), _, r_behindA S Q W DK (by omega), _, r_holds, zp (fun h => ?_) (fun h => ⟨S.k 95 12 (by decide), _, r_unlike S Q W DK EK hn hf (by omega) (by omega), ?_⟩)⟩⟩⟩
                · rw [DK.2.2.2.1] at h
                  exact absurd h (nI_ge (by omega) (by omega))
                · rw [EK.2.2.1] at h
                  exact absurd h (nI_ge (by omega) (by omega))
                · rw [mn_f h] at ihw
                  rw [nI_1]; exact ihw
                · rw [mn_t h] at ihw
                  by_cases hfit : q + hZ d w ≤ n
                  · have e : mB d f n 9999 q w = unl d f w q + mT d f n 9999 (q + hZ d w) (w + 1) := by unfold mB; rw [if_pos hfit]
                    have tl := mT_le (f := f) (n := n) (K := 9999) (p := q + hZ d w) (b := w + 1) W hn
                    have ru := r_unlike S Q W DK EK hn hf (show w < hN d by omega) (show q ≤ 12 by omega)
                    rw [if_pos hfit] at ru
                    rw [if_pos hfit]
                    obtain ⟨v1, v2⟩ := ix (x := 11 * (nI q + nI (hZ d w)) + nI w + 1) (k := 11 * (q + hZ d w) + w + 1) (N := 143) (by rw [nI_add, show (11 : Int32) = nI 11 from rfl, pk_mul, nI_add, nI_1]) (by omega) (by decide)
                    refine pq_eq (unl d f w q) 9999 (fun _ => ⟨S.k 95 12 (by decide), _, ru, S.k 95 12 (by decide), 107, Q.p 95 28 107 (by decide), S.k 95 12 (by decide), _, r_longOf S Q W DK (by omega), S.k 107 13 (by decide), by rw [S.l 107 143 (by decide)]; exact v1, fun y hy => ?_⟩) (fun h => absurd h (by omega))
                    rw [v2, Nat.add_assoc, a2 (q + hZ d w) (w + 1) (by omega) hfit (by omega), nI_add, ← e] at hy
                    rw [hy, nI_1]
                    refine pk_le (mn 9999 (tb (hBw d b)) (mB d f n 9999 q) w) (mB d f n 9999 q w) (fun h => ?_) (fun h => ?_)
                    · rw [Nat.min_eq_left h] at ihw; exact ihw
                    · rw [Nat.min_eq_right (by omega)] at ihw; exact ihw
                  · have e : mB d f n 9999 q w = 9999 := by unfold mB; rw [if_neg hfit]
                    rw [e, Nat.min_eq_left ml] at ihw
                    rw [if_neg hfit]
                    exact ⟨fun h => absurd rfl h, fun _ => by rw [nI_1]; exact ihw⟩
            exact ⟨J, wX12_mendedOf_11 ⟨S.k 95 12 (by decide), fun h => absurd h nb, fun _ => ⟨S.k 95 12 (by decide), pq_eq q n (fun _ => fold (hN d) 0 (by omega)) (fun h => absurd h hqn) rfl EK.2.2.1⟩⟩, z2⟩
      obtain ⟨J, z, z2⟩ := inner (hN d + 1) 0 K (by omega) hK (fun c hc => by omega) h2
      rw [nI_d1]
      exact ⟨J, wX12_mendedOf_5 ⟨fun q => absurd q (nI_pos (by omega)), fun _ => z⟩, z2⟩
  obtain ⟨J, z, z2⟩ := key (n + 1) I (Nat.le_refl _) (Kw.rf I) (fun p b h1 h2 => by omega)
  rw [nI_d1] at z
  exact ⟨J, eX12_mendedOf (wX12_mendedOf_0 ⟨S.k 95 12 (by decide), by rw [E.2.2.1]; exact z⟩), z2⟩
theorem b_next (L : LI g I P t im) (x1 x2 x3 x4 : Int32) : ∃ (w : Int32) (I1 : Nat → Nat → Int32) (P1 : Nat → Nat → Option Nat) (J : Nat → Nat → Int32), Cl mX11_next [.ref 0, .int x1, .int x2, .int x3, .int x4] (g, I, P) (some (.int w)) (g, I1, P1) ∧ Kp I I1 ∧ KpP P P1 ∧ Cl mX12_next [.ref 95, .int x1, .int x2, .int x3, .int x4] (g, I1, P1) (some (.int w)) (g, J, P1) ∧ Km I1 J := by
  refine u_next L (fun i j k hp hl hk => ?_)
  have L0 := L
  obtain ⟨S, Q0, TW0, -⟩ := L
  have n1 := TW0.2.1.1
  have n3 := TW0.2.2.2.1.1
  have hi := (pk_some (by omega) hp).1
  have hj := (pk_some (by omega) hl).1
  have WL := TW0.2.2.2.1.2 j hj
  have nl := WL.1
  have hk1 := (pk_some (by omega) hk).1
  have X := (TW0.2.1.2 i hi).2
  have hn1 := (WL.2 k hk1).1.1
  obtain ⟨I1, z, kI, kP, E, M1⟩ := hear L0 hp hl hk
  have E0 := E
  obtain ⟨-, Q, -, HW0, -, -, -, e12, -, ef⟩ := E
  have cc : ∀ (w : Int32) (I2 : Nat → Nat → Int32), ((x4 = 0) → w = bs (fun c => gAny (tH t i) (bs (beg (tH t i) ((tL t j).2.2 k) ((tL t j).2.1 k)) (hN (tH t i))) ((tL t j).2.1 k) c (hN (tH t i))) 6 ∧ I2 = I1) → ((x4 = 1) → w = oI (bst (fun c => gAny (tH t i) (bs (beg (tH t i) ((tL t j).2.2 k) ((tL t j).2.1 k)) (hN (tH t i))) ((tL t j).2.1 k) c (hN (tH t i))) (fun c => gSum (tH t i) (bs (beg (tH t i) ((tL t j).2.2 k) ((tL t j).2.1 k)) (hN (tH t i))) ((tL t j).2.1 k) c (hN (tH t i))) 6) ∧ I2 = I1) → ((x4 = 2) → Cl mX1_mended [.ref 73] (g, I1, zU P 73 0 (some (8 + 16 * i))) (some (.int w)) (g, I2, zU P 73 0 (some (8 + 16 * i)))) → (¬ x4 = 0 → ¬ x4 = 1 → ¬ x4 = 2 → w = -2 ∧ I2 = I1) → Cl mX11_next [.ref 0, .int x1, .int x2, .int x3, .int x4] (g, I, P) (some (.int w)) (g, I2, zU P 73 0 (some (8 + 16 * i))) := by
    intro w I2 w0 w1 w2 w3
    refine eX11_next (wX11_next_0 ⟨S.k 0 11 (by decide), 73, Q0.p 0 4 73 (by decide), S.k 0 11 (by decide), 1, Q0.p 0 0 1 (by decide), S.k 1 9 (by decide), _, c_hillY L0 hp, fun q => (nomatch q), fun b hb => ⟨S.k 0 11 (by decide), 1, Q0.p 0 0 1 (by decide), S.k 1 9 (by decide), _, c_linesY L0 hl, fun q => (nomatch q), fun b2 hb2 => ?_⟩⟩)
    cases hb
    cases hb2
    refine ⟨S.k 73 1 (by decide), _, _, _, z, fun _ => ⟨fun q => ⟨S.k 0 11 (by decide), 73, Q.p 0 4 73 (by decide), S.k 73 1 (by decide), _, c_lettersBehind E0, ?_, ?_⟩, fun q => ⟨S.k 0 11 (by decide), 73, Q.p 0 4 73 (by decide), S.k 73 1 (by decide), _, c_keenest E0, ?_, ?_⟩, fun q => ⟨S.k 0 11 (by decide), 73, Q.p 0 4 73 (by decide), S.k 73 1 (by decide), _, _, w2 q, rfl, rfl⟩, fun q1 q2 q3 => ⟨?_, ?_⟩⟩, fun q => absurd q (by decide)⟩
    · rw [(w0 q).1]
    · rw [(w0 q).2]
    · rw [(w1 q).1]
    · rw [(w1 q).2]
    · rw [(w3 q1 q2 q3).1]
    · rw [(w3 q1 q2 q3).2]
  by_cases h2 : x4 = 2
  · obtain ⟨I2, zm, km⟩ := c_mended E0 X hn1
    have M2 : MtA I2 0 t := M1.keep (km 96 (by decide))
    obtain ⟨J1, J2, z1, z2, D2, ⟨l0, E2⟩, f2⟩ := hearR S Q TW0 M2 hp hl hk
    obtain ⟨J3, z3, f3⟩ := r_mended S Q HW0 D2 E2 e12 (fun q hq => (ef q hq).2)
    rw [mA_two HW0 e12] at z3
    refine ⟨_, I2, _, J3, cc _ I2 (fun h => absurd (h.symm.trans h2) (by decide)) (fun h => absurd (h.symm.trans h2) (by decide)) (fun _ => zm) (fun _ _ h => absurd h2 h), kI.tr km.p, kP, eX12_next (wX12_next_0 ⟨S.k 95 12 (by decide), _, _, z1, fun q => absurd q (by decide), fun _ => ⟨S.k 95 12 (by decide), _, _, z2, fun q => absurd q (by decide), fun _ => ⟨_, r_isIn, fun _ => ⟨fun h => absurd h2 h, fun _ => ⟨S.k 95 12 (by decide), _, _, z3, rfl, rfl⟩⟩, fun q => ?_⟩⟩⟩), f2.m.tr f3.m⟩
    rw [h2] at q
    exact absurd q (by decide)
  · obtain ⟨J1, J2, z1, z2, D2, ⟨l0, E2⟩, f2⟩ := hearR S Q TW0 M1 hp hl hk
    have rs := r_saidOf S Q HW0 D2 E2 (fun q hq => by have := (ef q hq).2; omega)
    have rl := r_letters (y := x4) S Q HW0 D2 E2 e12
    have rc : ∀ w : Int32, ((¬ x4 < 0 ∧ ¬ 2 < x4) → Zt none mX12_next 0 0 59 [(0, .ref 95), (4, .int x4), (5, .int (bs (beg (tH t i) ((tL t j).2.2 k) ((tL t j).2.1 k)) (hN (tH t i)))), (6, .int 0), (7, .int (-1)), (8, .int 0), (9, .int 0)] [] (g, J2, zU P 73 0 (some (8 + 16 * i))) (some (.int w)) (g, J2, zU P 73 0 (some (8 + 16 * i)))) → (¬ (¬ x4 < 0 ∧ ¬ 2 < x4) → w = -2) → Cl mX12_next [.ref 95, .int x1, .int x2, .int x3, .int x4] (g, I1, zU P 73 0 (some (8 + 16 * i))) (some (.int w)) (g, J2, zU P 73 0 (some (8 + 16 * i))) := by
      intro w a1 a2
      refine eX12_next (wX12_next_0 ⟨S.k 95 12 (by decide), _, _, z1, fun q => absurd q (by decide), fun _ => ⟨S.k 95 12 (by decide), _, _, z2, fun q => absurd q (by decide), fun _ => ⟨_, r_isIn, zq (fun q => ⟨fun _ => ⟨S.k 95 12 (by decide), _, rs, a1 (of_decide_eq_true q)⟩, fun h => absurd h h2⟩) (fun q => ⟨?_, rfl⟩)⟩⟩⟩)
      rw [a2 (of_decide_eq_false q)]
    by_cases h0 : x4 = 0
    · rw [if_pos h0] at rl
      exact ⟨_, I1, _, J2, cc _ I1 (fun _ => ⟨rfl, rfl⟩) (fun h => absurd (h.symm.trans h0) (by decide)) (fun h => absurd h h2) (fun h => absurd h0 h), kI, kP, rc _ (fun _ => rl) (fun h => absurd (by rw [h0]; decide) h), f2.m⟩
    · rw [if_neg h0] at rl
      by_cases h1 : x4 = 1
      · exact ⟨_, I1, _, J2, cc _ I1 (fun h => absurd h h0) (fun _ => ⟨rfl, rfl⟩) (fun h => absurd h h2) (fun _ h => absurd h1 h), kI, kP, rc _ (fun _ => rl) (fun h => absurd (by rw [h1]; decide) h), f2.m⟩
      · refine ⟨-2, I1, _, J2, cc _ I1 (fun h => absurd h h0) (fun h => absurd h h1) (fun h => absurd h h2) (fun _ _ _ => ⟨rfl, rfl⟩), kI, kP, rc _ (fun h => ?_) (fun _ => rfl), f2.m⟩
        obtain ⟨n, -, hn, rfl⟩ := inN (lo := 0) (hi := 2) (by decide) (by decide) h.1 h.2
        rcases (show n = 0 ∨ n = 1 ∨ n = 2 by omega) with rfl | rfl | rfl
        · exact absurd rfl h0
        · exact absurd rfl h1
        · exact absurd rfl h2
end MEND
