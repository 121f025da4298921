/-! ===== how far rows are apart ===== -/
def edn (p : Nat → Nat) (c : Nat → Bool) (i : Nat) : Nat → Nat
  | 0 => i
  | j + 1 => min (p j + (if c j = true then 0 else 1)) (1 + min (p (j + 1)) (edn p c i j))
/-- the fewest changes between the first i letters of u and the first j of v -/
def ed (u v : Nat → Nat) : Nat → Nat → Nat
  | 0 => fun j => j
  | i + 1 => edn (ed u v i) (fun j => decide (u i = v j)) (i + 1)
theorem ed_0 (u v : Nat → Nat) (j : Nat) : ed u v 0 j = j := rfl
theorem ed_i0 (u v : Nat → Nat) (i : Nat) : ed u v i 0 = i := by cases i <;> rfl
theorem ed_s (u v : Nat → Nat) (i j : Nat) : ed u v (i + 1) (j + 1) = min (ed u v i j + (if u i = v j then 0 else 1)) (1 + min (ed u v i (j + 1)) (ed u v (i + 1) j)) := by
  show min (ed u v i j + (if decide (u i = v j) = true then 0 else 1)) _ = _
  simp only [decide_eq_true_eq]
  rfl
theorem ed_le (u v : Nat → Nat) : ∀ i j, ed u v i j ≤ i + j := by
  intro i
  induction i with
  | zero => intro j; rw [ed_0]; omega
  | succ i ih =>
    intro j
    cases j with
    | zero => rw [ed_i0]; omega
    | succ j =>
      have := ih (j + 1)
      rw [ed_s]
      omega
theorem ed_sym (u v : Nat → Nat) : ∀ i j, ed u v i j = ed v u j i := by
  intro i
  induction i with
  | zero => intro j; rw [ed_0, ed_i0]
  | succ i ih =>
    intro j
    induction j with
    | zero => rw [ed_0, ed_i0]
    | succ j ihj =>
      rw [ed_s, ed_s, ih j, ih (j + 1), ihj]
      have : (if u i = v j then 0 else 1) = (if v j = u i then 0 else 1) := by
        by_cases h : u i = v j
        · rw [if_pos h, if_pos h.symm]
        · rw [if_neg h, if_neg (fun q => h q.symm)]
      rw [this]
      omega
section APART
variable {g : zG} {I : Nat → Nat → Int32} {P : Nat → Nat → Option Nat} {t : TD} {im : Nat → Option TD} {a : Nat} {d : HD}
/-- only the row 82 has changed -/
def K82 (I J : Nat → Nat → Int32) : Prop := ∀ c, c ≠ 82 → J c = I c
theorem K82.p {I J : Nat → Nat → Int32} (h : K82 I J) : Kp I J := fun a ha => h a (by omega)
theorem K82.u {I J : Nat → Nat → Int32} (h : K82 I J) (k : Nat) (x : Int32) : K82 I (zU J 82 k x) := fun c hc => by rw [← h c hc]; funext q; rw [zU_a _ _ hc]
theorem c_changesTo {w b o n N : Nat} {v : Nat → Nat} (S : Sg g) (Q : Sp P) (T : HlS g P a) (W : HW d) (D : HlD I a d) (ha : a + 5 < 82) (hw : w < hN d) (kb : zk g b 13) (lb : g.2.2 b = N) (hNN : N < 2 ^ 31) (ho : o + n ≤ N) (hn : n ≤ 12) (hb : b ≠ 82) (hv : ∀ k, k < n → I b (o + k) = nI (v k) ∧ v k < 6) : ∃ J, Cl mX1_changesTo [.ref 73, .ref a, .int (nI w), .ref b, .int (nI o), .int (nI n)] (g, I, P) (some (.int (nI (ed (hL d w) v (hZ d w) n)))) (g, J, P) ∧ K82 I J := by
  have hz := (W.2.2.1 w hw).2
  have k82 := S.k 82 13 (by decide)
  have l82 : g.2.2 82 = 13 := S.l 82 13 (by decide)
  have key2 : ∀ m i (K : Nat → Nat → Int32), i + m = hZ d w → K82 I K → (∀ j, j ≤ n → K 82 j = nI (ed (hL d w) v i j)) → ∃ J, Zt none mX1_changesTo 0 0 30 [(0, .ref 73), (1, .ref a), (2, .int (nI w)), (3, .ref b), (4, .int (nI o)), (5, .int (nI n)), (6, .int (nI i))] [] (g, K, P) (some (.int (nI (ed (hL d w) v (hZ d w) n)))) (g, J, P) ∧ K82 I J := by
    intro m
    induction m with
    | zero =>
      intro i K hi hK hj
      obtain rfl : i = hZ d w := hi
      have D2 : HlD K a d := D.keep (fun j hj => hK _ (by omega))
      refine ⟨K, wX1_changesTo_30 ⟨T.1, _, c_sizeOf T W D2 hw, fun _ => ⟨S.k 73 1 (by decide), 82, Q.p 73 4 82 (by decide), _, c_got k82 l82 (by decide) (by omega), by rw [hj n (Nat.le_refl _)], rfl⟩, fun q => absurd (Int32.le_refl _) q⟩, hK⟩
    | succ m ih =>
      intro i K hi hK hj
      have D2 : HlD K a d := D.keep (fun j hj => hK _ (by omega))
      have inner : ∀ m j (K : Nat → Nat → Int32), j + m = n → K82 I K → (∀ q, q ≤ j → K 82 q = nI (ed (hL d w) v (i + 1) q)) → (∀ q, j < q → q ≤ n → K 82 q = nI (ed (hL d w) v i q)) → ∃ J, Zt none mX1_changesTo 0 0 65 [(0, .ref 73), (1, .ref a), (2, .int (nI w)), (3, .ref b), (4, .int (nI o)), (5, .int (nI n)), (6, .int (nI i)), (7, .int (nI (ed (hL d w) v i j))), (8, .int (nI (j + 1)))] [] (g, K, P) (some (.int (nI (ed (hL d w) v (hZ d w) n)))) (g, J, P) ∧ K82 I J := by
        intro m
        induction m with
        | zero =>
          intro j K hj hK h1 h2
          obtain rfl : j = n := hj
          obtain ⟨J, z, z2⟩ := ih (i + 1) K (by omega) hK h1
          exact ⟨J, wX1_changesTo_65 ⟨fun _ => by rw [nI_1]; exact z, fun q => absurd (nI_lt (by omega) (by omega)) q⟩, z2⟩
        | succ m ihj =>
          intro j K hj hK h1 h2
          have D2 : HlD K a d := D.keep (fun j hj => hK _ (by omega))
          have b1 := ed_le (hL d w) v i j
          have b2 := ed_le (hL d w) v i (j + 1)
          have b3 := ed_le (hL d w) v (i + 1) j
          have hl := W.2.2.2.2 w i hw (by omega)
          obtain ⟨v1, v2⟩ := hv j (by omega)
          obtain ⟨J, z, z2⟩ := ihj (j + 1) (zU K 82 (j + 1) (nI (ed (hL d w) v (i + 1) (j + 1)))) (by omega) (hK.u _ _) (fun q hq => by
            by_cases e : q = j + 1
            · subst e; rw [zU_s]
            · rw [zU_k _ _ e]; exact h1 q (by omega)) (fun q hq hq2 => by rw [zU_k _ _ (by omega)]; exact h2 q (by omega) hq2)
          have fin : ∀ e : Nat, (if hL d w i = v j then 0 else 1) = e → Zt none mX1_changesTo 0 0 111 [(0, .ref 73), (1, .ref a), (2, .int (nI w)), (3, .ref b), (4, .int (nI o)), (5, .int (nI n)), (6, .int (nI i)), (8, .int (nI (j + 1))), (9, .int (nI (ed (hL d w) v i (j + 1))))] [.int (nI e), .int (nI (ed (hL d w) v i j))] (g, K, P) (some (.int (nI (ed (hL d w) v (hZ d w) n)))) (g, J, P) := by
            intro e he
            have e1 : e ≤ 1 := by rw [← he]; split <;> omega
            refine wX1_changesTo_111 ⟨S.k 73 1 (by decide), 82, Q.p 73 4 82 (by decide), S.k 73 1 (by decide), 82, Q.p 73 4 82 (by decide), nI (ed (hL d w) v (i + 1) j), ?_, zU K 82 (j + 1) (nI (ed (hL d w) v (i + 1) (j + 1))), ?_, by rw [nI_1]; exact z⟩
            · rw [nI_pred, ← h1 j (Nat.le_refl _)]
              exact c_got k82 l82 (by decide) (by omega)
            · have ev : zmmin (nI (ed (hL d w) v i j) + nI e) (1 + zmmin (nI (ed (hL d w) v i (j + 1))) (nI (ed (hL d w) v (i + 1) j))) = nI (ed (hL d w) v (i + 1) (j + 1)) := by
                rw [zmmin_n (by omega) (by omega), nI_add, n1, nI_add, zmmin_n (by omega) (by omega), ed_s, he]
              rw [ev]
              exact c_put k82 l82 (by decide) (by omega)
          refine ⟨J, wX1_changesTo_65 ⟨fun q => absurd q (nI_nlt (by omega) (by omega)), fun _ => ⟨S.k 73 1 (by decide), 82, Q.p 73 4 82 (by decide), nI (ed (hL d w) v i (j + 1)), ?_, T.1, _, c_letterOf T W D2 hw (by omega), nI (v j), ?_, pq_eq (hL d w i) (v j) (fun ne => fin 1 (if_neg ne)) (fun e => fin 0 (if_pos e))⟩⟩, z2⟩
          · rw [← h2 (j + 1) (by omega) (by omega)]
            exact c_got k82 l82 (by decide) (by omega)
          · rw [nI_add, show nI (o + (j + 1)) - 1 = nI (o + j) from nI_pred (o + j), ← v1, ← hK b hb]
            exact c_got kb lb hNN (by omega)
      obtain ⟨J, z, z2⟩ := inner n 0 (zU K 82 0 (nI (i + 1))) (by omega) (hK.u _ _) (fun q hq => by
        obtain rfl : q = 0 := by omega
        rw [zU_s, ed_i0]) (fun q hq hq2 => by rw [zU_k _ _ (by omega)]; exact hj q hq2)
      refine ⟨J, wX1_changesTo_30 ⟨T.1, _, c_sizeOf T W D2 hw, fun q => absurd q (nI_ge (by omega) (by omega)), fun _ => ⟨S.k 73 1 (by decide), 82, Q.p 73 4 82 (by decide), nI (ed (hL d w) v i 0), ?_, S.k 73 1 (by decide), 82, Q.p 73 4 82 (by decide), zU K 82 0 (nI (i + 1)), ?_, z⟩⟩, z2⟩
      · rw [← hj 0 (by omega)]
        exact c_got (k := 0) k82 l82 (by decide) (by omega)
      · rw [nI_1]
        exact c_put (k := 0) k82 l82 (by decide) (by omega)
  have key1 : ∀ m j (K : Nat → Nat → Int32), j + m = n + 1 → K82 I K → (∀ q, q < j → K 82 q = nI q) → ∃ J, Zt none mX1_changesTo 0 0 3 [(0, .ref 73), (1, .ref a), (2, .int (nI w)), (3, .ref b), (4, .int (nI o)), (5, .int (nI n)), (6, .int (nI j))] [] (g, K, P) (some (.int (nI (ed (hL d w) v (hZ d w) n)))) (g, J, P) ∧ K82 I J := by
    intro m
    induction m with
    | zero =>
      intro j K hj hK h1
      obtain rfl : j = n + 1 := hj
      obtain ⟨J, z, z2⟩ := key2 (hZ d w) 0 K (by omega) hK (fun q hq => by rw [h1 q (by omega), ed_0])
      exact ⟨J, wX1_changesTo_3 ⟨fun _ => z, fun q => absurd (nI_lt (by omega) (by omega)) q⟩, z2⟩
    | succ m ih =>
      intro j K hj hK h1
      obtain ⟨J, z, z2⟩ := ih (j + 1) (zU K 82 j (nI j)) (by omega) (hK.u _ _) (fun q hq => by
        by_cases e : q = j
        · subst e; rw [zU_s]
        · rw [zU_k _ _ e]; exact h1 q (by omega))
      exact ⟨J, wX1_changesTo_3 ⟨fun q => absurd q (nI_nlt (by omega) (by omega)), fun _ => ⟨S.k 73 1 (by decide), 82, Q.p 73 4 82 (by decide), _, c_put k82 l82 (by decide) (by omega), by rw [nI_1]; exact z⟩⟩, z2⟩
  obtain ⟨J, z, z2⟩ := key1 (n + 1) 0 I (by omega) (fun _ _ => rfl) (fun q hq => by omega)
  exact ⟨J, eX1_changesTo (wX1_changesTo_0 z), z2⟩
/-- how far two words are apart -/
def hAp (d : HD) (v w : Nat) : Nat := ed (hL d v) (hL d w) (hZ d v) (hZ d w)
theorem hAp_le {v w : Nat} (W : HW d) (hv : v < hN d) (hw : w < hN d) : hAp d v w ≤ 12 := by
  have := ed_le (hL d v) (hL d w) (hZ d v) (hZ d w)
  have := (W.2.2.1 v hv).2
  have := (W.2.2.1 w hw).2
  unfold hAp; omega
theorem c_apart {v w : Nat} (S : Sg g) (Q : Sp P) (T : HlS g P a) (W : HW d) (D : HlD I a d) (ha : a + 5 < 82) (hv : v < hN d) (hw : w < hN d) : ∃ J, Cl mX1_changesBetween [.ref 73, .ref a, .int (nI v), .int (nI w)] (g, I, P) (some (.int (nI (hAp d v w)))) (g, J, P) ∧ K82 I J := by
  have h1 := W.2.1
  have h2 := (W.2.2.1 w hw).2
  obtain ⟨J, z, z2⟩ := c_changesTo (w := v) (b := a + 4) (o := 6 * w) (n := hZ d w) (v := hL d w) S Q T W D ha hv T.2.1.2.2.2.1 T.2.2.1.2.2.2.1 (by decide) (by omega) (by omega) (by omega) (fun k hk => ⟨D.2.2.2.2.2.2.1 w k hw hk, W.2.2.2.2 w k hw hk⟩)
  have e : nI w * 6 = nI (6 * w) := by rw [n6, pk_mul, Nat.mul_comm]
  exact ⟨J, eX1_changesBetween (wX1_changesBetween_0 ⟨T.1, _, T.2.2.2.2.2.2.1, T.1, _, c_sizeOf T W D hw, S.k 73 1 (by decide), _, _, by rw [e]; exact z, rfl, rfl⟩), z2⟩
/-- what the reference's rows for this may change -/
def Ke (I J : Nat → Nat → Int32) : Prop := (∀ c, c ≠ 95 → c ≠ 108 → c ≠ 109 → c ≠ 110 → J c = I c) ∧ ∀ k, k ≠ 31 → k ≠ 32 → J 95 k = I 95 k
theorem Ke.rf (I : Nat → Nat → Int32) : Ke I I := ⟨fun _ _ _ _ _ => rfl, fun _ _ _ => rfl⟩
theorem Ke.tr {I J K : Nat → Nat → Int32} (h : Ke I J) (h2 : Ke J K) : Ke I K := ⟨fun c a1 a2 a3 a4 => (h2.1 c a1 a2 a3 a4).trans (h.1 c a1 a2 a3 a4), fun k k1 k2 => (h2.2 k k1 k2).trans (h.2 k k1 k2)⟩
theorem Ke.m {I J : Nat → Nat → Int32} (h : Ke I J) : Km I J := fun a ha => h.1 a (by omega) (by omega) (by omega) (by omega)
theorem Ke.h {I J : Nat → Nat → Int32} {h0 : Nat} (h : Ke I J) (D : MhD I h0 d) : MhD J h0 d := by
  obtain ⟨a1, a2, a3, a4, a5⟩ := D
  refine ⟨a1, (h.2 13 (by decide) (by decide)).trans a2, (h.2 14 (by decide) (by decide)).trans a3, (h.2 15 (by decide) (by decide)).trans a4, ?_⟩
  unfold MhA at a5 ⊢
  rw [h.1 96 (by decide) (by decide) (by decide) (by decide)]; exact a5
theorem Ke.e {I J : Nat → Nat → Int32} {l0 n : Nat} {f : Nat → Nat} (h : Ke I J) (E : MeD I l0 n f) : MeD J l0 n f := by
  obtain ⟨a1, a2, a3, a4⟩ := E
  refine ⟨a1, (h.2 26 (by decide) (by decide)).trans a2, (h.2 27 (by decide) (by decide)).trans a3, fun k hk => ?_⟩
  rw [h.1 96 (by decide) (by decide) (by decide) (by decide)]; exact a4 k hk
theorem Ke.u {I J : Nat → Nat → Int32} (h : Ke I J) (c k : Nat) (x : Int32) (hc : c = 108 ∨ c = 109 ∨ c = 110) : Ke I (zU J c k x) := by
  refine ⟨fun q a1 a2 a3 a4 => ?_, fun q k1 k2 => ?_⟩
  · rw [← h.1 q a1 a2 a3 a4]; funext j; rw [zU_a _ _ (by omega)]
  · rw [← h.2 q k1 k2, zU_a _ _ (by omega)]
theorem Ke.u5 {I J : Nat → Nat → Int32} (h : Ke I J) (k : Nat) (x : Int32) (hk : k = 31 ∨ k = 32) : Ke I (zU J 95 k x) := by
  refine ⟨fun q a1 a2 a3 a4 => ?_, fun q k1 k2 => ?_⟩
  · rw [← h.1 q a1 a2 a3 a4]; funext j; rw [zU_a _ _ a1]
  · rw [← h.2 q k1 k2, zU_k _ _ (by omega)]
/-- the rows one and other hold p letters u and q letters v -/
def Mo (I : Nat → Nat → Int32) (p : Nat) (u : Nat → Nat) : Prop := p ≤ 12 ∧ I 95 31 = nI p ∧ ∀ k, k < p → I 108 k = nI (u k) ∧ u k < 6
def Mp (I : Nat → Nat → Int32) (p : Nat) (u : Nat → Nat) : Prop := p ≤ 12 ∧ I 95 32 = nI p ∧ ∀ k, k < p → I 109 k = nI (u k) ∧ u k < 6
theorem r_takes1 {w h0 : Nat} (S : Sg g) (Q : Sp P) (W : HW d) (D : MhD I h0 d) (hw : w < hN d) : ∃ J, Cl mX12_takesWord [.ref 95, .int (nI w), .int 1] (g, I, P) none (g, J, P) ∧ Mo J (hZ d w) (hL d w) ∧ Ke I J := by
  have hz := (W.2.2.1 w hw).2
  have key : ∀ m k (K : Nat → Nat → Int32), k + m = hZ d w → Ke I K → (∀ j, j < k → K 108 j = nI (hL d w j)) → ∃ J, Zt none mX12_takesWord 0 0 2 [(0, .ref 95), (1, .int (nI w)), (2, .int 1), (3, .int (nI k))] [] (g, K, P) none (g, J, P) ∧ Mo J (hZ d w) (hL d w) ∧ Ke I J := by
    intro m
    induction m with
    | zero =>
      intro k K hk hK h1
      obtain rfl : k = hZ d w := hk
      refine ⟨zU K 95 31 (nI (hZ d w)), wX12_takesWord_2 ⟨S.k 95 12 (by decide), _, r_longOf S Q W (hK.h D) hw, fun _ => ⟨fun q => absurd q (by decide), fun _ => ⟨S.k 95 12 (by decide), _, r_longOf S Q W (hK.h D) hw, S.k 95 12 (by decide), rfl, rfl⟩⟩, fun q => absurd (Int32.le_refl _) q⟩, ⟨by omega, zU_s _ _ _ _, fun j hj => ⟨?_, W.2.2.2.2 w j hw hj⟩⟩, hK.u5 _ _ (Or.inl rfl)⟩
      rw [zU_a _ _ (by decide)]; exact h1 j hj
    | succ m ih =>
      intro k K hk hK h1
      obtain ⟨J, z, z2⟩ := ih (k + 1) (zU K 108 k (nI (hL d w k))) (by omega) (hK.u _ _ _ (Or.inl rfl)) (fun j hj => by
        by_cases e : j = k
        · subst e; rw [zU_s]
        · rw [zU_k _ _ e]; exact h1 j (by omega))
      refine ⟨J, wX12_takesWord_2 ⟨S.k 95 12 (by decide), _, r_longOf S Q W (hK.h D) hw, fun q => absurd q (nI_ge (by omega) (by omega)), fun _ => ⟨fun q => absurd q (by decide), fun _ => ⟨S.k 95 12 (by decide), 108, Q.p 95 29 108 (by decide), S.k 95 12 (by decide), _, r_letterOf S Q W (hK.h D) hw (by omega), S.k 108 13 (by decide), ?_, ?_⟩⟩⟩, z2⟩
      · rw [S.l 108 12 (by decide)]; exact vp_in_nI (by omega) (by decide)
      · rw [nI_clamp (by omega), nI_1]; exact z
  obtain ⟨J, z, z2⟩ := key (hZ d w) 0 I (by omega) (Ke.rf I) (fun j hj => by omega)
  exact ⟨J, eX12_takesWord (wX12_takesWord_0 z), z2⟩
theorem r_takes0 {w h0 p : Nat} {u : Nat → Nat} (S : Sg g) (Q : Sp P) (W : HW d) (D : MhD I h0 d) (hw : w < hN d) (O : Mo I p u) : ∃ J, Cl mX12_takesWord [.ref 95, .int (nI w), .int 0] (g, I, P) none (g, J, P) ∧ Mo J p u ∧ Mp J (hZ d w) (hL d w) ∧ Ke I J := by
  have hz := (W.2.2.1 w hw).2
  have key : ∀ m k (K : Nat → Nat → Int32), k + m = hZ d w → Ke I K → Mo K p u → (∀ j, j < k → K 109 j = nI (hL d w j)) → ∃ J, Zt none mX12_takesWord 0 0 2 [(0, .ref 95), (1, .int (nI w)), (2, .int 0), (3, .int (nI k))] [] (g, K, P) none (g, J, P) ∧ Mo J p u ∧ Mp J (hZ d w) (hL d w) ∧ Ke I J := by
    intro m
    induction m with
    | zero =>
      intro k K hk hK hO h1
      obtain rfl : k = hZ d w := hk
      refine ⟨zU K 95 32 (nI (hZ d w)), wX12_takesWord_2 ⟨S.k 95 12 (by decide), _, r_longOf S Q W (hK.h D) hw, fun _ => ⟨fun _ => ⟨S.k 95 12 (by decide), _, r_longOf S Q W (hK.h D) hw, S.k 95 12 (by decide), rfl, rfl⟩, fun q => absurd rfl q⟩, fun q => absurd (Int32.le_refl _) q⟩, ⟨hO.1, (zU_k _ _ (by decide)).trans hO.2.1, fun j hj => ?_⟩, ⟨by omega, zU_s _ _ _ _, fun j hj => ⟨?_, W.2.2.2.2 w j hw hj⟩⟩, hK.u5 _ _ (Or.inr rfl)⟩
      · rw [zU_a _ _ (by decide)]; exact hO.2.2 j hj
      · rw [zU_a _ _ (by decide)]; exact h1 j hj
    | succ m ih =>
      intro k K hk hK hO h1
      obtain ⟨J, z, z2⟩ := ih (k + 1) (zU K 109 k (nI (hL d w k))) (by omega) (hK.u _ _ _ (Or.inr (Or.inl rfl))) ⟨hO.1, (zU_a _ _ (by decide)).trans hO.2.1, fun j hj => by rw [zU_a _ _ (by decide)]; exact hO.2.2 j hj⟩ (fun j hj => by
        by_cases e : j = k
        · subst e; rw [zU_s]
        · rw [zU_k _ _ e]; exact h1 j (by omega))
      refine ⟨J, wX12_takesWord_2 ⟨S.k 95 12 (by decide), _, r_longOf S Q W (hK.h D) hw, fun q => absurd q (nI_ge (by omega) (by omega)), fun _ => ⟨fun _ => ⟨S.k 95 12 (by decide), 109, Q.p 95 30 109 (by decide), S.k 95 12 (by decide), _, r_letterOf S Q W (hK.h D) hw (by omega), S.k 109 13 (by decide), ?_, ?_⟩, fun q => absurd rfl q⟩⟩, z2⟩
      · rw [S.l 109 12 (by decide)]; exact vp_in_nI (by omega) (by decide)
      · rw [nI_clamp (by omega), nI_1]; exact z
  obtain ⟨J, z, z2⟩ := key (hZ d w) 0 I (by omega) (Ke.rf I) O (fun j hj => by omega)
  exact ⟨J, eX12_takesWord (wX12_takesWord_0 z), z2⟩
theorem r_changesOf {p q : Nat} {u v : Nat → Nat} (S : Sg g) (Q : Sp P) (O : Mo I p u) (R : Mp I q v) : ∃ J, Cl mX12_changesOf [.ref 95] (g, I, P) (some (.int (nI (ed u v p q)))) (g, J, P) ∧ ∀ c, c ≠ 110 → J c = I c := by
  obtain ⟨p12, o1, o2⟩ := O
  obtain ⟨q12, r1, r2⟩ := R
  have k110 := S.k 110 13 (by decide)
  have l110 : g.2.2 110 = 169 := S.l 110 169 (by decide)
  have key : ∀ m i (K : Nat → Nat → Int32), i + m = p + 1 → (∀ c, c ≠ 110 → K c = I c) → (∀ x y, x < i → y ≤ q → K 110 (13 * x + y) = nI (ed u v x y)) → ∃ J, Zt none mX12_changesOf 0 0 2 [(0, .ref 95), (1, .int (nI i))] [] (g, K, P) (some (.int (nI (ed u v p q)))) (g, J, P) ∧ ∀ c, c ≠ 110 → J c = I c := by
    intro m
    induction m with
    | zero =>
      intro i K hi hK h1
      obtain rfl : i = p + 1 := hi
      have e : 13 * K 95 31 + K 95 32 = nI (13 * p + q) := by rw [hK 95 (by decide), o1, r1, show (13 : Int32) = nI 13 from rfl, pk_mul, nI_add]
      obtain ⟨i1, i2⟩ := ix e (N := 169) (by omega) (by decide)
      refine ⟨K, wX12_changesOf_2 ⟨S.k 95 12 (by decide), fun _ => ⟨S.k 95 12 (by decide), 110, Q.p 95 33 110 (by decide), S.k 95 12 (by decide), S.k 95 12 (by decide), k110, by rw [l110]; exact i1, by rw [i2, h1 p q (by omega) (Nat.le_refl _)], rfl⟩, fun h => ?_⟩, hK⟩
      rw [hK 95 (by decide), o1] at h
      exact absurd (nI_lt (by omega) (by omega)) h
    | succ m ih =>
      intro i K hi hK h1
      have inner : ∀ m j (K : Nat → Nat → Int32), j + m = q + 1 → (∀ c, c ≠ 110 → K c = I c) → (∀ x y, x < i → y ≤ q → K 110 (13 * x + y) = nI (ed u v x y)) → (∀ y, y < j → K 110 (13 * i + y) = nI (ed u v i y)) → ∃ J, Zt none mX12_changesOf 0 0 12 [(0, .ref 95), (1, .int (nI i)), (2, .int (nI j))] [] (g, K, P) (some (.int (nI (ed u v p q)))) (g, J, P) ∧ ∀ c, c ≠ 110 → J c = I c := by
        intro m
        induction m with
        | zero =>
          intro j K hj hK h1 h2
          obtain rfl : j = q + 1 := hj
          obtain ⟨J, z, z2⟩ := ih (i + 1) K (by omega) hK (fun x y hx hy => by
            by_cases e : x = i
            · subst e; exact h2 y (by omega)
            · exact h1 x y (by omega) hy)
          refine ⟨J, wX12_changesOf_12 ⟨S.k 95 12 (by decide), fun _ => by rw [nI_1]; exact z, fun h => ?_⟩, z2⟩
          rw [hK 95 (by decide), r1] at h
          exact absurd (nI_lt (by omega) (by omega)) h
        | succ m ihj =>
          intro j K hj hK h1 h2
          obtain ⟨J, z, z2⟩ := ihj (j + 1) (zU K 110 (13 * i + j) (nI (ed u v i j))) (by omega) (fun c hc => by rw [← hK c hc]; funext y; rw [zU_a _ _ hc]) (fun x y hx hy => by rw [zU_k _ _ (by omega)]; exact h1 x y hx hy) (fun y hy => by
            by_cases e : y = j
            · subst e; rw [zU_s]
            · rw [zU_k _ _ (by omega)]; exact h2 y (by omega))
          have ex : 13 * nI i + nI j = nI (13 * i + j) := by rw [show (13 : Int32) = nI 13 from rfl, pk_mul, nI_add]
          obtain ⟨i1, i2⟩ := ix ex (N := 169) (by omega) (by decide)
          rw [← l110] at i1
          refine ⟨J, wX12_changesOf_12 ⟨S.k 95 12 (by decide), fun h => ?_, fun _ => ?_⟩, z2⟩
          · rw [hK 95 (by decide), r1] at h
            exact absurd h (nI_nlt (by omega) (by omega))
          · cases i with
            | zero =>
              refine ⟨fun h => absurd rfl h, fun _ => wX12_changesOf_76 ⟨fun _ => wX12_changesOf_120 ⟨fun _ => ⟨S.k 95 12 (by decide), 110, Q.p 95 33 110 (by decide), k110, i1, ?_⟩, fun h => absurd (Int32.le_refl _) h⟩, fun h => absurd (Int32.le_refl _) h⟩⟩
              rw [i2, nI_1]
              exact z
            | succ i =>
              have ip : ¬ nI (i + 1) ≤ 0 := nI_nle (by omega) (by omega)
              cases j with
              | zero =>
                refine ⟨fun _ => ⟨fun h => absurd rfl h, fun _ => wX12_changesOf_76 ⟨fun h => absurd h ip, fun _ => ⟨fun _ => wX12_changesOf_120 ⟨fun h => absurd h ip, fun _ => ⟨fun _ => ⟨S.k 95 12 (by decide), 110, Q.p 95 33 110 (by decide), k110, i1, ?_⟩, fun h => absurd (Int32.le_refl _) h⟩⟩, fun h => absurd (Int32.le_refl _) h⟩⟩⟩, fun h => absurd h (nI_ne0 (by omega) (by omega))⟩
                rw [i2, nI_1]
                rw [ed_i0] at z
                exact z
              | succ j =>
                have jp : ¬ nI (j + 1) ≤ 0 := nI_nle (by omega) (by omega)
                have b1 := ed_le u v i j
                have b2 := ed_le u v i (j + 1)
                have b3 := ed_le u v (i + 1) j
                obtain ⟨u1, u2⟩ := o2 i (by omega)
                obtain ⟨v1, v2⟩ := r2 j (by omega)
                have ey : 13 * (nI (i + 1) - 1) + nI (j + 1) = nI (13 * i + (j + 1)) := by rw [nI_pred, show (13 : Int32) = nI 13 from rfl, pk_mul, nI_add]
                have ez : 13 * (nI (i + 1) - 1) + nI (j + 1) - 1 = nI (13 * i + j) := by rw [ey]; exact nI_pred (13 * i + j)
                have ew : 13 * nI (i + 1) + nI (j + 1) - 1 = nI (13 * (i + 1) + j) := by rw [ex]; exact nI_pred (13 * (i + 1) + j)
                obtain ⟨y1, y2⟩ := ix ey (N := 169) (by omega) (by decide)
                obtain ⟨z1, z3⟩ := ix ez (N := 169) (by omega) (by decide)
                obtain ⟨w1, w2⟩ := ix ew (N := 169) (by omega) (by decide)
                obtain ⟨s1, s2⟩ := ix (nI_pred i) (N := 12) (by omega) (by decide)
                obtain ⟨t1, t2⟩ := ix (nI_pred j) (N := 12) (by omega) (by decide)
                rw [← l110] at y1 z1 w1
                have e120 : ∀ x : Nat, x ≤ 60 → min x (1 + ed u v (i + 1) j) = ed u v (i + 1) (j + 1) → Zt none mX12_changesOf 0 0 120 [(0, .ref 95), (1, .int (nI (i + 1))), (2, .int (nI (j + 1))), (3, .int (nI x))] [] (g, K, P) (some (.int (nI (ed u v p q)))) (g, J, P) := by
                  intro x hx hm
                  have g1 : K 110 (13 * i.succ + j) + 1 = nI (1 + ed u v (i + 1) j) := by rw [h2 j (by omega), nI_1, Nat.add_comm]
                  refine wX12_changesOf_120 ⟨fun h => absurd h ip, fun _ => ⟨fun h => absurd h jp, fun _ => ⟨S.k 95 12 (by decide), 110, Q.p 95 33 110 (by decide), k110, w1, ?_⟩⟩⟩
                  rw [w2]
                  refine pk_le x (1 + ed u v (i + 1) j) (fun h => ⟨S.k 95 12 (by decide), 110, Q.p 95 33 110 (by decide), k110, i1, ?_⟩) (fun h => ⟨S.k 95 12 (by decide), 110, Q.p 95 33 110 (by decide), k110, w1, fun y hy => ⟨S.k 95 12 (by decide), 110, Q.p 95 33 110 (by decide), k110, i1, ?_⟩⟩) rfl g1
                  · rw [i2, nI_1]
                    rw [← hm, Nat.min_eq_left h] at z
                    exact z
                  · rw [i2, nI_1, hy, show K 110 (13 * (i + 1) + j) + 1 = nI (1 + ed u v (i + 1) j) from g1]
                    rw [← hm, Nat.min_eq_right (by omega)] at z
                    exact z
                have e76 : ∀ e : Nat, (if u i = v j then 0 else 1) = e → Zt none mX12_changesOf 0 0 76 [(0, .ref 95), (1, .int (nI (i + 1))), (2, .int (nI (j + 1)))] [.int (nI (ed u v i j + e))] (g, K, P) (some (.int (nI (ed u v p q)))) (g, J, P) := by
                  intro e he
                  have e1 : e ≤ 1 := by rw [← he]; split <;> omega
                  have g1 : K 110 (13 * i + (j + 1)) + 1 = nI (1 + ed u v i (j + 1)) := by rw [h1 i (j + 1) (by omega) (by omega), nI_1, Nat.add_comm]
                  refine wX12_changesOf_76 ⟨fun h => absurd h ip, fun _ => ⟨fun h => absurd h jp, fun _ => ⟨S.k 95 12 (by decide), 110, Q.p 95 33 110 (by decide), k110, y1, ?_⟩⟩⟩
                  rw [y2]
                  refine pk_le (ed u v i j + e) (1 + ed u v i (j + 1)) (fun h => e120 _ (by omega) ?_) (fun h => ⟨S.k 95 12 (by decide), 110, Q.p 95 33 110 (by decide), k110, y1, fun y hy => ?_⟩) rfl g1
                  · rw [ed_s, he]; omega
                  · rw [hy, g1]
                    exact e120 _ (by omega) (by rw [ed_s, he]; omega)
                refine ⟨fun _ => ⟨fun _ => ⟨S.k 95 12 (by decide), 110, Q.p 95 33 110 (by decide), k110, z1, S.k 95 12 (by decide), 108, Q.p 95 29 108 (by decide), S.k 108 13 (by decide), ?_, S.k 95 12 (by decide), 109, Q.p 95 30 109 (by decide), S.k 109 13 (by decide), ?_, ?_⟩, fun h => absurd h (nI_ne0 (by omega) (by omega))⟩, fun h => absurd h (nI_ne0 (by omega) (by omega))⟩
                · rw [S.l 108 12 (by decide)]; exact s1
                · rw [S.l 109 12 (by decide)]; exact t1
                · rw [s2, t2, z3, h1 i j (by omega) (by omega), hK 108 (by decide), hK 109 (by decide), u1, v1]
                  refine pq_eq (u i) (v j) (fun ne => ?_) (fun eq => ?_)
                  · rw [nI_1]; exact e76 1 (if_neg ne)
                  · rw [n0, nI_add]; exact e76 0 (if_pos eq)
      obtain ⟨J, z, z2⟩ := inner (q + 1) 0 K (by omega) hK h1 (fun y hy => by omega)
      refine ⟨J, wX12_changesOf_2 ⟨S.k 95 12 (by decide), fun h => ?_, fun _ => z⟩, z2⟩
      rw [hK 95 (by decide), o1] at h
      exact absurd h (nI_nlt (by omega) (by omega))
  obtain ⟨J, z, z2⟩ := key (p + 1) 0 I (by omega) (fun _ _ => rfl) (fun x y hx => by omega)
  exact ⟨J, eX12_changesOf (wX12_changesOf_0 z), z2⟩
theorem r_apart {v w h0 : Nat} (S : Sg g) (Q : Sp P) (W : HW d) (D : MhD I h0 d) (hv : v < hN d) (hw : w < hN d) : ∃ J, Cl mX12_apartOf [.ref 95, .int (nI v), .int (nI w)] (g, I, P) (some (.int (nI (hAp d v w)))) (g, J, P) ∧ Ke I J := by
  obtain ⟨J1, z1, O1, f1⟩ := r_takes1 S Q W D hv
  obtain ⟨J2, z2, O2, R2, f2⟩ := r_takes0 S Q W (f1.h D) hw O1
  obtain ⟨J3, z3, f3⟩ := r_changesOf S Q O2 R2
  refine ⟨J3, eX12_apartOf (wX12_apartOf_0 ⟨S.k 95 12 (by decide), _, z1, S.k 95 12 (by decide), _, z2, S.k 95 12 (by decide), _, _, z3, rfl, rfl⟩), (f1.tr f2).tr ⟨fun c a1 a2 a3 a4 => f3 c a4, fun k _ _ => by rw [f3 95 (by decide)]⟩⟩
theorem b_alike (L : LI g I P t im) (x1 x2 x3 y : Int32) : ∃ (w : Int32) (I1 : Nat → Nat → Int32) (J : Nat → Nat → Int32), Cl mX11_alike [.ref 0, .int x1, .int x2, .int x3, .int y] (g, I, P) (some (.int w)) (g, I1, P) ∧ Kp I I1 ∧ Cl mX12_alike [.ref 95, .int x1, .int x2, .int x3, .int y] (g, I1, P) (some (.int w)) (g, J, P) ∧ Km I1 J := by
  have L0 := L
  obtain ⟨S, Q, W, D, M, -⟩ := L
  have n2 := W.2.1.1
  cases hp : pk x1 (tNh t) with
  | none => exact ⟨-1, I, I, eX11_alike (wX11_alike_0 ⟨S.k 0 11 (by decide), 1, Q.p 0 0 1 (by decide), S.k 1 9 (by decide), _, c_hillN L0 hp, fun _ => ⟨rfl, rfl⟩, fun b hb => (nomatch hb)⟩), Kp.rf I, eX12_alike (wX12_alike_0 ⟨S.k 95 12 (by decide), _, _, r_isHill0 S Q W M hp, fun _ => ⟨rfl, rfl⟩, fun q => absurd rfl q⟩), Km.rf I⟩
  | some i =>
    have hi : i < tNh t := (pk_some (by omega) hp).1
    have hW := (W.2.1.2 i hi).1
    have h10 := hW.2.1
    have T := HlS_i S Q (i := i) (by omega)
    have D1 : HlD I (8 + 16 * i) (tH t i) := D.2.2.1 i hi
    have cw2 := c_hasWordP (x := x2) T hW D1
    have cw3 := c_hasWordP (x := x3) T hW D1
    cases h2 : pk x2 (hN (tH t i)) with
    | none =>
      rw [h2] at cw2
      obtain ⟨J, z, E, f, -⟩ := r_isHill S Q W M hp
      have rw2 := r_isWordP (x := x2) (P := P) S hW E
      rw [h2] at rw2
      refine ⟨-1, I, J, eX11_alike (wX11_alike_0 ⟨S.k 0 11 (by decide), 1, Q.p 0 0 1 (by decide), S.k 1 9 (by decide), _, c_hillY L0 hp, fun q => (nomatch q), fun b hb => by cases hb; exact ⟨T.1, _, cw2, fun _ => ⟨rfl, rfl⟩, fun q => absurd rfl q⟩⟩), Kp.rf I, eX12_alike (wX12_alike_0 ⟨S.k 95 12 (by decide), _, _, z, fun q => absurd q (by decide), fun _ => ⟨S.k 95 12 (by decide), _, rw2, fun _ => ⟨rfl, rfl⟩, fun q => absurd rfl q⟩⟩), f.m⟩
    | some v =>
      rw [h2] at cw2
      obtain ⟨hv, rfl⟩ := pk_some (by omega) h2
      cases h3 : pk x3 (hN (tH t i)) with
      | none =>
        rw [h3] at cw3
        obtain ⟨J, z, E, f, -⟩ := r_isHill S Q W M hp
        have rw2 := r_isWordP (x := nI v) (P := P) S hW E
        have rw3 := r_isWordP (x := x3) (P := P) S hW E
        rw [h2] at rw2
        rw [h3] at rw3
        refine ⟨-1, I, J, eX11_alike (wX11_alike_0 ⟨S.k 0 11 (by decide), 1, Q.p 0 0 1 (by decide), S.k 1 9 (by decide), _, c_hillY L0 hp, fun q => (nomatch q), fun b hb => by cases hb; exact ⟨T.1, _, cw2, fun q => absurd q zsI, fun _ => ⟨T.1, _, cw3, fun q => absurd rfl q, fun _ => ⟨rfl, rfl⟩⟩⟩⟩), Kp.rf I, eX12_alike (wX12_alike_0 ⟨S.k 95 12 (by decide), _, _, z, fun q => absurd q (by decide), fun _ => ⟨S.k 95 12 (by decide), _, rw2, fun q => absurd q zsI, fun _ => ⟨S.k 95 12 (by decide), _, rw3, fun q => absurd rfl q, fun _ => ⟨rfl, rfl⟩⟩⟩⟩), f.m⟩
      | some w =>
        rw [h3] at cw3
        obtain ⟨hw, rfl⟩ := pk_some (by omega) h3
        by_cases hy : y = 0
        · obtain ⟨J, z, E, f, -⟩ := r_isHill S Q W M hp
          have rw2 := r_isWordP (x := nI v) (P := P) S hW E
          have rw3 := r_isWordP (x := nI w) (P := P) S hW E
          rw [h2] at rw2
          rw [h3] at rw3
          refine ⟨_, I, J, eX11_alike (wX11_alike_0 ⟨S.k 0 11 (by decide), 1, Q.p 0 0 1 (by decide), S.k 1 9 (by decide), _, c_hillY L0 hp, fun q => (nomatch q), fun b hb => by cases hb; exact ⟨T.1, _, cw2, fun q => absurd q zsI, fun _ => ⟨T.1, _, cw3, fun _ => ⟨fun _ => ⟨T.1, _, c_lcp T hW D1 hv hw, rfl, rfl⟩, fun q => absurd hy q⟩, fun q => absurd q zsI⟩⟩⟩), Kp.rf I, eX12_alike (wX12_alike_0 ⟨S.k 95 12 (by decide), _, _, z, fun q => absurd q (by decide), fun _ => ⟨S.k 95 12 (by decide), _, rw2, fun q => absurd q zsI, fun _ => ⟨S.k 95 12 (by decide), _, rw3, fun _ => ⟨fun _ => ⟨S.k 95 12 (by decide), _, r_lcp S Q hW E hv hw, rfl, rfl⟩, fun q => absurd hy q⟩, fun q => absurd q zsI⟩⟩⟩), f.m⟩
        · obtain ⟨I1, zc, kc⟩ := c_apart S Q T hW D1 (by omega) hv hw
          have M1 : MtA I1 0 t := M.keep (kc 96 (by decide))
          obtain ⟨J, z, E, f, -⟩ := r_isHill S Q W M1 hp
          have rw2 := r_isWordP (x := nI v) (P := P) S hW E
          have rw3 := r_isWordP (x := nI w) (P := P) S hW E
          rw [h2] at rw2
          rw [h3] at rw3
          obtain ⟨J2, zr, kr⟩ := r_apart S Q hW E hv hw
          refine ⟨_, I1, J2, eX11_alike (wX11_alike_0 ⟨S.k 0 11 (by decide), 1, Q.p 0 0 1 (by decide), S.k 1 9 (by decide), _, c_hillY L0 hp, fun q => (nomatch q), fun b hb => by cases hb; exact ⟨T.1, _, cw2, fun q => absurd q zsI, fun _ => ⟨T.1, _, cw3, fun _ => ⟨fun q => absurd q hy, fun _ => ⟨S.k 0 11 (by decide), 73, Q.p 0 4 73 (by decide), S.k 73 1 (by decide), _, _, zc, rfl, rfl⟩⟩, fun q => absurd q zsI⟩⟩⟩), kc.p, eX12_alike (wX12_alike_0 ⟨S.k 95 12 (by decide), _, _, z, fun q => absurd q (by decide), fun _ => ⟨S.k 95 12 (by decide), _, rw2, fun q => absurd q zsI, fun _ => ⟨S.k 95 12 (by decide), _, rw3, fun _ => ⟨fun q => absurd q hy, fun _ => ⟨S.k 95 12 (by decide), _, _, zr, rfl, rfl⟩⟩, fun q => absurd q zsI⟩⟩⟩), f.m.tr kr.m⟩
end APART
