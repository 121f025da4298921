/-! ===== twice: the class ===== -/
theorem dif_0 {u v : Nat → Nat} {n : Nat} : dif u v n = 0 ↔ ∀ k, k < n → u k = v k := by
  constructor
  · intro h k hk
    have h : (if u k = v k then 0 else 1) = 0 := nsum_0 (f := fun k => if u k = v k then 0 else 1) n h k hk
    by_cases e : u k = v k
    · exact e
    · rw [if_neg e] at h; omega
  · intro h
    have := nsum_ext (f := fun k => if u k = v k then 0 else 1) (n := 0) n (fun k _ hk => by
      show (if u k = v k then 0 else 1) = 0
      rw [if_pos (h k (by omega))])
    rw [Nat.zero_add] at this
    exact this
def K87 (I J : Nat → Nat → Int32) : Prop := ∀ c, c ≠ 87 → J c = I c
theorem K87.rf (I : Nat → Nat → Int32) : K87 I I := fun _ _ => rfl
theorem K87.p {I J : Nat → Nat → Int32} (h : K87 I J) : Kp I J := fun a ha => h a (by omega)
theorem K87.u {I J : Nat → Nat → Int32} (h : K87 I J) (k : Nat) (x : Int32) : K87 I (zU J 87 k x) := fun c hc => by rw [← h c hc]; funext q; rw [zU_a _ _ hc]
theorem K87.tr {I J K : Nat → Nat → Int32} (h : K87 I J) (h2 : K87 J K) : K87 I K := fun c hc => (h2 c hc).trans (h c hc)
def TwA (I : Nat → Nat → Int32) (A : Nat → Nat) : Prop := ∀ i, i < 600 → I 87 i = nI (A i)
theorem TwA.u {I : Nat → Nat → Int32} {A : Nat → Nat} (h : TwA I A) (i x : Nat) : TwA (zU I 87 i (nI (min (A i) x))) (upd3 A i x) := by
  intro j hj
  by_cases e : j = i
  · subst e; rw [zU_s, upd3_s]
  · rw [zU_k _ _ e, upd3_n _ e, h j hj]
/-- all that the class's row holds -/
def twC (d : HD) (I : Nat → Nat → Int32) (A : Nat → Nat) : Prop := TwA I A ∧ twS d A
section CTW
variable {g : zG} {I : Nat → Nat → Int32} {P : Nat → Nat → Option Nat} {t : TD} {im : Nat → Option TD} {h : Nat} {d : HD}
theorem c_pair {l a b : Nat} : Cl mX10_pair [.int (nI l), .int (nI a), .int (nI b)] (g, I, P) (some (.int (nI (ix3 l a b)))) (g, I, P) := by
  refine eX10_pair (wX10_pair_0 ⟨?_, rfl⟩)
  rw [show (10 : Int32) = nI 10 from rfl, pk_mul, nI_add, pk_mul, nI_add, show (l * 10 + a) * 10 + b = ix3 l a b by unfold ix3; omega]
theorem c_shorten {l a b n : Nat} {A : Nat → Nat} (S : Sg g) (Q : Sp P) (W : HW d) (v : twV d l a b) (C : twC d I A) (hn : n ≤ 1000) : Cl mX10_shorten [.ref 83, .int (nI l), .int (nI a), .int (nI b), .int (nI n)] (g, I, P) none (g, zU I 87 (ix3 l a b) (nI (min (A (ix3 l a b)) n)), P) := by
  have hi := (ix3_lt W v).1
  have h1 := C.2.2 (ix3 l a b)
  refine eX10_shorten (wX10_shorten_0 ⟨_, c_pair, S.k 83 10 (by decide), 87, Q.p 83 3 87 (by decide), S.k 83 10 (by decide), 87, Q.p 83 3 87 (by decide), _, c_got (S.k 87 13 (by decide)) (S.l 87 600 (by decide)) (by decide) hi, _, c_put (S.k 87 13 (by decide)) (S.l 87 600 (by decide)) (by decide) hi, rfl, ?_⟩)
  rw [C.1 _ hi, zmmin_n (by omega) (by omega)]
theorem c_goOn {l a b n : Nat} {A : Nat → Nat} (S : Sg g) (Q : Sp P) (T : HlS g P h) (W : HW d) (D : HlD I h d) (hh : h + 6 ≤ 41) (C : twC d I A) (z0 : tw0 d A) (inv : twI d A n l a b) (v : twV d l a b) (hA : A (ix3 l a b) = n) (hn : n ≤ 24) : ∃ (c : Bool) (J : Nat → Nat → Int32) (A' : Nat → Nat), Cl mX10_goOn [.ref 83, .ref h, .int (nI l), .int (nI a), .int (nI b), .int (nI n)] (g, I, P) (some (.int (zb c))) (g, J, P) ∧ K87 I J ∧ (c = true → twT d n) ∧ twC d J A' ∧ tw0 d A' ∧ twI d A' n l a b ∧ (c = false → A' (ix3 l a b) = n ∧ ∀ w, twE d A' l a b w) := by
  have hNn := W.2.1
  obtain ⟨v1, v2, v3, v4⟩ := id v
  have z1 := W.2.2.1 a v3
  have key : ∀ m w (K : Nat → Nat → Int32) (A : Nat → Nat), w + m = hN d → K87 I K → twC d K A → tw0 d A → twI d A n l a b → A (ix3 l a b) = n → (∀ u, u < w → twE d A l a b u) → ∃ (c : Bool) (J : Nat → Nat → Int32) (A' : Nat → Nat), Zt none mX10_goOn 0 0 17 [(0, .ref 83), (1, .ref h), (2, .int (nI l)), (3, .int (nI a)), (4, .int (nI b)), (5, .int (nI n)), (6, .int (nI (6 * a + (hZ d a - l)))), (7, .int (nI w))] [] (g, K, P) (some (.int (zb c))) (g, J, P) ∧ K87 I J ∧ (c = true → twT d n) ∧ twC d J A' ∧ tw0 d A' ∧ twI d A' n l a b ∧ (c = false → A' (ix3 l a b) = n ∧ ∀ w, twE d A' l a b w) := by
    intro m
    induction m with
    | zero =>
      intro w K A hw kK C z0 inv hA hE
      have hw : w = hN d := hw
      subst hw
      have DK := D.keep (J := K) (fun j hj => kK _ (by omega))
      refine ⟨false, K, A, wX10_goOn_17 ⟨T.1, fun _ => ⟨rfl, rfl⟩, fun e => absurd (by rw [DK.2.1]; exact Int32.le_refl _) e⟩, kK, fun e => (nomatch e), C, z0, inv, fun _ => ⟨hA, fun w => ?_⟩⟩
      by_cases hw : w < hN d
      · exact hE w hw
      · exact fun G => absurd G.1 hw
    | succ m ih =>
      intro w K A hw kK C z0 inv hA hE
      have hw' : w < hN d := by omega
      have zw := W.2.2.1 w hw'
      have DK := D.keep (J := K) (fun j hj => kK _ (by omega))
      have next : ∀ (K' : Nat → Nat → Int32) (A' : Nat → Nat), K87 I K' → twC d K' A' → tw0 d A' → twI d A' n l a b → A' (ix3 l a b) = n → (∀ u, u < w + 1 → twE d A' l a b u) → ∃ (c : Bool) (J : Nat → Nat → Int32) (A'' : Nat → Nat), Zt none mX10_goOn 0 0 17 [(0, .ref 83), (1, .ref h), (2, .int (nI l)), (3, .int (nI a)), (4, .int (nI b)), (5, .int (nI n)), (6, .int (nI (6 * a + (hZ d a - l)))), (7, .int (nI w + 1))] [] (g, K', P) (some (.int (zb c))) (g, J, P) ∧ K87 I J ∧ (c = true → twT d n) ∧ twC d J A'' ∧ tw0 d A'' ∧ twI d A'' n l a b ∧ (c = false → A'' (ix3 l a b) = n ∧ ∀ w, twE d A'' l a b w) := by
        intro K' A' h1 h2 h3 h4 h5 h6
        rw [nI_1]
        exact ih (w + 1) K' A' (by omega) h1 h2 h3 h4 h5 h6
      have chg := c_changesAt (g := g) (I := K) (P := P) (w := w) (b := h + 4) (o := 6 * a + (hZ d a - l)) (n := min (hZ d w) l) (N := 60) (v := fun k => hL d a (hZ d a - l + k)) T W DK hw' (by omega) T.2.1.2.2.2.1 T.2.2.1.2.2.2.1 (by decide) (by omega) (fun k hk => by
        have e1 := DK.2.2.2.2.2.2.1 a (hZ d a - l + k) v3 (by omega)
        have e2 := W.2.2.2.2 a (hZ d a - l + k) v3 (by omega)
        rw [← Nat.add_assoc] at e1
        exact ⟨e1, by show hL d a (hZ d a - l + k) < _; omega⟩)
      have hdl := dif_le (hL d w) (fun k => hL d a (hZ d a - l + k)) (min (hZ d w) l)
      have hb := c_behind (g := g) (I := K) (P := P) T W DK v4
      have hmin : zmmin (nI (hZ d w)) (nI l) = nI (min (hZ d w) l) := zmmin_n (by omega) (by omega)
      have noend : Int32.ofNat (hN d) ≤ nI w → False := fun e => nI_ge hw' (by omega) e
      by_cases hG : twG d l a b w
      · have d0 : dif (hL d w) (fun k => hL d a (hZ d a - l + k)) (min (hZ d w) l) = 0 := dif_0.mpr hG.2.2
        have hr : twR d l a b n := by rw [← hA]; exact C.2.1 l a b v3 v4 (by omega)
        have go : ∀ (c : Bool) (J : Nat → Nat → Int32), ((¬ nI (hZ d w) = nI l) → ((nI l ≤ nI (hZ d w)) → zk g 83 10 ∧ ∃ (I24 : Nat → Nat → Int32), Cl mX10_shorten [.ref 83, .int (nI (hZ d w) - nI l), .int (nI w), .int (nI a), .int ((nI n + nI (hZ d w)) - nI l)] (g, K, P) none (g, I24, P) ∧ Zt none mX10_goOn 0 0 17 [(0, .ref 83), (1, .ref h), (2, .int (nI l)), (3, .int (nI a)), (4, .int (nI b)), (5, .int (nI n)), (6, .int (nI (6 * a + (hZ d a - l)))), (7, .int (nI w + 1))] [] (g, I24, P) (some (.int (zb c))) (g, J, P)) ∧ ((¬ nI l ≤ nI (hZ d w)) → zk g 83 10 ∧ ∃ (I28 : Nat → Nat → Int32), Cl mX10_shorten [.ref 83, .int (nI l - nI (hZ d w)), .int (nI a), .int (nI w), .int (nI n)] (g, K, P) none (g, I28, P) ∧ Zt none mX10_goOn 0 0 17 [(0, .ref 83), (1, .ref h), (2, .int (nI l)), (3, .int (nI a)), (4, .int (nI b)), (5, .int (nI n)), (6, .int (nI (6 * a + (hZ d a - l)))), (7, .int (nI w + 1))] [] (g, I28, P) (some (.int (zb c))) (g, J, P))) → ((nI (hZ d w) = nI l) → some (Value.int (zb c)) = some (.int 1) ∧ ((g, J, P) : zH) = (g, K, P)) → Zt none mX10_goOn 0 0 17 [(0, .ref 83), (1, .ref h), (2, .int (nI l)), (3, .int (nI a)), (4, .int (nI b)), (5, .int (nI n)), (6, .int (nI (6 * a + (hZ d a - l)))), (7, .int (nI w))] [] (g, K, P) (some (.int (zb c))) (g, J, P) := by
          intro c J q1 q2
          refine wX10_goOn_17 ⟨T.1, fun e => ?_, fun _ => ⟨T.1, _, c_sizeOf T W DK hw', T.1, _, hb, _, c_has (by omega), fun e => ?_, fun _ => ⟨T.1, _, T.2.2.2.2.2.2.1, T.1, nI 0, ?_, fun e => absurd rfl e, fun _ => ⟨q1, q2⟩⟩⟩⟩
          · rw [DK.2.1] at e; exact (noend e).elim
          · rw [zb_eq, hG.2.1] at e; cases e
          · rw [hmin, ← d0]; exact chg
        by_cases e1 : hZ d w = l
        · refine ⟨true, K, A, go true K (fun e => absurd (by rw [e1]) e) (fun _ => ⟨rfl, rfl⟩), kK, fun _ => ⟨l, a, b, w, hr, hG, e1⟩, C, z0, inv, fun e => (nomatch e)⟩
        · by_cases e2 : hZ d w < l
          · have v' := (twR_v W (twR_a hr hG e2)).1
            have e3 : upd3 A (ix3 (l - hZ d w) a w) n (ix3 l a b) = A (ix3 l a b) := by
              rw [upd3_n _ (fun e => by have := (ix3_i W v v' e).1; omega)]
            obtain ⟨c, J, A', q1, q2⟩ := next _ _ (kK.u _ _) ⟨C.1.u (ix3 (l - hZ d w) a w) n, C.2.u W (twR_a hr hG e2)⟩ (z0.u _ _) (inv.u W v' (by unfold twB; omega)) (by rw [e3, hA]) (fun u hu => by
              by_cases eu : u = w
              · subst eu
                intro _
                refine ⟨e1, fun _ => ?_, fun e => by omega⟩
                rw [e3, upd3_s]; omega
              · exact (hE u (by omega)).u e3)
            refine ⟨c, J, A', go c J (fun _ => ⟨fun e => absurd e (nI_ge e2 (by omega)), fun _ => ⟨S.k 83 10 (by decide), _, ?_, q1⟩⟩) (fun e => absurd ((nI_eq (by omega) (by omega)).mp e) e1), q2⟩
            rw [pk_sub (by omega)]
            exact c_shorten S Q W v' C (by omega)
          · have e4 : l < hZ d w := by omega
            have v' := (twR_v W (twR_b hr hG e4)).1
            have e3 : upd3 A (ix3 (hZ d w - l) w a) (n + hZ d w - l) (ix3 l a b) = A (ix3 l a b) := by
              by_cases e : ix3 l a b = ix3 (hZ d w - l) w a
              · rw [e, upd3_s, ← e, hA]; omega
              · rw [upd3_n _ e]
            obtain ⟨c, J, A', q1, q2⟩ := next _ _ (kK.u _ _) ⟨C.1.u (ix3 (hZ d w - l) w a) (n + hZ d w - l), C.2.u W (twR_b hr hG e4)⟩ (z0.u _ _) (inv.u W v' (by unfold twB; omega)) (by rw [e3, hA]) (fun u hu => by
              by_cases eu : u = w
              · subst eu
                intro _
                refine ⟨e1, fun e => by omega, fun _ => ?_⟩
                rw [e3, upd3_s, hA]; omega
              · exact (hE u (by omega)).u e3)
            refine ⟨c, J, A', go c J (fun _ => ⟨fun _ => ⟨S.k 83 10 (by decide), _, ?_, q1⟩, fun e => absurd (nI_le (by omega) (by omega)) e⟩) (fun e => absurd ((nI_eq (by omega) (by omega)).mp e) e1), q2⟩
            rw [pk_sub (by omega), nI_add, pk_sub (by omega)]
            exact c_shorten S Q W v' C (by omega)
      · obtain ⟨c, J, A', q1, q2⟩ := next K A kK C z0 inv hA (fun u hu => by
          by_cases eu : u = w
          · subst eu; exact fun G => absurd G hG
          · exact hE u (by omega))
        refine ⟨c, J, A', wX10_goOn_17 ⟨T.1, fun e => ?_, fun _ => ⟨T.1, _, c_sizeOf T W DK hw', T.1, _, hb, _, c_has (by omega), fun _ => q1, fun e => ⟨T.1, _, T.2.2.2.2.2.2.1, T.1, _, by rw [hmin]; exact chg, fun _ => q1, fun e2 => ?_⟩⟩⟩, q2⟩
        · rw [DK.2.1] at e; exact (noend e).elim
        · rw [← ne_eq, zb_ne] at e
          have e2 := (nI_eq (b := 0) (by omega) (by decide)).mp e2
          exact absurd ⟨hw', e, dif_0.mp e2⟩ hG
  obtain ⟨c, J, A', q1, q2⟩ := key (hN d) 0 I A (by omega) (K87.rf I) C z0 inv hA (fun u hu => by omega)
  refine ⟨c, J, A', eX10_goOn (wX10_goOn_0 ⟨T.1, _, c_sizeOf T W D v3, ?_⟩), q2⟩
  rw [n6, pk_mul, nI_add, pk_sub (by omega), show a * 6 + hZ d a - l = 6 * a + (hZ d a - l) by omega]
  exact q1
/-- what a walk over the states gives: an end, or a place further on -/
def twQ (d : HD) (I : Nat → Nat → Int32) (J : Nat → Nat → Int32) (n : Nat) (c : Bool) : Prop := K87 I J ∧ ∃ A, twC d J A ∧ tw0 d A ∧ (c = true → twT d n ∧ ∀ m, m < n → ¬ twT d m) ∧ (c = false → twI d A (n + 1) 5 0 0)
theorem c_endsAt {n : Nat} {A : Nat → Nat} (S : Sg g) (Q : Sp P) (T : HlS g P h) (W : HW d) (D : HlD I h d) (hh : h + 6 ≤ 41) (C : twC d I A) (z0 : tw0 d A) (inv : twI d A n 5 0 0) (h1 : 1 ≤ n) (hn : n ≤ 24) : ∃ (c : Bool) (J : Nat → Nat → Int32), Cl mX10_endsAt [.ref 83, .ref h, .int (nI n)] (g, I, P) (some (.int (zb c))) (g, J, P) ∧ twQ d I J n c := by
  have hNn := W.2.1
  have key : ∀ lm l (K : Nat → Nat → Int32) (A : Nat → Nat), l = lm → l ≤ 5 → K87 I K → twC d K A → tw0 d A → twI d A n l 0 0 → ∃ (c : Bool) (J : Nat → Nat → Int32), Zt none mX10_endsAt 0 0 2 [(0, .ref 83), (1, .ref h), (2, .int (nI n)), (3, .int (nI l))] [] (g, K, P) (some (.int (zb c))) (g, J, P) ∧ twQ d I J n c := by
    intro lm
    induction lm with
    | zero =>
      intro l K A hl h5 kK C z0 inv
      subst hl
      refine ⟨false, K, wX10_endsAt_2 ⟨fun _ => ⟨rfl, rfl⟩, fun e => absurd (by decide) e⟩, kK, A, C, z0, fun e => (nomatch e), fun _ l a b v hb w => inv l a b v ?_ w⟩
      have := (ix3_lt W v).2.1
      have := v.1
      unfold twB at hb ⊢
      omega
    | succ lm ihl =>
      intro l K A hl h5 kK C z0 inv
      have l1 : 1 ≤ l := by omega
      have ka : ∀ m a (K : Nat → Nat → Int32) (A : Nat → Nat), a + m = hN d → K87 I K → twC d K A → tw0 d A → twI d A n l a 0 → ∃ (c : Bool) (J : Nat → Nat → Int32), Zt none mX10_endsAt 0 0 10 [(0, .ref 83), (1, .ref h), (2, .int (nI n)), (3, .int (nI l)), (4, .int (nI a))] [] (g, K, P) (some (.int (zb c))) (g, J, P) ∧ twQ d I J n c := by
        intro m
        induction m with
        | zero =>
          intro a K A ha kK C z0 inv
          have ha : a = hN d := ha
          subst ha
          have DK := D.keep (J := K) (fun j hj => kK _ (by omega))
          obtain ⟨c, J, z, q⟩ := ihl (l - 1) K A (by omega) (by omega) kK C z0 (fun l' a b v hb w => inv l' a b v (by
            have := v.2.2.1
            unfold twB at hb ⊢
            omega) w)
          refine ⟨c, J, wX10_endsAt_10 ⟨T.1, fun _ => ?_, fun e => absurd (by rw [DK.2.1]; exact Int32.le_refl _) e⟩, q⟩
          rw [nI_a1, n1, pk_sub l1]
          exact z
        | succ m iha =>
          intro a K A ha kK C z0 inv
          have ha' : a < hN d := by omega
          have za := W.2.2.1 a ha'
          have kb : ∀ m b (K : Nat → Nat → Int32) (A : Nat → Nat), b + m = hN d → K87 I K → twC d K A → tw0 d A → twI d A n l a b → ∃ (c : Bool) (J : Nat → Nat → Int32), Zt none mX10_endsAt 0 0 22 [(0, .ref 83), (1, .ref h), (2, .int (nI n)), (3, .int (nI l)), (4, .int (nI a)), (5, .int (nI b))] [] (g, K, P) (some (.int (zb c))) (g, J, P) ∧ twQ d I J n c := by
            intro m
            induction m with
            | zero =>
              intro b K A hb kK C z0 inv
              have hb : b = hN d := hb
              subst hb
              have DK := D.keep (J := K) (fun j hj => kK _ (by omega))
              obtain ⟨c, J, z, q⟩ := iha (a + 1) K A (by omega) kK C z0 (fun l' a' b v hb w => inv l' a' b v (by
                have := v.2.2.2
                unfold twB at hb ⊢
                omega) w)
              exact ⟨c, J, wX10_endsAt_22 ⟨T.1, fun _ => by rw [nI_1]; exact z, fun e => absurd (by rw [DK.2.1]; exact Int32.le_refl _) e⟩, q⟩
            | succ m ihb =>
              intro b K A hb kK C z0 inv
              have hb' : b < hN d := by omega
              have DK := D.keep (J := K) (fun j hj => kK _ (by omega))
              have noend : ¬ K h 1 ≤ nI b := by rw [DK.2.1]; exact nI_ge hb' (by omega)
              have hi : ix3 l a b < 600 := by unfold ix3; omega
              have hA := C.2.2 (ix3 l a b)
              by_cases e : A (ix3 l a b) = n
              · by_cases vl : l < hZ d a
                · have v : twV d l a b := ⟨l1, vl, ha', hb'⟩
                  obtain ⟨c, J1, A1, z, k1, t1, C1, z1, i1, E1⟩ := c_goOn S Q T W DK hh C z0 inv v e hn
                  cases c with
                  | true =>
                    refine ⟨true, J1, wX10_endsAt_22 ⟨T.1, fun q => absurd q noend, fun _ => ⟨S.k 83 10 (by decide), 87, Q.p 83 3 87 (by decide), _, c_pair, _, c_got (S.k 87 13 (by decide)) (S.l 87 600 (by decide)) (by decide) hi, fun q => absurd (by rw [C.1 _ hi, e]) q, fun _ => ⟨S.k 83 10 (by decide), _, _, z, fun q => absurd q (by decide), fun _ => ⟨rfl, rfl⟩⟩⟩⟩, kK.tr k1, A1, C1, z1, fun _ => ⟨t1 rfl, fun m hm => tw_end W i1 z1 (N := n - 1) (by omega) m (by omega)⟩, fun q => (nomatch q)⟩
                  | false =>
                    obtain ⟨E2, E3⟩ := E1 rfl
                    obtain ⟨c, J, z', q⟩ := ihb (b + 1) J1 A1 (by omega) (kK.tr k1) C1 z1 (fun l' a' b' v' hb w => by
                      by_cases es : l' = l ∧ a' = a ∧ b' = b
                      · obtain ⟨rfl, rfl, rfl⟩ := es
                        exact E3 w
                      · exact i1 l' a' b' v' (by unfold twB at hb ⊢; omega) w)
                    exact ⟨c, J, wX10_endsAt_22 ⟨T.1, fun q => absurd q noend, fun _ => ⟨S.k 83 10 (by decide), 87, Q.p 83 3 87 (by decide), _, c_pair, _, c_got (S.k 87 13 (by decide)) (S.l 87 600 (by decide)) (by decide) hi, fun q => absurd (by rw [C.1 _ hi, e]) q, fun _ => ⟨S.k 83 10 (by decide), _, _, z, fun _ => by rw [nI_1]; exact z', fun q => absurd rfl q⟩⟩⟩, q⟩
                · have r := C.2.1 l a b ha' hb' (by omega)
                  exact absurd (twR_v W r).1.2.1 vl
              · obtain ⟨c, J, z', q⟩ := ihb (b + 1) K A (by omega) kK C z0 (fun l' a' b' v' hb w => by
                  by_cases es : l' = l ∧ a' = a ∧ b' = b
                  · obtain ⟨rfl, rfl, rfl⟩ := es
                    exact inv l' a' b' v' (by unfold twB at hb ⊢; omega) w
                  · exact inv l' a' b' v' (by unfold twB at hb ⊢; omega) w)
                refine ⟨c, J, wX10_endsAt_22 ⟨T.1, fun q => absurd q noend, fun _ => ⟨S.k 83 10 (by decide), 87, Q.p 83 3 87 (by decide), _, c_pair, _, c_got (S.k 87 13 (by decide)) (S.l 87 600 (by decide)) (by decide) hi, fun _ => by rw [nI_1]; exact z', fun q => ?_⟩⟩, q⟩
                rw [C.1 _ hi, nI_eq (by omega) (by omega)] at q
                exact absurd q e
          have DK := D.keep (J := K) (fun j hj => kK _ (by omega))
          obtain ⟨c, J, z, q⟩ := kb (hN d) 0 K A (by omega) kK C z0 inv
          exact ⟨c, J, wX10_endsAt_10 ⟨T.1, fun q => absurd q (by rw [DK.2.1]; exact nI_ge ha' (by omega)), fun _ => z⟩, q⟩
      obtain ⟨c, J, z, q⟩ := ka (hN d) 0 K A (by omega) kK C z0 inv
      exact ⟨c, J, wX10_endsAt_2 ⟨fun e => absurd e (nI_nlt (b := 1) (by omega) (by omega)), fun _ => z⟩, q⟩
  obtain ⟨c, J, z, q⟩ := key 5 5 I A rfl (Nat.le_refl _) (K87.rf I) C z0 inv
  exact ⟨c, J, eX10_endsAt (wX10_endsAt_0 z), q⟩
theorem c_twice (S : Sg g) (Q : Sp P) (T : HlS g P h) (W : HW d) (D : HlD I h d) (hh : h + 6 ≤ 41) : ∃ (x : Int32) (J : Nat → Nat → Int32), Cl mX10_shortestReadTwice [.ref 83, .ref h] (g, I, P) (some (.int x)) (g, J, P) ∧ K87 I J ∧ twA d x := by
  have hNn := W.2.1
  have walk : ∀ m n (K : Nat → Nat → Int32) (A : Nat → Nat), n + m = 25 → 1 ≤ n → K87 I K → twC d K A → tw0 d A → twI d A n 5 0 0 → ∃ (x : Int32) (J : Nat → Nat → Int32), Zt none mX10_shortestReadTwice 0 0 75 [(0, .ref 83), (1, .ref h), (2, .int (nI n))] [] (g, K, P) (some (.int x)) (g, J, P) ∧ K87 I J ∧ twA d x := by
    intro m
    induction m with
    | zero =>
      intro n K A hn h1 kK C z0 inv
      obtain rfl : n = 25 := hn
      exact ⟨-1, K, wX10_shortestReadTwice_75 ⟨fun _ => ⟨rfl, rfl⟩, fun e => absurd (by decide) e⟩, kK, Or.inr ⟨rfl, tw_end W inv z0 (by omega)⟩⟩
    | succ m ih =>
      intro n K A hn h1 kK C z0 inv
      have DK := D.keep (J := K) (fun j hj => kK _ (by omega))
      obtain ⟨c, J1, z, k1, A1, C1, z1, t1, i1⟩ := c_endsAt S Q T W DK hh C z0 inv h1 (by omega)
      cases c with
      | true =>
        obtain ⟨t2, t3⟩ := t1 rfl
        exact ⟨nI n, J1, wX10_shortestReadTwice_75 ⟨fun e => absurd e (nI_nlt (a := 24) (by omega) (by decide)), fun _ => ⟨S.k 83 10 (by decide), _, _, z, fun q => absurd q (by decide), fun _ => ⟨rfl, rfl⟩⟩⟩, kK.tr k1, Or.inl ⟨n, by omega, rfl, t2, t3⟩⟩
      | false =>
        obtain ⟨x, J, z', q⟩ := ih (n + 1) J1 A1 (by omega) (by omega) (kK.tr k1) C1 z1 (i1 rfl)
        exact ⟨x, J, wX10_shortestReadTwice_75 ⟨fun e => absurd e (nI_nlt (a := 24) (by omega) (by decide)), fun _ => ⟨S.k 83 10 (by decide), _, _, z, fun _ => by rw [nI_1]; exact z', fun q => absurd rfl q⟩⟩, q⟩
  have ka : ∀ m a (K : Nat → Nat → Int32) (A : Nat → Nat), a + m = hN d → K87 I K → twC d K A → (∀ a' b, a' < a → b < hN d → wi1 d b a' = true → A (ix3 (hZ d a' - hZ d b) a' b) ≤ hZ d a') → ∃ (x : Int32) (J : Nat → Nat → Int32), Zt none mX10_shortestReadTwice 0 0 12 [(0, .ref 83), (1, .ref h), (2, .int (nI a))] [] (g, K, P) (some (.int x)) (g, J, P) ∧ K87 I J ∧ twA d x := by
    intro m
    induction m with
    | zero =>
      intro a K A ha kK C z0
      have ha : a = hN d := ha
      subst ha
      have DK := D.keep (J := K) (fun j hj => kK _ (by omega))
      obtain ⟨x, J, z, q⟩ := walk 24 1 K A (by omega) (by omega) kK C (fun a b ha hb hw => z0 a b ha hb hw) (fun l a b v hb w => by
        exfalso
        have v5 := (ix3_lt W v).2.1
        have vl := v.1
        unfold twB at hb
        have h0 : A (ix3 l a b) < 1 := by omega
        have := (twR_v W (C.2.1 l a b v.2.2.1 v.2.2.2 (by omega))).2
        omega)
      exact ⟨x, J, wX10_shortestReadTwice_12 ⟨T.1, fun _ => z, fun e => absurd (by rw [DK.2.1]; exact Int32.le_refl _) e⟩, q⟩
    | succ m iha =>
      intro a K A ha kK C z0
      have ha' : a < hN d := by omega
      have za := W.2.2.1 a ha'
      have kb : ∀ m b (K : Nat → Nat → Int32) (A : Nat → Nat), b + m = hN d → K87 I K → twC d K A → (∀ a' b', (a' < a ∨ (a' = a ∧ b' < b)) → b' < hN d → wi1 d b' a' = true → A (ix3 (hZ d a' - hZ d b') a' b') ≤ hZ d a') → ∃ (x : Int32) (J : Nat → Nat → Int32), Zt none mX10_shortestReadTwice 0 0 22 [(0, .ref 83), (1, .ref h), (2, .int (nI a)), (3, .int (nI b))] [] (g, K, P) (some (.int x)) (g, J, P) ∧ K87 I J ∧ twA d x := by
        intro m
        induction m with
        | zero =>
          intro b K A hb kK C z0
          have hb : b = hN d := hb
          subst hb
          have DK := D.keep (J := K) (fun j hj => kK _ (by omega))
          obtain ⟨x, J, z, q⟩ := iha (a + 1) K A (by omega) kK C (fun a' b' h1 h2 h3 => z0 a' b' (by omega) h2 h3)
          exact ⟨x, J, wX10_shortestReadTwice_22 ⟨T.1, fun _ => by rw [nI_1]; exact z, fun e => absurd (by rw [DK.2.1]; exact Int32.le_refl _) e⟩, q⟩
        | succ m ihb =>
          intro b K A hb kK C z0
          have hb' : b < hN d := by omega
          have zbb := W.2.2.1 b hb'
          have DK := D.keep (J := K) (fun j hj => kK _ (by omega))
          have noend : ¬ K h 1 ≤ nI b := by rw [DK.2.1]; exact nI_ge hb' (by omega)
          cases hw : wi1 d b a with
          | false =>
            obtain ⟨x, J, z, q⟩ := ihb (b + 1) K A (by omega) kK C (fun a' b' h1 h2 h3 => by
              by_cases e : a' = a ∧ b' = b
              · obtain ⟨rfl, rfl⟩ := e; rw [hw] at h3; cases h3
              · exact z0 a' b' (by omega) h2 h3)
            refine ⟨x, J, wX10_shortestReadTwice_22 ⟨T.1, fun q => absurd q noend, fun _ => ⟨T.1, _, c_isWithin T W DK hb' ha', fun _ => by rw [nI_1]; exact z, fun e => ?_⟩⟩, q⟩
            rw [hw] at e; exact absurd rfl e
          | true =>
            have r := twR_0 ha' hb' hw
            have v := (twR_v W r).1
            have hz := wi1_1 hw
            obtain ⟨x, J, z, q⟩ := ihb (b + 1) _ _ (by omega) (kK.u _ _) ⟨C.1.u (ix3 (hZ d a - hZ d b) a b) (hZ d a), C.2.u W r⟩ (fun a' b' h1 h2 h3 => by
              by_cases e : a' = a ∧ b' = b
              · obtain ⟨rfl, rfl⟩ := e; rw [upd3_s]; omega
              · exact Nat.le_trans (upd3_le _ _ _ _) (z0 a' b' (by omega) h2 h3))
            refine ⟨x, J, wX10_shortestReadTwice_22 ⟨T.1, fun q => absurd q noend, fun _ => ⟨T.1, _, c_isWithin T W DK hb' ha', fun e => ?_, fun _ => ⟨T.1, _, c_sizeOf T W DK ha', T.1, _, c_sizeOf T W DK hb', T.1, _, c_sizeOf T W DK ha', S.k 83 10 (by decide), _, ?_, by rw [nI_1]; exact z⟩⟩⟩, q⟩
            · rw [hw] at e; exact absurd e (by decide)
            · rw [pk_sub (by omega)]
              exact c_shorten S Q W v C (by omega)
      have DK := D.keep (J := K) (fun j hj => kK _ (by omega))
      obtain ⟨x, J, z, q⟩ := kb (hN d) 0 K A (by omega) kK C (fun a' b' h1 h2 h3 => z0 a' b' (by omega) h2 h3)
      exact ⟨x, J, wX10_shortestReadTwice_12 ⟨T.1, fun q => absurd q (by rw [DK.2.1]; exact nI_ge ha' (by omega)), fun _ => z⟩, q⟩
  obtain ⟨K0, z0, f1, f2⟩ := c_fill (g := g) (I := I) (P := P) (a := 87) (n := 600) (x := 1000) (S.k 87 13 (by decide)) (S.l 87 600 (by decide)) (by decide)
  obtain ⟨x, J, z, q⟩ := ka (hN d) 0 K0 (fun _ => 1000) (by omega) f2 ⟨fun i hi => f1 i hi, fun l a b _ _ h => absurd h (Nat.lt_irrefl _), fun i => Nat.le_refl _⟩ (fun a' b h1 => by omega)
  exact ⟨x, J, eX10_shortestReadTwice (wX10_shortestReadTwice_0 ⟨S.k 83 10 (by decide), 87, Q.p 83 3 87 (by decide), _, z0, z⟩), q⟩
end CTW
