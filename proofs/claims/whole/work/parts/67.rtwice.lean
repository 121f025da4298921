/-! ===== twice: the reference ===== -/
def jx (d : HD) (l a b : Nat) : Nat := 60 * a + 10 * (hZ d a - l) + b
def updv (U : Nat → Nat) (i x : Nat) : Nat → Nat := fun j => if j = i then x else U j
theorem updv_s (U : Nat → Nat) (i x : Nat) : updv U i x i = x := by unfold updv; rw [if_pos rfl]
theorem updv_n (U : Nat → Nat) {i x j : Nat} (h : j ≠ i) : updv U i x j = U j := by unfold updv; rw [if_neg h]
theorem jx_b {d : HD} (W : HW d) {l a b : Nat} (v : twV d l a b) : jx d l a b < 600 ∧ jx d l a b / 60 = a ∧ jx d l a b / 10 % 6 = hZ d a - l ∧ jx d l a b % 10 = b := by
  have hNn := W.2.1
  obtain ⟨v1, v2, v3, v4⟩ := v
  have := (W.2.2.1 a v3).2
  unfold jx
  omega
theorem jx_i {d : HD} (W : HW d) {l a b l' a' b' : Nat} (v : twV d l a b) (v' : twV d l' a' b') (e : jx d l a b = jx d l' a' b') : l = l' ∧ a = a' ∧ b = b' := by
  obtain ⟨-, x1, x2, x3⟩ := jx_b W v
  obtain ⟨-, y1, y2, y3⟩ := jx_b W v'
  have ea : a = a' := by rw [← x1, ← y1, e]
  have eb : b = b' := by rw [← x3, ← y3, e]
  subst ea eb
  have el : hZ d a - l = hZ d a - l' := by rw [← x2, ← y2, e]
  have h1 := v.2.1
  have h2 := v'.2.1
  exact ⟨by omega, rfl, rfl⟩
def twF (d : HD) (U : Nat → Nat) (D l a b w : Nat) : Prop := twG d l a b w → (hZ d w = l → D ≤ U (jx d l a b)) ∧ (hZ d w < l → U (jx d (l - hZ d w) a w) ≤ U (jx d l a b)) ∧ (l < hZ d w → U (jx d l a b) + hZ d w - l ≤ 24 → U (jx d (hZ d w - l) w a) ≤ U (jx d l a b) + hZ d w - l)
def twFi (d : HD) (U : Nat → Nat) (D i w : Nat) : Prop := ∀ l a b, twV d l a b → i = jx d l a b → U i ≠ 9999 → twF d U D l a b w
def twX (d : HD) (U : Nat → Nat) (D : Nat) : Prop := (∀ i, U i ≤ 9999) ∧ D ≤ 9999 ∧ (∀ i, i < 600 → U i ≠ 9999 → ∃ l a b, twV d l a b ∧ i = jx d l a b ∧ twR d l a b (U i) ∧ U i ≤ 24) ∧ (D ≠ 9999 → twT d D ∧ D ≤ 24)
def twY (d : HD) (U : Nat → Nat) : Prop := ∀ a b, a < hN d → b < hN d → wi1 d b a = true → U (jx d (hZ d a - hZ d b) a b) ≤ hZ d a
theorem twX.u {d : HD} {U : Nat → Nat} {D l a b x : Nat} (h : twX d U D) (v : twV d l a b) (r : twR d l a b x) (hx : x ≤ 24) : twX d (updv U (jx d l a b) x) D := by
  refine ⟨fun i => ?_, h.2.1, fun i hi hn => ?_, h.2.2.2⟩
  · unfold updv
    split
    · omega
    · exact h.1 i
  · by_cases e : i = jx d l a b
    · subst e
      rw [updv_s] at hn ⊢
      exact ⟨l, a, b, v, rfl, r, hx⟩
    · rw [updv_n _ e] at hn ⊢
      exact h.2.2.1 i hi hn
theorem twX.at {d : HD} {U : Nat → Nat} {D l a b : Nat} (W : HW d) (h : twX d U D) (v : twV d l a b) (hn : U (jx d l a b) ≠ 9999) : twR d l a b (U (jx d l a b)) ∧ U (jx d l a b) ≤ 24 := by
  obtain ⟨l', a', b', v', e, r, h24⟩ := h.2.2.1 _ (jx_b W v).1 hn
  obtain ⟨rfl, rfl, rfl⟩ := jx_i W v v' e
  exact ⟨r, h24⟩
theorem tw_fin {d : HD} {U : Nat → Nat} {D : Nat} (W : HW d) (h : twX d U D) (y : twY d U) (c : ∀ i, i < 600 → ∀ w, twFi d U D i w) : twA d (if D ≤ 24 then nI D else -1) := by
  have low : ∀ m, m ≤ 24 → twT d m → D ≤ m := by
    rintro m hm ⟨l, a, b, w, ⟨k, hk⟩, G, hz⟩
    have v := (twN_v W _ _ _ _ _ hk).1
    have := tw_low W (V := fun l a b => U (jx d l a b)) (N := 24) y (fun l a b w v hv G => by
      have hv : U (jx d l a b) ≤ 24 := hv
      have := c _ (jx_b W v).1 w l a b v rfl (by omega) G
      exact this.2) k l a b m hk hm
    have this : U (jx d l a b) ≤ m := this
    have := (c _ (jx_b W v).1 w l a b v rfl (by omega) G).1 hz
    omega
  by_cases hD : D ≤ 24
  · rw [if_pos hD]
    exact Or.inl ⟨D, hD, rfl, (h.2.2.2 (by omega)).1, fun m hm ht => by have := low m (by omega) ht; omega⟩
  · rw [if_neg hD]
    exact Or.inr ⟨rfl, fun m hm ht => by have := low m hm ht; omega⟩
def Kt (I J : Nat → Nat → Int32) : Prop := (∀ c, c ≠ 95 → c ≠ 112 → J c = I c) ∧ ∀ k, k ≠ 36 → J 95 k = I 95 k
theorem Kt.rf (I : Nat → Nat → Int32) : Kt I I := ⟨fun _ _ _ => rfl, fun _ _ => rfl⟩
theorem Kt.tr {I J K : Nat → Nat → Int32} (h : Kt I J) (h2 : Kt J K) : Kt I K := ⟨fun c a1 a2 => (h2.1 c a1 a2).trans (h.1 c a1 a2), fun k k1 => (h2.2 k k1).trans (h.2 k k1)⟩
theorem Kt.m {I J : Nat → Nat → Int32} (h : Kt I J) : Km I J := fun a ha => h.1 a (by omega) (by omega)
theorem Kt.u {I J : Nat → Nat → Int32} (h : Kt I J) (k : Nat) (x : Int32) : Kt I (zU J 112 k x) := ⟨fun c c1 c2 => by rw [← h.1 c c1 c2]; funext q; rw [zU_a _ _ c2], fun q hq => by rw [zU_a _ _ (by decide), h.2 q hq]⟩
theorem Kt.u5 {I J : Nat → Nat → Int32} (h : Kt I J) (x : Int32) : Kt I (zU J 95 36 x) := ⟨fun c c1 c2 => by rw [← h.1 c c1 c2]; funext q; rw [zU_a _ _ c1], fun q hq => by rw [zU_k _ _ hq, h.2 q hq]⟩
theorem Kt.h {I J : Nat → Nat → Int32} {d : HD} {h0 : Nat} (h : Kt I J) (D : MhD I h0 d) : MhD J h0 d := by
  unfold MhD MhA at D ⊢
  rw [h.1 96 (by decide) (by decide), h.2 13 (by decide), h.2 14 (by decide), h.2 15 (by decide)]
  exact D
/-- the reference's row and what is doubled -/
def twH (I : Nat → Nat → Int32) (U : Nat → Nat) (D : Nat) : Prop := (∀ i, i < 600 → I 112 i = nI (U i)) ∧ I 95 36 = nI D
theorem twH.u {I : Nat → Nat → Int32} {U : Nat → Nat} {D : Nat} (h : twH I U D) (i x : Nat) : twH (zU I 112 i (nI x)) (updv U i x) D := by
  refine ⟨fun j hj => ?_, by rw [zU_a _ _ (by decide)]; exact h.2⟩
  by_cases e : j = i
  · subst e; rw [zU_s, updv_s]
  · rw [zU_k _ _ e, updv_n _ e, h.1 j hj]
theorem twH.u5 {I : Nat → Nat → Int32} {U : Nat → Nat} {D : Nat} (h : twH I U D) (x : Nat) : twH (zU I 95 36 (nI x)) U x := ⟨fun j hj => by rw [zU_a _ _ (by decide)]; exact h.1 j hj, zU_s _ _ _ _⟩
section RTW
variable {g : zG} {I : Nat → Nat → Int32} {P : Nat → Nat → Option Nat} {t : TD} {im : Nat → Option TD} {h0 : Nat} {d : HD}
theorem r_goesOn {l a b w D : Nat} {U : Nat → Nat} (S : Sg g) (Q : Sp P) (W : HW d) (E : MhD I h0 d) (H : twH I U D) (X : twX d U D) (Y : twY d U) (v : twV d l a b) (hU : U (jx d l a b) ≠ 9999) (hw : w < hN d) : ∃ (c : Bool) (J : Nat → Nat → Int32) (U' : Nat → Nat) (D' : Nat), Cl mX12_goesOn [.ref 95, .int (nI (jx d l a b)), .int (nI w)] (g, I, P) (some (.int (zb c))) (g, J, P) ∧ Kt I J ∧ twH J U' D' ∧ twX d U' D' ∧ twY d U' ∧ D' ≤ D ∧ U' (jx d l a b) ≠ 9999 ∧ (c = false → U' = U ∧ twF d U D' l a b w) ∧ (c = true → nsum U' 600 < nsum U 600) := by
  have hNn := W.2.1
  obtain ⟨v1, v2, v3, v4⟩ := id v
  have za := W.2.2.1 a v3
  have zw := W.2.2.1 w hw
  obtain ⟨j0, j1, j2, j3⟩ := jx_b W v
  obtain ⟨hr, h24⟩ := X.at W v hU
  have hD := X.2.1
  have i112 : vp_in (nI (jx d l a b)) (g.2.2 112) := by rw [S.l 112 600 (by decide)]; exact vp_in_nI j0 (by decide)
  have cl : (nI (jx d l a b)).toNatClampNeg = jx d l a b := nI_clamp (by omega)
  have eU : I 112 (nI (jx d l a b)).toNatClampNeg = nI (U (jx d l a b)) := by rw [cl, H.1 _ j0]
  have q1 : nI (jx d l a b) / 60 = nI a := by rw [show (60 : Int32) = nI 60 from rfl, pk_div (by omega) (by decide) (by decide), j1]
  have q2 : nI (jx d l a b) / 10 - nI (jx d l a b) / 10 / 6 * 6 = nI (hZ d a - l) := by rw [show (10 : Int32) = nI 10 from rfl, pk_div (by omega) (by decide) (by decide), n6, pk_rem (by omega) (by decide) (by decide), j2]
  have q3 : nI (jx d l a b) - nI (jx d l a b) / 10 * 10 = nI b := by rw [show (10 : Int32) = nI 10 from rfl, pk_rem (by omega) (by decide) (by decide), j3]
  have q4 : nI (hZ d a) - nI (hZ d a - l) = nI l := by rw [pk_sub (by omega), show hZ d a - (hZ d a - l) = l by omega]
  -- behind the letters
  have z210 : ∀ (l' a' b' v' : Nat), twV d l' a' b' → twR d l' a' b' v' → v' < 2 ^ 30 → (U (jx d l' a' b') ≤ v' ∨ 24 < v' → twF d U D l a b w) → ∃ (c : Bool) (J : Nat → Nat → Int32) (U' : Nat → Nat) (D' : Nat), Zt none mX12_goesOn 0 0 210 [(0, .ref 95), (6, .int (nI (jx d l' a' b')))] [.int (nI v')] (g, I, P) (some (.int (zb c))) (g, J, P) ∧ Kt I J ∧ twH J U' D' ∧ twX d U' D' ∧ twY d U' ∧ D' ≤ D ∧ U' (jx d l a b) ≠ 9999 ∧ (c = false → U' = U ∧ twF d U D' l a b w) ∧ (c = true → nsum U' 600 < nsum U 600) := by
    intro l' a' b' v' vv rr hv' hF
    have k0 := (jx_b W vv).1
    have hU' := X.1 (jx d l' a' b')
    have ii : vp_in (nI (jx d l' a' b')) (g.2.2 112) := by rw [S.l 112 600 (by decide)]; exact vp_in_nI k0 (by decide)
    have cc : (nI (jx d l' a' b')).toNatClampNeg = jx d l' a' b' := nI_clamp (by omega)
    by_cases c1 : U (jx d l' a' b') ≤ v'
    · refine ⟨false, I, U, D, wX12_goesOn_210 ⟨S.k 95 12 (by decide), 112, Q.p 95 35 112 (by decide), S.k 112 13 (by decide), ii, fun _ => ⟨rfl, rfl⟩, fun e => ?_⟩, Kt.rf I, H, X, Y, Nat.le_refl _, hU, fun _ => ⟨rfl, hF (Or.inl c1)⟩, fun e => (nomatch e)⟩
      rw [cc, H.1 _ k0] at e
      exact absurd (nI_le c1 (by omega)) e
    · by_cases c2 : v' ≤ 24
      · refine ⟨true, zU I 112 (jx d l' a' b') (nI v'), updv U (jx d l' a' b') v', D, wX12_goesOn_210 ⟨S.k 95 12 (by decide), 112, Q.p 95 35 112 (by decide), S.k 112 13 (by decide), ii, fun e => ?_, fun _ => ⟨fun _ => ⟨S.k 95 12 (by decide), 112, Q.p 95 35 112 (by decide), S.k 112 13 (by decide), ii, rfl, by rw [cc]⟩, fun e => absurd (nI_le (b := 24) c2 (by decide)) e⟩⟩, (Kt.rf I).u _ _, H.u _ _, X.u vv rr c2, fun a2 b2 h1 h2 h3 => ?_, Nat.le_refl _, ?_, fun e => (nomatch e), fun _ => ?_⟩
        · rw [cc, H.1 _ k0, nI_leI (by omega) (by omega)] at e
          exact absurd e c1
        · have := Y a2 b2 h1 h2 h3
          by_cases e : jx d (hZ d a2 - hZ d b2) a2 b2 = jx d l' a' b'
          · rw [e, updv_s]; rw [e] at this; omega
          · rw [updv_n _ e]; exact this
        · by_cases e : jx d l a b = jx d l' a' b'
          · rw [e, updv_s]; omega
          · rw [updv_n _ e]; exact hU
        · refine nsum_lt 600 (fun k hk => ?_) ⟨jx d l' a' b', k0, by rw [updv_s]; omega⟩
          by_cases e : k = jx d l' a' b'
          · subst e; rw [updv_s]; omega
          · rw [updv_n _ e]; exact Nat.le_refl _
      · refine ⟨false, I, U, D, wX12_goesOn_210 ⟨S.k 95 12 (by decide), 112, Q.p 95 35 112 (by decide), S.k 112 13 (by decide), ii, fun _ => ⟨rfl, rfl⟩, fun _ => ⟨fun e => ?_, fun _ => ⟨rfl, rfl⟩⟩⟩, Kt.rf I, H, X, Y, Nat.le_refl _, hU, fun _ => ⟨rfl, hF (Or.inr (by omega))⟩, fun e => (nomatch e)⟩
        rw [show (24 : Int32) = nI 24 from rfl, nI_leI (by omega) (by decide)] at e
        exact absurd e c2
  have z89 : twG d l a b w → ∃ (c : Bool) (J : Nat → Nat → Int32) (U' : Nat → Nat) (D' : Nat), Zt none mX12_goesOn 0 0 89 [(0, .ref 95), (1, .int (nI (jx d l a b))), (2, .int (nI w)), (3, .int (nI a)), (4, .int (nI (hZ d a - l))), (5, .int (nI l))] [] (g, I, P) (some (.int (zb c))) (g, J, P) ∧ Kt I J ∧ twH J U' D' ∧ twX d U' D' ∧ twY d U' ∧ D' ≤ D ∧ U' (jx d l a b) ≠ 9999 ∧ (c = false → U' = U ∧ twF d U D' l a b w) ∧ (c = true → nsum U' 600 < nsum U 600) := by
    intro G
    by_cases e1 : hZ d w = l
    · by_cases e2 : D ≤ U (jx d l a b)
      · refine ⟨false, zU I 95 36 (nI D), U, D, wX12_goesOn_89 ⟨S.k 95 12 (by decide), _, r_longOf S Q W E hw, fun e => absurd (by rw [e1]) e, fun _ => ⟨S.k 95 12 (by decide), 112, Q.p 95 35 112 (by decide), S.k 112 13 (by decide), i112, S.k 95 12 (by decide), fun _ => ⟨S.k 95 12 (by decide), S.k 95 12 (by decide), rfl, by rw [H.2]⟩, fun e => ?_⟩⟩, (Kt.rf I).u5 _, H.u5 D, X, Y, Nat.le_refl _, hU, fun _ => ⟨rfl, fun _ => ⟨fun _ => e2, fun e => by omega, fun e => by omega⟩⟩, fun e => (nomatch e)⟩
        rw [eU, H.2] at e
        exact absurd (nI_le e2 (by omega)) e
      · refine ⟨false, zU I 95 36 (nI (U (jx d l a b))), U, U (jx d l a b), wX12_goesOn_89 ⟨S.k 95 12 (by decide), _, r_longOf S Q W E hw, fun e => absurd (by rw [e1]) e, fun _ => ⟨S.k 95 12 (by decide), 112, Q.p 95 35 112 (by decide), S.k 112 13 (by decide), i112, S.k 95 12 (by decide), fun e => ?_, fun _ => ⟨S.k 95 12 (by decide), 112, Q.p 95 35 112 (by decide), S.k 112 13 (by decide), i112, S.k 95 12 (by decide), rfl, by rw [eU]⟩⟩⟩, (Kt.rf I).u5 _, H.u5 _, ⟨X.1, by omega, X.2.2.1, fun _ => ⟨⟨l, a, b, w, hr, G, e1⟩, h24⟩⟩, Y, by omega, hU, fun _ => ⟨rfl, fun _ => ⟨fun _ => Nat.le_refl _, fun e => by omega, fun e => by omega⟩⟩, fun e => (nomatch e)⟩
        rw [eU, H.2, nI_leI (by omega) (by omega)] at e
        exact absurd e e2
    · by_cases e2 : hZ d w < l
      · have r' := twR_a hr G e2
        have v' := (twR_v W r').1
        obtain ⟨c, J, U', D', z, q⟩ := z210 _ _ _ _ v' r' (by omega) (fun hc => fun _ => ⟨fun e => absurd e e1, fun _ => by omega, fun e => by omega⟩)
        refine ⟨c, J, U', D', wX12_goesOn_89 ⟨S.k 95 12 (by decide), _, r_longOf S Q W E hw, fun _ => ⟨S.k 95 12 (by decide), _, r_longOf S Q W E hw, fun e => absurd e (nI_ge e2 (by omega)), fun _ => ⟨S.k 95 12 (by decide), _, r_longOf S Q W E hw, wX12_goesOn_174 ⟨S.k 95 12 (by decide), _, r_longOf S Q W E hw, fun e => absurd e (nI_ge e2 (by omega)), fun _ => ⟨S.k 95 12 (by decide), 112, Q.p 95 35 112 (by decide), S.k 112 13 (by decide), i112, ?_⟩⟩⟩⟩, fun e => absurd ((nI_eq (by omega) (by omega)).mp e) e1⟩, q⟩
        rw [eU, show (60 : Int32) = nI 60 from rfl, show (10 : Int32) = nI 10 from rfl, nI_add, pk_mul, pk_mul, nI_add, nI_add, show 60 * a + 10 * (hZ d a - l + hZ d w) + w = jx d (l - hZ d w) a w by unfold jx; omega]
        exact z
      · have e4 : l < hZ d w := by omega
        have r' := twR_b hr G e4
        have v' := (twR_v W r').1
        obtain ⟨c, J, U', D', z, q⟩ := z210 _ _ _ _ v' r' (by omega) (fun hc => fun _ => ⟨fun e => absurd e e1, fun e => by omega, fun _ h => by omega⟩)
        refine ⟨c, J, U', D', wX12_goesOn_89 ⟨S.k 95 12 (by decide), _, r_longOf S Q W E hw, fun _ => ⟨S.k 95 12 (by decide), _, r_longOf S Q W E hw, fun _ => wX12_goesOn_174 ⟨S.k 95 12 (by decide), _, r_longOf S Q W E hw, fun _ => ⟨S.k 95 12 (by decide), 112, Q.p 95 35 112 (by decide), S.k 112 13 (by decide), i112, S.k 95 12 (by decide), _, r_longOf S Q W E hw, ?_⟩, fun e => absurd (nI_le (by omega) (by omega)) e⟩, fun e => absurd (nI_le (by omega) (by omega)) e⟩, fun e => absurd ((nI_eq (by omega) (by omega)).mp e) e1⟩, q⟩
        rw [eU, show (60 : Int32) = nI 60 from rfl, show (10 : Int32) = nI 10 from rfl, nI_add, pk_sub (by omega), pk_mul, pk_mul, nI_add, nI_add, show 60 * w + 10 * l + a = jx d (hZ d w - l) w a by unfold jx; omega]
        exact z
  have z44 : tb (hBeh d b) w = true → ∀ m k, k + m = min (hZ d w) l → (∀ k', k' < k → hL d w k' = hL d a (hZ d a - l + k')) → ∃ (c : Bool) (J : Nat → Nat → Int32) (U' : Nat → Nat) (D' : Nat), Zt none mX12_goesOn 0 0 44 [(0, .ref 95), (1, .int (nI (jx d l a b))), (2, .int (nI w)), (3, .int (nI a)), (4, .int (nI (hZ d a - l))), (5, .int (nI l)), (6, .int (nI k))] [] (g, I, P) (some (.int (zb c))) (g, J, P) ∧ Kt I J ∧ twH J U' D' ∧ twX d U' D' ∧ twY d U' ∧ D' ≤ D ∧ U' (jx d l a b) ≠ 9999 ∧ (c = false → U' = U ∧ twF d U D' l a b w) ∧ (c = true → nsum U' 600 < nsum U 600) := by
    intro hB m
    induction m with
    | zero =>
      intro k hk hl
      obtain ⟨c, J, U', D', z, q⟩ := z89 ⟨hw, hB, fun k' hk' => hl k' (by omega)⟩
      refine ⟨c, J, U', D', wX12_goesOn_44 ⟨fun _ => z, fun e => ⟨S.k 95 12 (by decide), _, r_longOf S Q W E hw, fun _ => z, fun e2 => ?_⟩⟩, q⟩
      rw [nI_leI (by omega) (by omega)] at e e2
      omega
    | succ m ih =>
      intro k hk hl
      have l1 := W.2.2.2.2 a (hZ d a - l + k) v3 (by omega)
      have l2 := W.2.2.2.2 w k hw (by omega)
      by_cases e : hL d w k = hL d a (hZ d a - l + k)
      · obtain ⟨c, J, U', D', z, q⟩ := ih (k + 1) (by omega) (fun k' hk' => by
          by_cases e2 : k' = k
          · subst e2; exact e
          · exact hl k' (by omega))
        refine ⟨c, J, U', D', wX12_goesOn_44 ⟨fun e => absurd e (nI_ge (by omega) (by omega)), fun _ => ⟨S.k 95 12 (by decide), _, r_longOf S Q W E hw, fun e => absurd e (nI_ge (by omega) (by omega)), fun _ => ⟨S.k 95 12 (by decide), _, by rw [nI_add]; exact r_letterOf S Q W E v3 (by omega), S.k 95 12 (by decide), _, r_letterOf S Q W E hw (by omega), fun _ => by rw [nI_1]; exact z, fun e2 => absurd (by rw [e]) e2⟩⟩⟩, q⟩
      · refine ⟨false, I, U, D, wX12_goesOn_44 ⟨fun e => absurd e (nI_ge (by omega) (by omega)), fun _ => ⟨S.k 95 12 (by decide), _, r_longOf S Q W E hw, fun e => absurd e (nI_ge (by omega) (by omega)), fun _ => ⟨S.k 95 12 (by decide), _, by rw [nI_add]; exact r_letterOf S Q W E v3 (by omega), S.k 95 12 (by decide), _, r_letterOf S Q W E hw (by omega), fun e2 => ?_, fun _ => ⟨rfl, rfl⟩⟩⟩⟩, Kt.rf I, H, X, Y, Nat.le_refl _, hU, fun _ => ⟨rfl, fun G => absurd (G.2.2 k (by omega)) e⟩, fun e => (nomatch e)⟩
        rw [nI_eq (by omega) (by omega)] at e2
        exact absurd e2.symm e
  by_cases hB : tb (hBeh d b) w = true
  · obtain ⟨c, J, U', D', z, q⟩ := z44 hB (min (hZ d w) l) 0 (by omega) (fun k' hk' => by omega)
    refine ⟨c, J, U', D', eX12_goesOn (wX12_goesOn_0 (fun y hy => ⟨S.k 95 12 (by decide), _, by rw [q1]; exact r_longOf S Q W E v3, S.k 95 12 (by decide), _, by rw [q3]; exact r_behind S Q W E v4, _, r_holds, fun _ => ?_, fun e => ?_⟩)), q⟩
    · rw [hy, q1, q2, q4]; exact z
    · rw [zb_eq, hB] at e; cases e
  · refine ⟨false, I, U, D, eX12_goesOn (wX12_goesOn_0 (fun y hy => ⟨S.k 95 12 (by decide), _, by rw [q1]; exact r_longOf S Q W E v3, S.k 95 12 (by decide), _, by rw [q3]; exact r_behind S Q W E v4, _, r_holds, fun e => ?_, fun _ => ⟨?_, rfl⟩⟩)), Kt.rf I, H, X, Y, Nat.le_refl _, hU, fun _ => ⟨rfl, fun G => absurd G.2.1 hB⟩, fun e => (nomatch e)⟩
    · rw [← ne_eq, zb_ne] at e; exact absurd e hB
    · rfl
/-- a pass: nothing has come nearer, or the sum is less -/
def twP (d : HD) (U : Nat → Nat) (D i w M : Nat) (f : Bool) : Prop := nsum U 600 ≤ M ∧ ((f = false ∧ (∀ i', i' < i → ∀ w', twFi d U D i' w') ∧ ∀ w', w' < w → twFi d U D i w') ∨ (f = true ∧ nsum U 600 < M))
theorem twFi_d {U : Nat → Nat} {D D' i w : Nat} (h : twFi d U D i w) (hD : D' ≤ D) : twFi d U D' i w := by
  intro l a b v e hn G
  obtain ⟨a1, a2, a3⟩ := h l a b v e hn G
  exact ⟨fun x => Nat.le_trans hD (a1 x), a2, a3⟩
theorem r_pass {M : Nat} (S : Sg g) (Q : Sp P) (W : HW d) (E : MhD I h0 d) (again : ∀ (K : Nat → Nat → Int32) (U : Nat → Nat) (D : Nat), Kt I K → twH K U D → twX d U D → twY d U → nsum U 600 < M → ∃ (x : Int32) (J : Nat → Nat → Int32), Zt none mX12_twice 0 0 109 [(0, .ref 95), (2, .int 1)] [] (g, K, P) (some (.int x)) (g, J, P) ∧ Kt I J ∧ twA d x) {K : Nat → Nat → Int32} {U : Nat → Nat} {D : Nat} (kK : Kt I K) (H : twH K U D) (X : twX d U D) (Y : twY d U) (hM : nsum U 600 ≤ M) : ∃ (x : Int32) (J : Nat → Nat → Int32), Zt none mX12_twice 0 0 109 [(0, .ref 95), (2, .int 1)] [] (g, K, P) (some (.int x)) (g, J, P) ∧ Kt I J ∧ twA d x := by
  have hNn := W.2.1
  have key : ∀ m i (f : Bool) (K : Nat → Nat → Int32) (U : Nat → Nat) (D : Nat), i + m = 600 → Kt I K → twH K U D → twX d U D → twY d U → twP d U D i 0 M f → ∃ (x : Int32) (J : Nat → Nat → Int32), Zt none mX12_twice 0 0 117 [(0, .ref 95), (2, .int (zb f)), (3, .int (nI i))] [] (g, K, P) (some (.int x)) (g, J, P) ∧ Kt I J ∧ twA d x := by
    intro m
    induction m with
    | zero =>
      intro i f K U D hi kK H X Y p
      obtain rfl : i = 600 := hi
      cases f with
      | true =>
        rcases p.2 with ⟨e, -⟩ | ⟨-, e⟩
        · cases e
        · obtain ⟨x, J, z, q⟩ := again K U D kK H X Y e
          exact ⟨x, J, wX12_twice_117 ⟨fun _ => z, fun e => absurd (Int32.le_refl _) e⟩, q⟩
      | false =>
        rcases p.2 with ⟨-, e, -⟩ | ⟨e, -⟩
        · have hD := X.2.1
          refine ⟨_, K, wX12_twice_117 ⟨fun _ => wX12_twice_109 ⟨fun _ => ⟨S.k 95 12 (by decide), fun q => ⟨S.k 95 12 (by decide), ?_, rfl⟩, fun q => ⟨?_, rfl⟩⟩, fun q => absurd rfl q⟩, fun e => absurd (Int32.le_refl _) e⟩, kK, tw_fin W X Y (fun i hi w => e i hi w)⟩
          · rw [H.2, show (24 : Int32) = nI 24 from rfl, nI_leI (by omega) (by decide)] at q
            rw [if_pos q, H.2]
          · rw [H.2, show (24 : Int32) = nI 24 from rfl, nI_leI (by omega) (by decide)] at q
            rw [if_neg q]
        · cases e
    | succ m ih =>
      intro i f K U D hi kK H X Y p
      have hi6 : i < 600 := by omega
      have hUi := X.1 i
      have ii : vp_in (nI i) (g.2.2 112) := by rw [S.l 112 600 (by decide)]; exact vp_in_nI hi6 (by decide)
      have cc : (nI i).toNatClampNeg = i := nI_clamp (by omega)
      by_cases h9 : U i = 9999
      · obtain ⟨x, J, z, q⟩ := ih (i + 1) f K U D (by omega) kK H X Y ⟨p.1, by
          rcases p.2 with ⟨e1, e2, -⟩ | e
          · refine Or.inl ⟨e1, fun i' hi' w' => ?_, fun w' hw' => by omega⟩
            by_cases e : i' = i
            · subst e; exact fun l a b v e3 hn => absurd h9 hn
            · exact e2 i' (by omega) w'
          · exact Or.inr e⟩
        refine ⟨x, J, wX12_twice_117 ⟨fun e => absurd e (nI_ge (b := 600) hi6 (by decide)), fun _ => ⟨S.k 95 12 (by decide), 112, Q.p 95 35 112 (by decide), S.k 112 13 (by decide), ii, fun e => ?_, fun _ => by rw [nI_1]; exact z⟩⟩, q⟩
        rw [cc, H.1 i hi6, h9] at e; exact absurd rfl e
      · obtain ⟨l, a, b, v, ei, -⟩ := X.2.2.1 i hi6 h9
        have kw : ∀ n w (f : Bool) (K : Nat → Nat → Int32) (U : Nat → Nat) (D : Nat), w + n = hN d → Kt I K → twH K U D → twX d U D → twY d U → twP d U D i w M f → U i ≠ 9999 → ∃ (x : Int32) (J : Nat → Nat → Int32), Zt none mX12_twice 0 0 142 [(0, .ref 95), (2, .int (zb f)), (3, .int (nI i)), (4, .int (nI w))] [] (g, K, P) (some (.int x)) (g, J, P) ∧ Kt I J ∧ twA d x := by
          intro n
          induction n with
          | zero =>
            intro w f K U D hw kK H X Y p h9
            have hw : w = hN d := hw
            subst hw
            have EK := kK.h E
            obtain ⟨x, J, z, q⟩ := ih (i + 1) f K U D (by omega) kK H X Y ⟨p.1, by
              rcases p.2 with ⟨e1, e2, e3⟩ | e
              · refine Or.inl ⟨e1, fun i' hi' w' => ?_, fun w' hw' => by omega⟩
                by_cases e : i' = i
                · subst e
                  by_cases hw' : w' < hN d
                  · exact e3 w' hw'
                  · exact fun l a b v e4 hn G => absurd G.1 hw'
                · exact e2 i' (by omega) w'
              · exact Or.inr e⟩
            exact ⟨x, J, wX12_twice_142 ⟨S.k 95 12 (by decide), fun _ => by rw [nI_1]; exact z, fun e => absurd (by rw [EK.2.2.2.1]; exact Int32.le_refl _) e⟩, q⟩
          | succ n ihn =>
            intro w f K U D hw kK H X Y p h9
            have hw' : w < hN d := by omega
            have EK := kK.h E
            have noend : ¬ K 95 15 ≤ nI w := by rw [EK.2.2.2.1]; exact nI_ge hw' (by omega)
            obtain ⟨c, J1, U1, D1, z, k1, H1, X1, Y1, hD1, h91, c0, c1⟩ := r_goesOn S Q W EK H X Y v (by rw [← ei]; exact h9) hw'
            rw [← ei] at z h91
            cases c with
            | true =>
              have := p.1
              have := c1 rfl
              obtain ⟨x, J, z', q⟩ := ihn (w + 1) true J1 U1 D1 (by omega) (kK.tr k1) H1 X1 Y1 ⟨by omega, Or.inr ⟨rfl, by omega⟩⟩ h91
              exact ⟨x, J, wX12_twice_142 ⟨S.k 95 12 (by decide), fun e => absurd e noend, fun _ => ⟨S.k 95 12 (by decide), _, _, z, fun _ => by rw [nI_1]; exact z', fun e => absurd e (by decide)⟩⟩, q⟩
            | false =>
              obtain ⟨eU, hF⟩ := c0 rfl
              subst eU
              obtain ⟨x, J, z', q⟩ := ihn (w + 1) f J1 U1 D1 (by omega) (kK.tr k1) H1 X1 Y1 ⟨p.1, by
                rcases p.2 with ⟨e1, e2, e3⟩ | e
                · refine Or.inl ⟨e1, fun i' hi' w' => twFi_d (e2 i' hi' w') hD1, fun w' hw' => ?_⟩
                  by_cases e : w' = w
                  · subst e
                    intro l' a' b' v' e4 hn
                    obtain ⟨rfl, rfl, rfl⟩ := jx_i W v v' (by rw [← ei, ← e4])
                    exact hF
                  · exact twFi_d (e3 w' (by omega)) hD1
                · exact Or.inr e⟩ h91
              refine ⟨x, J, wX12_twice_142 ⟨S.k 95 12 (by decide), fun e => absurd e noend, fun _ => ⟨S.k 95 12 (by decide), _, _, z, fun e => absurd rfl e, fun _ => ⟨fun e => ?_, fun e => ?_⟩⟩⟩, q⟩
              · rw [zb_eq] at e
                rw [e] at z'
                rw [nI_1]; exact z'
              · rw [← ne_eq, zb_ne] at e
                rw [e] at z'
                rw [nI_1]; exact z'
        obtain ⟨x, J, z, q⟩ := kw (hN d) 0 f K U D (by omega) kK H X Y p h9
        refine ⟨x, J, wX12_twice_117 ⟨fun e => absurd e (nI_ge (b := 600) hi6 (by decide)), fun _ => ⟨S.k 95 12 (by decide), 112, Q.p 95 35 112 (by decide), S.k 112 13 (by decide), ii, fun _ => z, fun e => ?_⟩⟩, q⟩
        rw [cc, H.1 i hi6, show (9999 : Int32) = nI 9999 from rfl, nI_eq (by omega) (by decide)] at e
        exact absurd e h9
  obtain ⟨x, J, z, q⟩ := key 600 0 false K U D (by omega) kK H X Y ⟨hM, Or.inl ⟨rfl, fun i' hi' => by omega, fun w' hw' => by omega⟩⟩
  exact ⟨x, J, wX12_twice_109 ⟨fun e => absurd e (by decide), fun _ => z⟩, q⟩
theorem r_passes (S : Sg g) (Q : Sp P) (W : HW d) (E : MhD I h0 d) : ∀ M (K : Nat → Nat → Int32) (U : Nat → Nat) (D : Nat), Kt I K → twH K U D → twX d U D → twY d U → nsum U 600 ≤ M → ∃ (x : Int32) (J : Nat → Nat → Int32), Zt none mX12_twice 0 0 109 [(0, .ref 95), (2, .int 1)] [] (g, K, P) (some (.int x)) (g, J, P) ∧ Kt I J ∧ twA d x := by
  intro M
  induction M with
  | zero =>
    intro K U D kK H X Y hM
    exact r_pass (M := 0) S Q W E (fun _ U' _ _ _ _ _ h => absurd h (Nat.not_lt_zero _)) kK H X Y hM
  | succ M ihM =>
    intro K U D kK H X Y hM
    exact r_pass (M := M + 1) S Q W E (fun K' U' D' k' H' X' Y' h => ihM K' U' D' k' H' X' Y' (by omega)) kK H X Y hM
theorem r_twice (S : Sg g) (Q : Sp P) (W : HW d) (HXd : HX d) (E : MhD I h0 d) : ∃ (x : Int32) (J : Nat → Nat → Int32), Zt none mX12_twice 0 0 19 [(0, .ref 95), (2, .int 0)] [] (g, zU I 95 36 9999, P) (some (.int x)) (g, J, P) ∧ Kt I J ∧ twA d x := by
  have hNn := W.2.1
  have ka : ∀ m a (K : Nat → Nat → Int32) (U : Nat → Nat), a + m = hN d → Kt I K → twH K U 9999 → twX d U 9999 → (∀ a' b, a' < a → b < hN d → wi1 d b a' = true → U (jx d (hZ d a' - hZ d b) a' b) ≤ hZ d a') → ∃ (x : Int32) (J : Nat → Nat → Int32), Zt none mX12_twice 0 0 43 [(0, .ref 95), (2, .int (nI a))] [] (g, K, P) (some (.int x)) (g, J, P) ∧ Kt I J ∧ twA d x := by
    intro m
    induction m with
    | zero =>
      intro a K U ha kK H X y0
      have ha : a = hN d := ha
      subst ha
      have EK := kK.h E
      obtain ⟨x, J, z, q⟩ := r_passes S Q W E (nsum U 600) K U 9999 kK H X (fun a b ha hb hw => y0 a b ha hb hw) (Nat.le_refl _)
      exact ⟨x, J, wX12_twice_43 ⟨S.k 95 12 (by decide), fun _ => z, fun e => absurd (by rw [EK.2.2.2.1]; exact Int32.le_refl _) e⟩, q⟩
    | succ m iha =>
      intro a K U ha kK H X y0
      have ha' : a < hN d := by omega
      have za := W.2.2.1 a ha'
      have kb : ∀ m b (K : Nat → Nat → Int32) (U : Nat → Nat), b + m = hN d → Kt I K → twH K U 9999 → twX d U 9999 → (∀ a' b', (a' < a ∨ (a' = a ∧ b' < b)) → b' < hN d → wi1 d b' a' = true → U (jx d (hZ d a' - hZ d b') a' b') ≤ hZ d a') → ∃ (x : Int32) (J : Nat → Nat → Int32), Zt none mX12_twice 0 0 53 [(0, .ref 95), (2, .int (nI a)), (3, .int (nI b))] [] (g, K, P) (some (.int x)) (g, J, P) ∧ Kt I J ∧ twA d x := by
        intro m
        induction m with
        | zero =>
          intro b K U hb kK H X y0
          have hb : b = hN d := hb
          subst hb
          have EK := kK.h E
          obtain ⟨x, J, z, q⟩ := iha (a + 1) K U (by omega) kK H X (fun a' b' h1 h2 h3 => y0 a' b' (by omega) h2 h3)
          exact ⟨x, J, wX12_twice_53 ⟨S.k 95 12 (by decide), fun _ => by rw [nI_1]; exact z, fun e => absurd (by rw [EK.2.2.2.1]; exact Int32.le_refl _) e⟩, q⟩
        | succ m ihb =>
          intro b K U hb kK H X y0
          have hb' : b < hN d := by omega
          have zbb := W.2.2.1 b hb'
          have EK := kK.h E
          have noend : ¬ K 95 15 ≤ nI b := by rw [EK.2.2.2.1]; exact nI_ge hb' (by omega)
          cases hw : wi1 d b a with
          | false =>
            obtain ⟨x, J, z, q⟩ := ihb (b + 1) K U (by omega) kK H X (fun a' b' h1 h2 h3 => by
              by_cases e : a' = a ∧ b' = b
              · obtain ⟨rfl, rfl⟩ := e; rw [hw] at h3; cases h3
              · exact y0 a' b' (by omega) h2 h3)
            refine ⟨x, J, wX12_twice_53 ⟨S.k 95 12 (by decide), fun q => absurd q noend, fun _ => ⟨S.k 95 12 (by decide), _, r_isBeginning S Q W HXd EK hb' ha', fun _ => by rw [nI_1]; exact z, fun e => ?_⟩⟩, q⟩
            rw [hw] at e; exact absurd rfl e
          | true =>
            have r := twR_0 ha' hb' hw
            have v := (twR_v W r).1
            have hz := wi1_1 hw
            have ej : 60 * nI a + 10 * nI (hZ d b) + nI b = nI (jx d (hZ d a - hZ d b) a b) := by
              rw [show (60 : Int32) = nI 60 from rfl, show (10 : Int32) = nI 10 from rfl, pk_mul, pk_mul, nI_add, nI_add, show 60 * a + 10 * hZ d b + b = jx d (hZ d a - hZ d b) a b by unfold jx; omega]
            have j0 := (jx_b W v).1
            obtain ⟨x, J, z, q⟩ := ihb (b + 1) _ _ (by omega) (kK.u _ _) (H.u (jx d (hZ d a - hZ d b) a b) (hZ d a)) (X.u v r (by omega)) (fun a' b' h1 h2 h3 => by
              by_cases e : a' = a ∧ b' = b
              · obtain ⟨rfl, rfl⟩ := e; rw [updv_s]; exact Nat.le_refl _
              · have v' := (twR_v W (twR_0 (d := d) (a := a') (b := b') (by omega) h2 h3)).1
                rw [updv_n _ (fun e2 => e (jx_i W v' v e2).2)]
                exact y0 a' b' (by omega) h2 h3)
            refine ⟨x, J, wX12_twice_53 ⟨S.k 95 12 (by decide), fun q => absurd q noend, fun _ => ⟨S.k 95 12 (by decide), _, r_isBeginning S Q W HXd EK hb' ha', fun e => ?_, fun _ => ⟨S.k 95 12 (by decide), 112, Q.p 95 35 112 (by decide), S.k 95 12 (by decide), _, r_longOf S Q W EK hb', S.k 95 12 (by decide), _, r_longOf S Q W EK ha', S.k 112 13 (by decide), ?_, ?_⟩⟩⟩, q⟩
            · rw [hw] at e; exact absurd e (by decide)
            · rw [ej, S.l 112 600 (by decide)]; exact vp_in_nI j0 (by decide)
            · rw [ej, nI_clamp (by omega), nI_1]; exact z
      have EK := kK.h E
      obtain ⟨x, J, z, q⟩ := kb (hN d) 0 K U (by omega) kK H X (fun a' b' h1 h2 h3 => y0 a' b' (by omega) h2 h3)
      exact ⟨x, J, wX12_twice_43 ⟨S.k 95 12 (by decide), fun q => absurd q (by rw [EK.2.2.2.1]; exact nI_ge ha' (by omega)), fun _ => z⟩, q⟩
  have kf : ∀ m i (K : Nat → Nat → Int32), i + m = 600 → Kt I K → K 95 36 = 9999 → (∀ j, j < i → K 112 j = 9999) → ∃ (x : Int32) (J : Nat → Nat → Int32), Zt none mX12_twice 0 0 19 [(0, .ref 95), (2, .int (nI i))] [] (g, K, P) (some (.int x)) (g, J, P) ∧ Kt I J ∧ twA d x := by
    intro m
    induction m with
    | zero =>
      intro i K hi kK h36 hj
      obtain rfl : i = 600 := hi
      obtain ⟨x, J, z, q⟩ := ka (hN d) 0 K (fun _ => 9999) (by omega) kK ⟨hj, h36⟩ ⟨fun _ => Nat.le_refl _, Nat.le_refl _, fun i _ h => absurd rfl h, fun h => absurd rfl h⟩ (fun a' b h1 => by omega)
      exact ⟨x, J, wX12_twice_19 ⟨fun _ => z, fun e => absurd (Int32.le_refl _) e⟩, q⟩
    | succ m ih =>
      intro i K hi kK h36 hj
      have hi6 : i < 600 := by omega
      obtain ⟨x, J, z, q⟩ := ih (i + 1) (zU K 112 i 9999) (by omega) (kK.u _ _) (by rw [zU_a _ _ (by decide)]; exact h36) (fun j hj2 => by
        by_cases e : j = i
        · subst e; rw [zU_s]
        · rw [zU_k _ _ e]; exact hj j (by omega))
      refine ⟨x, J, wX12_twice_19 ⟨fun e => absurd e (nI_ge (b := 600) hi6 (by decide)), fun _ => ⟨S.k 95 12 (by decide), 112, Q.p 95 35 112 (by decide), S.k 112 13 (by decide), by rw [S.l 112 600 (by decide)]; exact vp_in_nI hi6 (by decide), ?_⟩⟩, q⟩
      rw [nI_clamp (by omega), nI_1]
      exact z
  exact kf 600 0 _ (by omega) ((Kt.rf I).u5 _) (zU_s _ _ _ _) (fun j hj => by omega)
theorem b_twice (L : LI g I P t im) (x1 : Int32) : ∃ (w : Int32) (I1 : Nat → Nat → Int32) (J : Nat → Nat → Int32), Cl mX11_twice [.ref 0, .int x1] (g, I, P) (some (.int w)) (g, I1, P) ∧ Kp I I1 ∧ Cl mX12_twice [.ref 95, .int x1] (g, I1, P) (some (.int w)) (g, J, P) ∧ Km I1 J := by
  have L0 := L
  obtain ⟨S, Q, W, D, M, -⟩ := L
  have n2 := W.2.1.1
  cases hp : pk x1 (tNh t) with
  | none => exact ⟨-1, I, I, eX11_twice (wX11_twice_0 ⟨S.k 0 11 (by decide), 1, Q.p 0 0 1 (by decide), S.k 1 9 (by decide), _, c_hillN L0 hp, fun _ => ⟨rfl, rfl⟩, fun b hb => (nomatch hb)⟩), Kp.rf I, eX12_twice (wX12_twice_0 ⟨S.k 95 12 (by decide), _, _, r_isHill0 S Q W M hp, fun q => absurd rfl q, fun _ => ⟨rfl, rfl⟩⟩), Km.rf I⟩
  | some i =>
    have hi : i < tNh t := (pk_some (by omega) hp).1
    obtain ⟨hW, hX⟩ := W.2.1.2 i hi
    have T := HlS_i S Q (i := i) (by omega)
    obtain ⟨x, I1, zc, kc, ac⟩ := c_twice S Q T hW (D.2.2.1 i hi) (by omega)
    obtain ⟨J1, z, E, f, -⟩ := r_isHill S Q W (M.keep (kc 96 (by decide))) hp
    obtain ⟨y, J, zr, kr, ar⟩ := r_twice S Q hW hX E
    have e := twA_u ar ac
    subst e
    refine ⟨y, I1, J, eX11_twice (wX11_twice_0 ⟨S.k 0 11 (by decide), 1, Q.p 0 0 1 (by decide), S.k 1 9 (by decide), _, c_hillY L0 hp, fun q => (nomatch q), fun b hb => ?_⟩), kc.p, eX12_twice (wX12_twice_0 ⟨S.k 95 12 (by decide), _, _, z, fun _ => ⟨S.k 95 12 (by decide), zr⟩, fun q => absurd q (by decide)⟩), f.m.tr kr.m⟩
    cases hb
    exact ⟨S.k 0 11 (by decide), 83, Q.p 0 5 83 (by decide), S.k 83 10 (by decide), _, _, zc, rfl, rfl⟩
end RTW
