/-! ===== the reference: a whole text ===== -/
def DatR (so : Nat) (I : Nat → Nat → Int32) (y : PS) : Prop := (so = 0 → DR0 I y) ∧ (so = 1 → DR1 I y) ∧ (so = 2 → DR2 I y) ∧ (so = 3 → DR3 I y)
def BdR (so : Nat) (I : Nat → Nat → Int32) : Prop := (so = 0 → ∃ c, I 98 1 = nI c ∧ c ≤ 10) ∧ (so = 1 → ∃ c, I 98 0 = nI c ∧ c ≤ 40) ∧ (so = 2 → ∃ c, I 98 0 = nI c ∧ c ≤ 6) ∧ (so = 3 → ∃ c, I 98 0 = nI c ∧ c ≤ 8)
section RTEXT
variable {g : zG} {I : Nat → Nat → Int32} {P : Nat → Nat → Option Nat} {T : Tp} {F : FS} {y : PS} {p : Nat}
theorem r_line {so : Nat} {x : Int32} (S : Sg g) (Q : Sp P) (h : PSt T I (.inl (p, F))) (hk0 : sK T p ≠ 0) (hso : so < 4) (B : BdR so I) (Rd : F.1 = 0 → DatR so I y ∧ PW y) : ∃ J, (∀ r h', Zt none mX12_text 0 0 122 [(0, .ref 95), (1, .int (nI so)), (2, .int x)] [] (g, J, P) r h' → Zt none mX12_text 0 0 122 [(0, .ref 95), (1, .int (nI so)), (2, .int x)] [] (g, I, P) r h') ∧ KT I J ∧ PSt T J (mEnd T (kS T so p) p y F) ∧ BdR so J ∧ (lF T (kS T so p) p = none → (tF T (kS T so p) p y F).1 = 0 → DatR so J (tY T (kS T so p) p y)) := by
  obtain ⟨C, hp, h8, D, f5, f6, hF⟩ := PSt_l h
  have tk : I 95 5 = 0 ↔ sK T p = 0 := D.tk 0 (by decide) 0 rfl
  have nt0 : ¬ I 95 5 = 0 := fun e => hk0 (tk.mp e)
  rcases (show so = 0 ∨ so = 1 ∨ so = 2 ∨ so = 3 by omega) with rfl | rfl | rfl | rfl
  · obtain ⟨c, hc, hc10⟩ := B.1 rfl
    obtain ⟨J, z, k, L, b, d⟩ := r_hillLine (y := y) S Q h hk0 hc hc10 (fun e => ⟨(Rd e).1.1 rfl, (Rd e).2⟩)
    exact ⟨J, fun r h' Z => wX12_text_122 ⟨S.k 95 12 (by decide), fun e => absurd h8 e, fun _ => ⟨S.k 95 12 (by decide), fun e => absurd e nt0, fun _ => ⟨fun _ => ⟨S.k 95 12 (by decide), J, z, Z⟩, fun e => absurd e (by decide), fun e => absurd e (by decide), fun e => absurd rfl e⟩⟩⟩, k, L, ⟨fun _ => b, fun e => absurd e (by decide), fun e => absurd e (by decide), fun e => absurd e (by decide)⟩, fun e1 e2 => ⟨fun _ => d e1 e2, fun e => absurd e (by decide), fun e => absurd e (by decide), fun e => absurd e (by decide)⟩⟩
  · obtain ⟨c, hc, hc10⟩ := B.2.1 rfl
    obtain ⟨J, z, k, L, b, d⟩ := r_centuryLine (y := y) S Q h hk0 hc hc10 (fun e => ⟨(Rd e).1.2.1 rfl, (Rd e).2⟩)
    exact ⟨J, fun r h' Z => wX12_text_122 ⟨S.k 95 12 (by decide), fun e => absurd h8 e, fun _ => ⟨S.k 95 12 (by decide), fun e => absurd e nt0, fun _ => ⟨fun e => absurd e (by decide), fun _ => ⟨S.k 95 12 (by decide), J, z, Z⟩, fun e => absurd e (by decide), fun _ e => absurd rfl e⟩⟩⟩, k, L, ⟨fun e => absurd e (by decide), fun _ => b, fun e => absurd e (by decide), fun e => absurd e (by decide)⟩, fun e1 e2 => ⟨fun e => absurd e (by decide), fun _ => d e1 e2, fun e => absurd e (by decide), fun e => absurd e (by decide)⟩⟩
  · obtain ⟨c, hc, hc10⟩ := B.2.2.1 rfl
    obtain ⟨J, z, k, L, b, d⟩ := r_linesLine (y := y) S Q h hk0 hc hc10 (fun e => ⟨(Rd e).1.2.2.1 rfl, (Rd e).2⟩)
    exact ⟨J, fun r h' Z => wX12_text_122 ⟨S.k 95 12 (by decide), fun e => absurd h8 e, fun _ => ⟨S.k 95 12 (by decide), fun e => absurd e nt0, fun _ => ⟨fun e => absurd e (by decide), fun e => absurd e (by decide), fun _ => ⟨S.k 95 12 (by decide), J, z, Z⟩, fun _ _ e => absurd rfl e⟩⟩⟩, k, L, ⟨fun e => absurd e (by decide), fun e => absurd e (by decide), fun _ => b, fun e => absurd e (by decide)⟩, fun e1 e2 => ⟨fun e => absurd e (by decide), fun e => absurd e (by decide), fun _ => d e1 e2, fun e => absurd e (by decide)⟩⟩
  · obtain ⟨c, hc, hc10⟩ := B.2.2.2 rfl
    obtain ⟨J, z, k, L, b, d⟩ := r_logLine (y := y) S Q h hk0 hc hc10 (fun e => ⟨(Rd e).1.2.2.2 rfl, (Rd e).2⟩)
    exact ⟨J, fun r h' Z => wX12_text_122 ⟨S.k 95 12 (by decide), fun e => absurd h8 e, fun _ => ⟨S.k 95 12 (by decide), fun e => absurd e nt0, fun _ => ⟨fun e => absurd e (by decide), fun e => absurd e (by decide), fun e => absurd e (by decide), fun _ _ _ => ⟨S.k 95 12 (by decide), J, z, Z⟩⟩⟩⟩, k, L, ⟨fun e => absurd e (by decide), fun e => absurd e (by decide), fun e => absurd e (by decide), fun _ => b⟩, fun e1 e2 => ⟨fun e => absurd e (by decide), fun e => absurd e (by decide), fun e => absurd e (by decide), fun _ => d e1 e2⟩⟩
/-- behind the last line -/
def FinR (T : Tp) (so : Nat) (J : Nat → Nat → Int32) (r : PS × FS) : Prop := J 96 5 = r.2.1 ∧ J 96 6 = r.2.2 ∧ (r.2.1 = 0 → (DatR so J r.1 ∧ PW r.1) ∧ J 95 8 = 0 ∧ J 95 4 = nI T.1)
theorem r_readLoop {so : Nat} {x : Int32} (S : Sg g) (Q : Sp P) (hso : so < 4) : ∀ m p (K : Nat → Nat → Int32) (y : PS) (F : FS), T.1 ≤ p + m → KT I K → PSt T K (.inl (p, F)) → BdR so K → (F.1 = 0 → DatR so K y ∧ PW y) → ∃ J, (∀ r h', Zt none mX12_text 0 0 192 [(0, .ref 95), (1, .int (nI so)), (2, .int x)] [] (g, J, P) r h' → Zt none mX12_text 0 0 122 [(0, .ref 95), (1, .int (nI so)), (2, .int x)] [] (g, K, P) r h') ∧ KT I J ∧ FinR T so J (prs T so m p y F) := by
  have stop : ∀ p (K : Nat → Nat → Int32) (y : PS) (F : FS), KT I K → PSt T K (.inl (p, F)) → (F.1 = 0 → DatR so K y ∧ PW y) → sK T p = 0 → ∃ J, (∀ r h', Zt none mX12_text 0 0 192 [(0, .ref 95), (1, .int (nI so)), (2, .int x)] [] (g, J, P) r h' → Zt none mX12_text 0 0 122 [(0, .ref 95), (1, .int (nI so)), (2, .int x)] [] (g, K, P) r h') ∧ KT I J ∧ FinR T so J (y, F) := by
    intro p K y F k h Rd h0
    obtain ⟨C, hp, h8, D, f5, f6, hF⟩ := PSt_l h
    have tk : K 95 5 = 0 ↔ sK T p = 0 := D.tk 0 (by decide) 0 rfl
    exact ⟨K, fun r h' Z => wX12_text_122 ⟨S.k 95 12 (by decide), fun _ => Z, fun _ => ⟨S.k 95 12 (by decide), fun _ => Z, fun e => absurd (tk.mpr h0) e⟩⟩, k, f5, f6, fun e => ⟨Rd e, h8, by rw [D.2.1, (sK_0 hp).mp h0]⟩⟩
  intro m
  induction m with
  | zero =>
    intro p K y F hm k h B Rd
    have hp := (PSt_l h).2.1
    have h0 : sK T p = 0 := (sK_0 hp).mpr (by have := sS_b hp; omega)
    exact stop p K y F k h Rd h0
  | succ m ih =>
    intro p K y F hm k h B Rd
    have hp := (PSt_l h).2.1
    by_cases h0 : sK T p = 0
    · rw [prs_0 h0]
      exact stop p K y F k h Rd h0
    · obtain ⟨K1, z, k1, L, B1, d1⟩ := r_line (x := x) S Q h h0 hso B Rd
      cases hl : lF T (kS T so p) p with
      | some q =>
        rw [prs_f h0 hl]
        unfold mEnd at L
        rw [chn_s hl] at L
        refine ⟨K1, fun r h' Z => z r h' (wX12_text_122 ⟨S.k 95 12 (by decide), fun _ => Z, fun e => absurd e (by rw [L.2.1]; decide)⟩), k.tr k1, L.2.2.1, L.2.2.2, fun e => absurd e (by decide : ¬ (1 : Int32) = 0)⟩
      | none =>
        rw [prs_s h0 hl]
        unfold mEnd at L
        rw [chn_n hl] at L
        have hx := lX_g (k := kS T so p) hp h0
        obtain ⟨J, zJ, kJ, fJ⟩ := ih (lX T (kS T so p) p) K1 (tY T (kS T so p) p y) (tF T (kS T so p) p y F) (by omega) (k.tr k1) L B1 (fun e => by
          refine ⟨d1 hl e, ?_⟩
          by_cases hF : F.1 = 0
          · exact tY_pw hp (Rd hF).2 kS_11 hl e
          · exfalso
            have : tF T (kS T so p) p y F = F := by
              unfold tF
              simp only [nt_n hF]
              repeat' split
              all_goals rfl
            rw [this] at e
            exact hF e)
        exact ⟨J, fun r h' Z => z r h' (zJ r h' Z), kJ, fJ⟩
/-- two words of what is read are the same in all eight places but one -/
theorem same_iff {d : HD} {w v : Nat} (W : HW d) (hw : w < hN d) (hv : v < hN d) : (hZ d v = hZ d w ∧ hLcp d v w = hZ d w) ↔ (hZ d v = hZ d w ∧ ∀ i, i < hZ d w → hL d v i = hL d w i) := by
  constructor
  · rintro ⟨e1, e2⟩
    have := (sm_iff (d := d) (n := hZ d w) (v := v) (w := w)).mp (by omega)
    exact ⟨e1, this.2.2⟩
  · rintro ⟨e1, e2⟩
    have h1 := (sm_iff (d := d) (n := hZ d w) (v := v) (w := w)).mpr ⟨by omega, Nat.le_refl _, e2⟩
    have h2 := (lcp_le (hL d v) (hL d w) (min (hZ d v) (hZ d w)) 0).2
    have h3 : hLcp d v w ≤ 0 + min (hZ d v) (hZ d w) := h2
    exact ⟨e1, by omega⟩
theorem r_isTwice (S : Sg g) (Q : Sp P) (D : DR0 I y) (Y : PW y) : Cl mX12_isTwice [.ref 95] (g, I, P) (some (.int (zb (twoAl (yH y))))) (g, I, P) := by
  obtain ⟨⟨d0, d1, d98⟩, dz, dO, dB, dL, dA, dU, dV, d9⟩ := D
  have W := Y.1
  have hNn := W.2.1
  have i1 : vp_in 1 (g.2.2 98) := by rw [S.l 98 121 (by decide)]; exact vp_in_nI (n := 1) (by decide) (by decide)
  -- the places of two words
  have eq : ∀ w v, w < hN (yH y) → v < hN (yH y) → ((∀ k, k < 8 → k ≠ 1 → I 98 (2 + 8 * w + k) = I 98 (2 + 8 * v + k)) ↔ (hZ (yH y) v = hZ (yH y) w ∧ hLcp (yH y) v w = hZ (yH y) w)) := by
    intro w v hw hv
    have zw := W.2.2.1 w hw
    have zv := W.2.2.1 v hv
    rw [same_iff W hw hv]
    constructor
    · intro h
      have e0 := h 0 (by decide) (by decide)
      rw [Nat.add_zero, Nat.add_zero, dz w hw, dz v hv, nI_eq (by omega) (by omega)] at e0
      refine ⟨e0.symm, fun i hi => ?_⟩
      have e := h (2 + i) (by omega) (by omega)
      have l1 := W.2.2.2.2 w i hw hi
      have l2 := W.2.2.2.2 v i hv (by omega)
      rw [show 2 + 8 * w + (2 + i) = 4 + 8 * w + i by omega, show 2 + 8 * v + (2 + i) = 4 + 8 * v + i by omega, dL w i hw hi, dL v i hv (by omega), nI_eq (by omega) (by omega)] at e
      exact e.symm
    · rintro ⟨e1, e2⟩ k hk hk1
      by_cases k0 : k = 0
      · subst k0
        rw [Nat.add_zero, Nat.add_zero, dz w hw, dz v hv, e1]
      · obtain ⟨i, rfl⟩ : ∃ i, k = 2 + i := ⟨k - 2, by omega⟩
        rw [show 2 + 8 * w + (2 + i) = 4 + 8 * w + i by omega, show 2 + 8 * v + (2 + i) = 4 + 8 * v + i by omega]
        by_cases hi : i < hZ (yH y) w
        · rw [dL w i hw hi, dL v i hv (by omega), e2 i hi]
        · rw [dU w hw i (by omega) (by omega), dU v hv i (by omega) (by omega)]
  have key : ∀ m w (t : Bool), w + m = hN (yH y) → t = anyB (fun w => anyB (fun v => decide (hZ (yH y) v = hZ (yH y) w ∧ hLcp (yH y) v w = hZ (yH y) w)) w) w → Zt none mX12_isTwice 0 0 4 [(0, .ref 95), (1, .int (zb t)), (2, .int (nI w))] [] (g, I, P) (some (.int (zb (twoAl (yH y))))) (g, I, P) := by
    intro m
    induction m with
    | zero =>
      intro w t hw ht
      have hw : w = hN (yH y) := hw
      refine wX12_isTwice_4 ⟨S.k 95 12 (by decide), 98, Q.p 95 10 98 (by decide), S.k 98 13 (by decide), i1, fun _ => ⟨zb_or t, by rw [ht, hw]; rfl, rfl⟩, fun e => absurd (by rw [c1, d1, hw]; exact Int32.le_refl _) e⟩
    | succ m ih =>
      intro w t hw ht
      have hw' : w < hN (yH y) := by omega
      have inn : ∀ n v (t' : Bool), v + n = w → t' = (t || anyB (fun v => decide (hZ (yH y) v = hZ (yH y) w ∧ hLcp (yH y) v w = hZ (yH y) w)) v) → Zt none mX12_isTwice 0 0 16 [(0, .ref 95), (1, .int (zb t')), (2, .int (nI w)), (3, .int (nI v))] [] (g, I, P) (some (.int (zb (twoAl (yH y))))) (g, I, P) := by
        intro n
        induction n with
        | zero =>
          intro v t' hv ht'
          have hv : v = w := hv
          subst hv
          refine wX12_isTwice_16 ⟨fun _ => ?_, fun e => absurd (Int32.le_refl _) e⟩
          rw [nI_1]
          exact ih (v + 1) t' (by omega) (by rw [ht', ht]; rfl)
        | succ n ihn =>
          intro v t' hv ht'
          have hv' : v < hN (yH y) := by omega
          -- the eight places
          have eight : ∀ n k (s : Bool), k + n = 8 → (s = true ↔ ∀ k', k' < k → k' ≠ 1 → I 98 (2 + 8 * w + k') = I 98 (2 + 8 * v + k')) → Zt none mX12_isTwice 0 0 27 [(0, .ref 95), (1, .int (zb t')), (2, .int (nI w)), (3, .int (nI v)), (4, .int (zb s)), (5, .int (nI k))] [] (g, I, P) (some (.int (zb (twoAl (yH y))))) (g, I, P) := by
            intro n
            induction n with
            | zero =>
              intro k s hk hs
              have hk : k = 8 := hk
              subst hk
              rw [eq w v hw' hv'] at hs
              have hs' : s = decide (hZ (yH y) v = hZ (yH y) w ∧ hLcp (yH y) v w = hZ (yH y) w) := by
                cases s with
                | true => exact (decide_eq_true (hs.mp rfl)).symm
                | false => exact (decide_eq_false (fun e => by cases hs.mpr e)).symm
              have nx : ∀ u : Bool, u = (t' || s) → Zt none mX12_isTwice 0 0 16 [(0, .ref 95), (1, .int (zb u)), (2, .int (nI w)), (3, .int (nI v + 1))] [] (g, I, P) (some (.int (zb (twoAl (yH y))))) (g, I, P) := by
                intro u hu
                rw [nI_1]
                refine ihn (v + 1) u (by omega) ?_
                show u = (t || (anyB (fun v => decide (hZ (yH y) v = hZ (yH y) w ∧ hLcp (yH y) v w = hZ (yH y) w)) v || decide (hZ (yH y) v = hZ (yH y) w ∧ hLcp (yH y) v w = hZ (yH y) w)))
                rw [hu, ht', hs', Bool.or_assoc]
              refine wX12_isTwice_27 ⟨fun _ => ⟨fun e => ?_, fun e => ⟨fun e2 => ?_, fun e2 => ?_⟩⟩, fun e => absurd (Int32.le_refl _) e⟩
              · rw [← ne_eq, zb_ne] at e
                exact nx true (by rw [e]; rfl)
              · rw [zb_eq] at e e2
                exact nx false (by rw [e, e2]; rfl)
              · rw [zb_eq] at e
                rw [← ne_eq, zb_ne] at e2
                exact nx true (by rw [e, e2]; rfl)
            | succ n ihk =>
              intro k s hk hs
              have no8 : ¬ (8 : Int32) ≤ nI k := nI_ge (b := 8) (by omega) (by decide)
              have ea : (2 : Int32) + 8 * nI w + nI k = nI (2 + 8 * w + k) := by rw [n2, n8, pk_mul, nI_add, nI_add]
              have eb : (2 : Int32) + 8 * nI v + nI k = nI (2 + 8 * v + k) := by rw [n2, n8, pk_mul, nI_add, nI_add]
              have step : ∀ u : Bool, (u = true ↔ ∀ k', k' < k + 1 → k' ≠ 1 → I 98 (2 + 8 * w + k') = I 98 (2 + 8 * v + k')) → Zt none mX12_isTwice 0 0 27 [(0, .ref 95), (1, .int (zb t')), (2, .int (nI w)), (3, .int (nI v)), (4, .int (zb u)), (5, .int (nI k + 1))] [] (g, I, P) (some (.int (zb (twoAl (yH y))))) (g, I, P) := fun u hu => by
                rw [nI_1]; exact ihk (k + 1) u (by omega) hu
              cases s with
              | false =>
                refine wX12_isTwice_27 ⟨fun e => absurd e no8, fun _ => ⟨fun _ => step false ⟨fun e => (nomatch e), fun e => ?_⟩, fun e => absurd rfl e⟩⟩
                exact absurd (hs.mpr (fun k' h1 h2 => e k' (by omega) h2)) (by decide)
              | true =>
                have hs := hs.mp rfl
                refine wX12_isTwice_27 ⟨fun e => absurd e no8, fun _ => ⟨fun e => absurd e (by decide), fun _ => ⟨fun e => step true ⟨fun _ k' h1 h2 => ?_, fun _ => rfl⟩, fun e => ⟨S.k 95 12 (by decide), 98, Q.p 95 10 98 (by decide), S.k 98 13 (by decide), by rw [ea]; exact v98 S (by omega), S.k 95 12 (by decide), 98, Q.p 95 10 98 (by decide), S.k 98 13 (by decide), by rw [eb]; exact v98 S (by omega), fun e2 => step false ⟨fun e => (nomatch e), fun e3 => ?_⟩, fun e2 => step true ⟨fun _ k' h1 h2 => ?_, fun _ => rfl⟩⟩⟩⟩⟩
                · rw [n1, nI_eq (by omega) (by decide)] at e
                  exact hs k' (by omega) h2
                · rw [n1, nI_eq (by omega) (by decide)] at e
                  rw [ea, eb, nI_clamp (by omega), nI_clamp (by omega)] at e2
                  exact absurd (e3 k (by omega) e) e2
                · rw [ea, eb, nI_clamp (by omega), nI_clamp (by omega)] at e2
                  by_cases e4 : k' = k
                  · subst e4; exact e2
                  · exact hs k' (by omega) h2
          exact wX12_isTwice_16 ⟨fun e => absurd e (nI_ge (by omega) (by omega)), fun _ => eight 8 0 true (by omega) ⟨fun _ k' h1 => by omega, fun _ => rfl⟩⟩
      exact wX12_isTwice_4 ⟨S.k 95 12 (by decide), 98, Q.p 95 10 98 (by decide), S.k 98 13 (by decide), i1, fun e => absurd e (by rw [c1, d1]; exact nI_ge hw' (by omega)), fun _ => inn w 0 t (by omega) (by rw [show anyB (fun v => decide (hZ (yH y) v = hZ (yH y) w ∧ hLcp (yH y) v w = hZ (yH y) w)) 0 = false from rfl, Bool.or_false])⟩
  exact eX12_isTwice (wX12_isTwice_0 (key (hN (yH y)) 0 false (by omega) rfl))
/-- the last looks at a text -/
theorem r_looks {so : Nat} {x : Int32} {r0 : PS × FS} (S : Sg g) (Q : Sp P) (hso : so < 4) (h600 : T.1 ≤ 600) (R : FinR T so I r0) : ∃ J, (∀ r h', Zt none mX12_text 0 0 256 [(0, .ref 95), (1, .int (nI so)), (2, .int x)] [] (g, J, P) r h' → Zt none mX12_text 0 0 192 [(0, .ref 95), (1, .int (nI so)), (2, .int x)] [] (g, I, P) r h') ∧ KT I J ∧ J 98 = I 98 ∧ J 95 = I 95 ∧ J 96 5 = (pfin T so r0).1 ∧ J 96 6 = (pfin T so r0).2 := by
  obtain ⟨y, F⟩ := r0
  obtain ⟨f5, f6, R⟩ := R
  have f5 : I 96 5 = F.1 := f5
  have f6 : I 96 6 = F.2 := f6
  have v5 : vp_in 5 (g.2.2 96) := by rw [S.l 96 4968 (by decide)]; exact vp_in_nI (n := 5) (by decide) (by decide)
  have i1 : vp_in 1 (g.2.2 98) := by rw [S.l 98 121 (by decide)]; exact vp_in_nI (n := 1) (by decide) (by decide)
  have skip : pfin T so (y, F) = F → (F.1 ≠ 0 ∨ so ≠ 0) → ∃ J, (∀ r h', Zt none mX12_text 0 0 256 [(0, .ref 95), (1, .int (nI so)), (2, .int x)] [] (g, J, P) r h' → Zt none mX12_text 0 0 192 [(0, .ref 95), (1, .int (nI so)), (2, .int x)] [] (g, I, P) r h') ∧ KT I J ∧ J 98 = I 98 ∧ J 95 = I 95 ∧ J 96 5 = (pfin T so (y, F)).1 ∧ J 96 6 = (pfin T so (y, F)).2 := by
    intro ep hc
    rw [ep]
    refine ⟨I, fun r h' Z => ?_, KT.rf I, rfl, rfl, f5, f6⟩
    have ns : so ≠ 0 → ¬ nI so = 0 := fun hs e => hs ((nI_eq (b := 0) (by omega) (by decide)).mp e)
    have z227 : Zt none mX12_text 0 0 227 [(0, .ref 95), (1, .int (nI so)), (2, .int x)] [] (g, I, P) r h' := by
      refine wX12_text_227 ⟨S.k 95 12 (by decide), 96, Q.p 95 0 96 (by decide), S.k 96 13 (by decide), v5, fun _ => Z, fun e => ⟨fun _ => Z, fun e2 => ?_⟩⟩
      rcases hc with hc | hc
      · rw [c5, f5] at e; exact absurd e hc
      · exact absurd e2 (ns hc)
    refine wX12_text_192 ⟨S.k 95 12 (by decide), 96, Q.p 95 0 96 (by decide), S.k 96 13 (by decide), v5, fun _ => z227, fun e => ⟨fun _ => z227, fun e2 => ?_⟩⟩
    rcases hc with hc | hc
    · rw [c5, f5] at e; exact absurd e hc
    · exact absurd e2 (ns hc)
  by_cases h0 : F.1 = 0
  · by_cases hs : so = 0
    · subst hs
      obtain ⟨⟨Dd, Y⟩, h8, h4⟩ := R h0
      have D : DR0 I y := Dd.1 rfl
      have Y : PW y := Y
      have hNn := Y.1.2.1
      have hf := Y.2.1
      have tw := r_isTwice (g := g) S Q D Y
      have lt : I 95 9 < I 98 (1 : Int32).toNatClampNeg ↔ yF y ≤ hN (yH y) := by
        rw [c1, D.2.2.2.2.2.2.2.2, D.1.2.1, Int32.lt_iff_toInt_lt, n1, pk_sub_toInt (by omega) (by decide), nI_toInt (by omega)]
        omega
      have ep : pfin T 0 (y, F) = if hN (yH y) < yF y then (4, nI T.1) else if twoAl (yH y) = true then (5, nI T.1) else F := by
        unfold pfin
        rw [if_pos ⟨h0, rfl⟩]
      have noF : Fw F T.1 := fun e => absurd h0 e
      by_cases hfar : hN (yH y) < yF y
      · rw [ep, if_pos hfar]
        obtain ⟨J, z, a1, a2, a3, a4⟩ := r_also (g := g) (P := P) (k := 4) (q := T.1) S Q h8 f5 f6 noF (by omega)
        rw [nt_f h0] at a3 a4
        refine ⟨J, fun r h' Z => wX12_text_192 ⟨S.k 95 12 (by decide), 96, Q.p 95 0 96 (by decide), S.k 96 13 (by decide), v5, fun e => absurd (by rw [c5, f5]; exact h0) e, fun _ => ⟨fun e => absurd rfl e, fun _ => ⟨S.k 95 12 (by decide), S.k 95 12 (by decide), 98, Q.p 95 10 98 (by decide), S.k 98 13 (by decide), i1, fun e => absurd (lt.mp e) (by omega), fun _ => ⟨S.k 95 12 (by decide), S.k 95 12 (by decide), J, by rw [h4]; exact z, wX12_text_227 ⟨S.k 95 12 (by decide), 96, Q.p 95 0 96 (by decide), S.k 96 13 (by decide), v5, fun _ => Z, fun e => ?_⟩⟩⟩⟩⟩, ⟨fun c _ c2 _ _ => a1 c c2, a2, by rw [a1 95 (by decide)]⟩, a1 98 (by decide), a1 95 (by decide), a3, a4⟩
        rw [c5, a3] at e
        exact absurd e (by decide : ¬ nI 4 = 0)
      · rw [ep, if_neg hfar]
        have ltt : I 95 9 < I 98 (1 : Int32).toNatClampNeg := lt.mpr (by omega)
        by_cases h2 : twoAl (yH y) = true
        · rw [if_pos h2]
          obtain ⟨J, z, a1, a2, a3, a4⟩ := r_also (g := g) (P := P) (k := 5) (q := T.1) S Q h8 f5 f6 noF (by omega)
          rw [nt_f h0] at a3 a4
          refine ⟨J, fun r h' Z => wX12_text_192 ⟨S.k 95 12 (by decide), 96, Q.p 95 0 96 (by decide), S.k 96 13 (by decide), v5, fun e => absurd (by rw [c5, f5]; exact h0) e, fun _ => ⟨fun e => absurd rfl e, fun _ => ⟨S.k 95 12 (by decide), S.k 95 12 (by decide), 98, Q.p 95 10 98 (by decide), S.k 98 13 (by decide), i1, fun _ => wX12_text_227 ⟨S.k 95 12 (by decide), 96, Q.p 95 0 96 (by decide), S.k 96 13 (by decide), v5, fun e => absurd (by rw [c5, f5]; exact h0) e, fun _ => ⟨fun e => absurd rfl e, fun _ => ⟨S.k 95 12 (by decide), _, tw, fun e => ?_, fun _ => ⟨S.k 95 12 (by decide), S.k 95 12 (by decide), J, by rw [h4]; exact z, Z⟩⟩⟩⟩, fun e => absurd ltt e⟩⟩⟩, ⟨fun c _ c2 _ _ => a1 c c2, a2, by rw [a1 95 (by decide)]⟩, a1 98 (by decide), a1 95 (by decide), a3, a4⟩
          rw [zb_eq, h2] at e; cases e
        · rw [if_neg h2]
          refine ⟨I, fun r h' Z => wX12_text_192 ⟨S.k 95 12 (by decide), 96, Q.p 95 0 96 (by decide), S.k 96 13 (by decide), v5, fun e => absurd (by rw [c5, f5]; exact h0) e, fun _ => ⟨fun e => absurd rfl e, fun _ => ⟨S.k 95 12 (by decide), S.k 95 12 (by decide), 98, Q.p 95 10 98 (by decide), S.k 98 13 (by decide), i1, fun _ => wX12_text_227 ⟨S.k 95 12 (by decide), 96, Q.p 95 0 96 (by decide), S.k 96 13 (by decide), v5, fun e => absurd (by rw [c5, f5]; exact h0) e, fun _ => ⟨fun e => absurd rfl e, fun _ => ⟨S.k 95 12 (by decide), _, tw, fun _ => Z, fun e => ?_⟩⟩⟩, fun e => absurd ltt e⟩⟩⟩, KT.rf I, rfl, rfl, f5, f6⟩
          rw [← ne_eq, zb_ne] at e; exact absurd e h2
    · exact skip (by unfold pfin; rw [if_neg (fun e => hs e.2)]) (Or.inr hs)
  · exact skip (by unfold pfin; rw [if_neg (fun e => h0 e.1)]) (Or.inl h0)
end RTEXT
