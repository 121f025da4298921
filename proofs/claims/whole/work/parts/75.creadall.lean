/-! ===== the class's Reader: read ===== -/
section CRALL
variable {g : zG} {I : Nat → Nat → Int32} {P : Nat → Nat → Option Nat} {T : Tp} {F : FS} {y : PS} {p : Nat} {a : Nat} {d : HD}
theorem c_twoAlike (A : HlS g P a) (W : HW d) (D : HlD I a d) : Cl mX3_hasTwoAlike [.ref a] (g, I, P) (some (.int (zb (twoAl d)))) (g, I, P) := by
  have hNn := W.2.1
  have key : ∀ m w, w + m = hN d → (∀ w', w' < w → anyB (fun v => decide (hZ d v = hZ d w' ∧ hLcp d v w' = hZ d w')) w' = false) → Zt none mX3_hasTwoAlike 0 0 2 [(0, .ref a), (1, .int (nI w))] [] (g, I, P) (some (.int (zb (twoAl d)))) (g, I, P) := by
    intro m
    induction m with
    | zero =>
      intro w hw hA
      have hw : w = hN d := hw
      subst hw
      have e : twoAl d = false := by unfold twoAl; exact anyB_f hA
      rw [e]
      exact wX3_hasTwoAlike_2 ⟨A.1, fun _ => ⟨rfl, rfl⟩, fun e => absurd (by rw [D.2.1]; exact Int32.le_refl _) e⟩
    | succ m ih =>
      intro w hw hA
      have hw' : w < hN d := by omega
      have zw := W.2.2.1 w hw'
      have inn : ∀ n v, v + n = w → (∀ v', v' < v → ¬ (hZ d v' = hZ d w ∧ hLcp d v' w = hZ d w)) → Zt none mX3_hasTwoAlike 0 0 12 [(0, .ref a), (1, .int (nI w)), (2, .int (nI v))] [] (g, I, P) (some (.int (zb (twoAl d)))) (g, I, P) := by
        intro n
        induction n with
        | zero =>
          intro v hv hB'
          have hv : v = w := hv
          subst hv
          refine wX3_hasTwoAlike_12 ⟨fun _ => ?_, fun e => absurd (Int32.le_refl _) e⟩
          rw [nI_1]
          exact ih (v + 1) (by omega) (fun w' hw2 => by
            by_cases e : w' = v
            · subst e; exact anyB_f (fun v' hv' => decide_eq_false (hB' v' hv'))
            · exact hA w' (by omega))
        | succ n ihn =>
          intro v hv hB'
          have hv' : v < hN d := by omega
          have zv := W.2.2.1 v hv'
          have hl : hLcp d v w ≤ 6 := by
            have := (lcp_le (hL d v) (hL d w) (min (hZ d v) (hZ d w)) 0).2
            unfold hLcp; omega
          have next : ¬ (hZ d v = hZ d w ∧ hLcp d v w = hZ d w) → Zt none mX3_hasTwoAlike 0 0 12 [(0, .ref a), (1, .int (nI w)), (2, .int (nI v + 1))] [] (g, I, P) (some (.int (zb (twoAl d)))) (g, I, P) := by
            intro e
            rw [nI_1]
            exact ihn (v + 1) (by omega) (fun v' hv2 => by
              by_cases e2 : v' = v
              · subst e2; exact e
              · exact hB' v' (by omega))
          refine wX3_hasTwoAlike_12 ⟨fun e => absurd e (nI_ge (by omega) (by omega)), fun _ => ⟨A.1, _, c_sizeOf A W D hv', A.1, _, c_sizeOf A W D hw', fun e => ?_, fun e => ⟨A.1, _, c_lcp A W D hv' hw', A.1, _, c_sizeOf A W D hw', fun e2 => ?_, fun e2 => ⟨?_, rfl⟩⟩⟩⟩
          · rw [nI_eq (by omega) (by omega)] at e
            exact next (fun h => e h.1)
          · rw [nI_eq (by omega) (by omega)] at e2
            exact next (fun h => e2 h.2)
          · rw [nI_eq (by omega) (by omega)] at e e2
            have e3 : twoAl d = true := by
              unfold twoAl
              exact anyB_t _ w hw' (anyB_t (p := fun v => decide (hZ d v = hZ d w ∧ hLcp d v w = hZ d w)) w v (by omega) (decide_eq_true ⟨e, e2⟩))
            rw [e3]; rfl
      exact wX3_hasTwoAlike_2 ⟨A.1, fun e => absurd e (by rw [D.2.1]; exact nI_ge hw' (by omega)), fun _ => inn w 0 (by omega) (fun v' hv' => by omega)⟩
  exact eX3_hasTwoAlike (wX3_hasTwoAlike_0 (key (hN d) 0 (by omega) (fun w' hw' => by omega)))
/-- the fault of a text, once it is read -/
def RdF (I : Nat → Nat → Int32) (y : PS) (F : FS) : Prop := FtC I F ∧ (F.1 = 0 → DatC I y ∧ PW y)
theorem c_lookAtHill (S : Sg g) (Q : Sp P) (R : RdC I y F) (h0 : F.1 = 0) : ∃ J, Cl mX6_lookAtHill [.ref 41, .int (nI T.1)] (g, I, P) none (g, J, P) ∧ Kn I J ∧ RdC J y (pfin T 0 (y, F)) := by
  obtain ⟨Ft, Rd⟩ := R
  obtain ⟨Da, Y⟩ := Rd h0
  obtain ⟨H, HB, HF, -⟩ := Da
  have hN10 := Y.1.2.1
  have hf := Y.2.1
  have A := HlS_42 S Q
  have tw := c_twoAlike A Y.1 H
  have le : I 42 3 ≤ I 42 1 ↔ yF y ≤ hN (yH y) := by rw [HF, H.2.1]; exact nI_leI (by omega) (by omega)
  have ep : pfin T 0 (y, F) = if hN (yH y) < yF y then (4, nI T.1) else if twoAl (yH y) = true then (5, nI T.1) else F := by
    unfold pfin
    rw [if_pos ⟨h0, rfl⟩]
  by_cases h1 : hN (yH y) < yF y
  · rw [ep, if_pos h1]
    obtain ⟨I20, z20, k20, f20⟩ := c_note (g := g) (P := P) (k := 4) (q := T.1) S Ft
    rw [nt_f h0] at f20
    obtain ⟨I31, z31, k31, f31⟩ := c_note (g := g) (P := P) (k := 5) (q := T.1) S f20
    rw [nt_n (show ((nI 4, nI T.1) : FS).1 ≠ 0 from (by decide : nI 4 ≠ 0))] at f31
    have tw2 := c_twoAlike A Y.1 (H.keep (J := I20) (fun j hj => k20.1 _ (by omega)))
    have ne : ((4, nI T.1) : FS).1 ≠ 0 := (by decide : (4 : Int32) ≠ 0)
    by_cases h2 : twoAl (yH y) = true
    · refine ⟨I31, eX6_lookAtHill (wX6_lookAtHill_0 ⟨S.k 41 6 (by decide), 42, Q.p 41 0 42 (by decide), S.k 42 3 (by decide), S.k 41 6 (by decide), 42, Q.p 41 0 42 (by decide), S.k 42 3 (by decide), fun e => absurd (le.mp e) (by omega), fun _ => ⟨S.k 41 6 (by decide), _, z20, S.k 41 6 (by decide), 42, Q.p 41 0 42 (by decide), S.k 42 3 (by decide), _, tw2, fun e => ?_, fun _ => ⟨S.k 41 6 (by decide), _, z31, rfl, rfl⟩⟩⟩), k20.tr k31, f31, fun e => absurd e ne⟩
      rw [zb_eq, h2] at e; cases e
    · refine ⟨I20, eX6_lookAtHill (wX6_lookAtHill_0 ⟨S.k 41 6 (by decide), 42, Q.p 41 0 42 (by decide), S.k 42 3 (by decide), S.k 41 6 (by decide), 42, Q.p 41 0 42 (by decide), S.k 42 3 (by decide), fun e => absurd (le.mp e) (by omega), fun _ => ⟨S.k 41 6 (by decide), _, z20, S.k 41 6 (by decide), 42, Q.p 41 0 42 (by decide), S.k 42 3 (by decide), _, tw2, fun _ => ⟨rfl, rfl⟩, fun e => ?_⟩⟩), k20, f20, fun e => absurd e ne⟩
      rw [← ne_eq, zb_ne] at e; exact absurd e h2
  · rw [ep, if_neg h1]
    by_cases h2 : twoAl (yH y) = true
    · rw [if_pos h2]
      obtain ⟨I16, z16, k16, f16⟩ := c_note (g := g) (P := P) (k := 5) (q := T.1) S Ft
      rw [nt_f h0] at f16
      have ne : ((5, nI T.1) : FS).1 ≠ 0 := (by decide : (5 : Int32) ≠ 0)
      refine ⟨I16, eX6_lookAtHill (wX6_lookAtHill_0 ⟨S.k 41 6 (by decide), 42, Q.p 41 0 42 (by decide), S.k 42 3 (by decide), S.k 41 6 (by decide), 42, Q.p 41 0 42 (by decide), S.k 42 3 (by decide), fun _ => ⟨S.k 41 6 (by decide), 42, Q.p 41 0 42 (by decide), S.k 42 3 (by decide), _, tw, fun e => ?_, fun _ => ⟨S.k 41 6 (by decide), _, z16, rfl, rfl⟩⟩, fun e => absurd (le.mpr (by omega)) e⟩), k16, f16, fun e => absurd e ne⟩
      rw [zb_eq, h2] at e; cases e
    · rw [if_neg h2]
      refine ⟨I, eX6_lookAtHill (wX6_lookAtHill_0 ⟨S.k 41 6 (by decide), 42, Q.p 41 0 42 (by decide), S.k 42 3 (by decide), S.k 41 6 (by decide), 42, Q.p 41 0 42 (by decide), S.k 42 3 (by decide), fun _ => ⟨S.k 41 6 (by decide), 42, Q.p 41 0 42 (by decide), S.k 42 3 (by decide), _, tw, fun _ => ⟨rfl, rfl⟩, fun e => ?_⟩, fun e => absurd (le.mpr (by omega)) e⟩), Kn.rf I, Ft, Rd⟩
      rw [← ne_eq, zb_ne] at e; exact absurd e h2
theorem Kn.ky {I J : Nat → Nat → Int32} (h : Kn I J) : KY I J := h.d.r
theorem c_readLoop {so : Nat} (S : Sg g) (Q : Sp P) (C : TpC I P T) (hso : so < 4) : ∀ m p i (K : Nat → Nat → Int32) (y : PS) (F : FS), p ≤ T.1 → T.1 ≤ p + m → i ≤ p → KY I K → K 58 2 = nI p → RdC K y F → ∃ J, Zt none mX6_read 0 0 61 [(0, .ref 41), (2, .int (nI T.1)), (3, .int (nI so)), (4, .int 1), (5, .int (nI i))] [] (g, K, P) none (g, J, P) ∧ KY I J ∧ RdC J (prs T so m p y F).1 (pfin T so (prs T so m p y F)) := by
  have h6 := C.2.2.1
  have fin : ∀ (K : Nat → Nat → Int32) (y : PS) (F : FS) (x : Int32), KY I K → RdC K y F → ∃ J, Zt none mX6_read 0 0 61 [(0, .ref 41), (2, .int (nI T.1)), (3, .int (nI so)), (4, .int 0), (5, .int x)] [] (g, K, P) none (g, J, P) ∧ KY I J ∧ RdC J y (pfin T so (y, F)) := by
    intro K y F x k R
    by_cases h0 : F.1 = 0
    · by_cases hs : so = 0
      · subst hs
        obtain ⟨J, z, kn, RJ⟩ := c_lookAtHill (T := T) S Q R h0
        exact ⟨J, wX6_read_61 ⟨fun _ => ⟨S.k 41 6 (by decide), fun e => absurd (R.1.1.trans h0) e, fun _ => ⟨fun e => absurd rfl e, fun _ => ⟨S.k 41 6 (by decide), _, z, rfl, rfl⟩⟩⟩, fun _ => ⟨fun _ => ⟨S.k 41 6 (by decide), fun e => absurd (R.1.1.trans h0) e, fun _ => ⟨fun e => absurd rfl e, fun _ => ⟨S.k 41 6 (by decide), _, z, rfl, rfl⟩⟩⟩, fun e => absurd rfl e⟩⟩, k.tr kn.ky, RJ⟩
      · have ns : ¬ nI so = 0 := fun e => hs ((nI_eq (b := 0) (by omega) (by decide)).mp e)
        have ep : pfin T so (y, F) = F := by unfold pfin; rw [if_neg (fun e => hs e.2)]
        rw [ep]
        exact ⟨K, wX6_read_61 ⟨fun _ => ⟨S.k 41 6 (by decide), fun _ => ⟨rfl, rfl⟩, fun _ => ⟨fun _ => ⟨rfl, rfl⟩, fun e => absurd e ns⟩⟩, fun _ => ⟨fun _ => ⟨S.k 41 6 (by decide), fun _ => ⟨rfl, rfl⟩, fun _ => ⟨fun _ => ⟨rfl, rfl⟩, fun e => absurd e ns⟩⟩, fun e => absurd rfl e⟩⟩, k, R⟩
    · have ep : pfin T so (y, F) = F := by unfold pfin; rw [if_neg (fun e => h0 e.1)]
      rw [ep]
      have ne : ¬ K 41 4 = 0 := fun e => h0 (R.1.1.symm.trans e)
      exact ⟨K, wX6_read_61 ⟨fun _ => ⟨S.k 41 6 (by decide), fun _ => ⟨rfl, rfl⟩, fun e => absurd e ne⟩, fun _ => ⟨fun _ => ⟨S.k 41 6 (by decide), fun _ => ⟨rfl, rfl⟩, fun e => absurd e ne⟩, fun e => absurd rfl e⟩⟩, k, R⟩
  -- the end of the tape
  have stop : ∀ p i (K : Nat → Nat → Int32) (y : PS) (F : FS), p ≤ T.1 → i ≤ p → KY I K → K 58 2 = nI p → RdC K y F → sK T p = 0 → ∃ J, Zt none mX6_read 0 0 61 [(0, .ref 41), (2, .int (nI T.1)), (3, .int (nI so)), (4, .int 1), (5, .int (nI i))] [] (g, K, P) none (g, J, P) ∧ KY I J ∧ RdC J y (pfin T so (y, F)) := by
    intro p i K y F hp hi k h2 R h0
    obtain ⟨K1, z1, k1, D1⟩ := c_step S (C.r k) hp h2
    obtain ⟨J, z, q⟩ := fin K1 y F (nI i + 1) (k.tr k1.r) (R.k (fun c c1 c2 => k1.1 c (by omega)) (by rw [k1.1 41 (by decide)]) (by rw [k1.1 41 (by decide)]))
    exact ⟨J, wX6_read_61 ⟨fun e => absurd e (nI_nlt (a := 600) (by omega) (by decide)), fun _ => ⟨fun e => absurd e (by decide), fun _ => ⟨S.k 41 6 (by decide), 58, Q.p 41 6 58 (by decide), S.k 58 8 (by decide), _, z1, S.k 41 6 (by decide), 58, Q.p 41 6 58 (by decide), S.k 58 8 (by decide), fun _ => z, fun e => absurd (by rw [D1.2.1, h0]; rfl) e⟩⟩⟩, q⟩
  intro m
  induction m with
  | zero =>
    intro p i K y F hp hm hi k h2 R
    have h0 : sK T p = 0 := (sK_0 hp).mpr (by have := sS_b hp; omega)
    exact stop p i K y F hp hi k h2 R h0
  | succ m ih =>
    intro p i K y F hp hm hi k h2 R
    by_cases h0 : sK T p = 0
    · rw [prs_0 h0]
      exact stop p i K y F hp hi k h2 R h0
    · have kle := sK_le (T := T) (p := p)
      obtain ⟨K1, z1, k1, D1⟩ := c_step S (C.r k) hp h2
      have C1 := (C.r k).k k1
      have R1 : RdC K1 y F := R.k (fun c c1 c2 => k1.1 c (by omega)) (by rw [k1.1 41 (by decide)]) (by rw [k1.1 41 (by decide)])
      obtain ⟨K2, z2, x2, w2, d2⟩ := c_keyOf S Q C1 hp D1 hso
      have y2 : KY K1 K2 := ⟨fun c hc => x2 c (by omega), by rw [x2 58 (by decide)]⟩
      have D2 : TkD T K2 p := by unfold TkD; rw [x2 58 (by decide)]; exact D1
      obtain ⟨c, K3, z3, L⟩ := c_readOne (k := kS T so p) S Q (C1.r y2) hp D2 kS_11 d2 (R1.k (fun c c1 c2 => x2 c (by omega)) (w2 4 (by decide)) (w2 5 (by decide)))
      have kk := ((k.tr k1.r).tr y2).tr L.1
      have nk : ¬ K1 58 3 = 0 := by
        rw [D1.2.1]
        exact fun e => h0 ((nI_10 (by omega) 0 (by decide) 0 rfl).mp e)
      cases hl : lF T (kS T so p) p with
      | some q =>
        obtain ⟨c1, c2⟩ := L.2.1 q hl
        subst c1
        rw [prs_f h0 hl]
        obtain ⟨J, z, r⟩ := fin K3 y (1, nI q) (nI i + 1) kk ⟨c2, fun e => absurd e (by decide : ¬ (1 : Int32) = 0)⟩
        exact ⟨J, wX6_read_61 ⟨fun e => absurd e (nI_nlt (a := 600) (by omega) (by decide)), fun _ => ⟨fun e => absurd e (by decide), fun _ => ⟨S.k 41 6 (by decide), 58, Q.p 41 6 58 (by decide), S.k 58 8 (by decide), _, z1, S.k 41 6 (by decide), 58, Q.p 41 6 58 (by decide), S.k 58 8 (by decide), fun e => absurd e nk, fun _ => ⟨S.k 41 6 (by decide), _, _, z2, S.k 41 6 (by decide), _, _, z3, fun _ => z, fun e => absurd rfl e⟩⟩⟩⟩, r⟩
      | none =>
        obtain ⟨c1, c2, c3⟩ := L.2.2 hl
        subst c1
        rw [prs_s h0 hl]
        have hx := lX_g (k := kS T so p) hp h0
        obtain ⟨J, z, r⟩ := ih (lX T (kS T so p) p) (i + 1) K3 _ _ hx.2 (by omega) (by omega) kk c2 c3
        exact ⟨J, wX6_read_61 ⟨fun e => absurd e (nI_nlt (a := 600) (by omega) (by decide)), fun _ => ⟨fun e => absurd e (by decide), fun _ => ⟨S.k 41 6 (by decide), 58, Q.p 41 6 58 (by decide), S.k 58 8 (by decide), _, z1, S.k 41 6 (by decide), 58, Q.p 41 6 58 (by decide), S.k 58 8 (by decide), fun e => absurd e nk, fun _ => ⟨S.k 41 6 (by decide), _, _, z2, S.k 41 6 (by decide), _, _, z3, fun e => absurd e (by decide), fun _ => by rw [nI_1]; exact z⟩⟩⟩⟩, r⟩
theorem c_clear (S : Sg g) (Q : Sp P) : ∃ J, Cl mX3_clear [.ref 42] (g, I, P) none (g, J, P) ∧ (∀ c, c ≠ 42 → c ≠ 45 → c ≠ 47 → J c = I c) ∧ J 42 0 = 2 ∧ J 42 1 = 0 ∧ J 42 2 = 0 ∧ J 42 3 = 0 ∧ (∀ w, w < 10 → J 45 w = 0) ∧ ∀ q, q < 6 → J 47 q = 0 := by
  obtain ⟨K, hK⟩ : ∃ K, K = zU (zU (zU (zU I 42 0 2) 42 1 0) 42 2 0) 42 3 0 := ⟨_, rfl⟩
  obtain ⟨K1, z1, a1, a2⟩ := c_fill (g := g) (I := K) (P := P) (a := 45) (n := 10) (x := 0) (S.k 45 13 (by decide)) (S.l 45 10 (by decide)) (by decide)
  obtain ⟨K2, z2, b1, b2⟩ := c_fill (g := g) (I := K1) (P := P) (a := 47) (n := 6) (x := 0) (S.k 47 13 (by decide)) (S.l 47 6 (by decide)) (by decide)
  have k42 : ∀ j, K2 42 j = K 42 j := fun j => by rw [b2 42 (by decide), a2 42 (by decide)]
  refine ⟨K2, eX3_clear (wX3_clear_0 ⟨S.k 42 3 (by decide), S.k 42 3 (by decide), S.k 42 3 (by decide), S.k 42 3 (by decide), S.k 42 3 (by decide), 45, Q.p 42 6 45 (by decide), _, by rw [← hK]; exact z1, S.k 42 3 (by decide), 47, Q.p 42 8 47 (by decide), _, z2, rfl, rfl⟩), fun c c1 c2 c3 => ?_, ?_, ?_, ?_, ?_, fun w hw => ?_, fun q hq => b1 q hq⟩
  · rw [b2 c c3, a2 c c2, hK]; funext j; rw [zU_a _ _ c1, zU_a _ _ c1, zU_a _ _ c1, zU_a _ _ c1]
  · rw [k42, hK, zU_k _ _ (by decide), zU_k _ _ (by decide), zU_k _ _ (by decide), zU_s]
  · rw [k42, hK, zU_k _ _ (by decide), zU_k _ _ (by decide), zU_s]
  · rw [k42, hK, zU_k _ _ (by decide), zU_s]
  · rw [k42, hK, zU_s]
  · rw [b2 45 (by decide)]; exact a1 w hw
theorem pT_41 : ∀ q ∈ pT, (q.1 ≠ 41 ∨ q.2.1 ≠ 7) ∧ (q.1 ≠ 58 ∨ q.2.1 ≠ 0) := by decide
theorem c_read {so : Nat} (S : Sg g) (Q : Sp P) (hso : so < 4) (h6 : T.1 ≤ 600) (hT : ∀ k, k < T.1 → I 2 k = nI (T.2 k) ∧ T.2 k < 256) : ∃ J R, Cl mX6_read [.ref 41, .ref 2, .int (nI T.1), .int (nI so)] (g, I, P) none (g, J, R) ∧ Kp I J ∧ KpP P R ∧ RdC J (prs T so T.1 0 y0 (0, -1)).1 (pfin T so (prs T so T.1 0 y0 (0, -1))) := by
  obtain ⟨R, hR⟩ : ∃ R, R = zU (zU P 41 7 (some 2)) 58 0 (some 2) := ⟨_, rfl⟩
  have QR : Sp R := by
    intro q hq
    obtain ⟨h1, h2⟩ := pT_41 q hq
    rw [hR]
    have e1 : zU (zU P 41 7 (some 2)) 58 0 (some 2) q.1 q.2.1 = zU P 41 7 (some 2) q.1 q.2.1 := by
      rcases h2 with h | h
      · rw [zU_a _ _ h]
      · rw [zU_k _ _ h]
    have e2 : zU P 41 7 (some 2) q.1 q.2.1 = P q.1 q.2.1 := by
      rcases h1 with h | h
      · rw [zU_a _ _ h]
      · rw [zU_k _ _ h]
    rw [e1, e2]; exact Q q hq
  have kP : KpP P R := ⟨fun c hc => by rw [hR]; funext j; rw [zU_a _ _ (by omega), zU_a _ _ (by omega)], QR⟩
  obtain ⟨K1, hK1⟩ : ∃ K1, K1 = zU (zU I 58 1 (nI T.1)) 58 2 0 := ⟨_, rfl⟩
  obtain ⟨K2, hK2⟩ : ∃ K2, K2 = zU (zU K1 41 4 0) 41 5 (-1) := ⟨_, rfl⟩
  obtain ⟨K3, z3, a0, a1, a2, a3, a4, a5, a6⟩ := c_clear (g := g) (I := K2) (P := R) S QR
  obtain ⟨K4, hK4⟩ : ∃ K4, K4 = zU (zU (zU K3 48 0 0) 52 0 0) 55 0 0 := ⟨_, rfl⟩
  have x : ∀ c, (c < 41 ∨ 58 < c) → K4 c = I c := fun c hc => by
    have e3 : K3 c = K2 c := a0 c (by omega) (by omega) (by omega)
    rw [hK4]
    funext j
    rw [zU_a _ _ (by omega), zU_a _ _ (by omega), zU_a _ _ (by omega), e3, hK2, zU_a _ _ (by omega), zU_a _ _ (by omega), hK1, zU_a _ _ (by omega), zU_a _ _ (by omega)]
  have x58 : ∀ j, K4 58 j = K1 58 j := fun j => by
    rw [hK4, zU_a _ _ (by decide), zU_a _ _ (by decide), zU_a _ _ (by decide), a0 58 (by decide) (by decide) (by decide), hK2, zU_a _ _ (by decide), zU_a _ _ (by decide)]
  have x41 : ∀ j, K4 41 j = K2 41 j := fun j => by
    rw [hK4, zU_a _ _ (by decide), zU_a _ _ (by decide), zU_a _ _ (by decide), a0 41 (by decide) (by decide) (by decide)]
  have x4 : ∀ c, c ≠ 48 → c ≠ 52 → c ≠ 55 → ∀ j, K4 c j = K3 c j := fun c c1 c2 c3 j => by rw [hK4, zU_a _ _ c3, zU_a _ _ c2, zU_a _ _ c1]
  have C4 : TpC K4 R T := ⟨by rw [hR, zU_s], by rw [hR, zU_a _ _ (by decide), zU_s], h6, by rw [x58, hK1, zU_k _ _ (by decide), zU_s], fun k hk => by rw [x 2 (by omega)]; exact hT k hk⟩
  have R4 : RdC K4 y0 (0, -1) := by
    refine ⟨⟨by rw [x41, hK2, zU_k _ _ (by decide), zU_s], by rw [x41, hK2, zU_s]⟩, fun _ => ⟨⟨⟨?_, ?_, ?_, fun w h => absurd h (Nat.not_lt_zero w), fun w h => absurd h (Nat.not_lt_zero w), fun w h => absurd h (Nat.not_lt_zero w), fun w k h => absurd h (Nat.not_lt_zero w), fun q hq => ?_⟩, fun w hw => ?_, ?_, ⟨?_, fun w h => absurd h (Nat.not_lt_zero w)⟩, ⟨?_, fun w h => absurd h (Nat.not_lt_zero w)⟩, ⟨?_, fun w h => absurd h (Nat.not_lt_zero w)⟩⟩, PW_0⟩⟩
    · rw [x4 42 (by decide) (by decide) (by decide), a1]; rfl
    · rw [x4 42 (by decide) (by decide) (by decide), a2]; rfl
    · rw [x4 42 (by decide) (by decide) (by decide), a3]; rfl
    · rw [x4 47 (by decide) (by decide) (by decide)]; exact a6 q hq
    · rw [x4 45 (by decide) (by decide) (by decide)]; exact a5 w hw
    · rw [x4 42 (by decide) (by decide) (by decide), a4]; rfl
    · rw [hK4, zU_a _ _ (by decide), zU_a _ _ (by decide), zU_s]; rfl
    · rw [hK4, zU_a _ _ (by decide), zU_s]; rfl
    · rw [hK4, zU_s]; rfl
  obtain ⟨J, z, k, RJ⟩ := c_readLoop (so := so) S QR C4 hso T.1 0 0 K4 y0 (0, -1) (Nat.zero_le _) (by omega) (Nat.le_refl _) (KY.rf _) (by rw [x58, hK1, zU_s]; rfl) R4
  refine ⟨J, R, eX6_read (wX6_read_0 ⟨S.k 41 6 (by decide), S.k 41 6 (by decide), 58, by rw [zU_k _ _ (by decide)]; exact Q.p 41 6 58 (by decide), S.k 58 8 (by decide), K1, R, eX8_begin (wX8_begin_0 ⟨S.k 58 8 (by decide), S.k 58 8 (by decide), S.k 58 8 (by decide), rfl, by rw [hK1, hR]⟩), S.k 41 6 (by decide), S.k 41 6 (by decide), S.k 41 6 (by decide), 42, QR.p 41 0 42 (by decide), S.k 42 3 (by decide), K3, by rw [← hK2]; exact z3, S.k 41 6 (by decide), 48, QR.p 41 1 48 (by decide), S.k 48 0 (by decide), S.k 41 6 (by decide), 52, QR.p 41 2 52 (by decide), S.k 52 4 (by decide), S.k 41 6 (by decide), 55, QR.p 41 3 55 (by decide), S.k 55 5 (by decide), by rw [← hK4]; exact z⟩), fun c hc => by rw [k.1 c (by omega), x c (by omega)], kP, RJ⟩
end CRALL
