/-! ===== text ===== -/
section TEXT
variable {g : zG} {I : Nat → Nat → Int32} {P : Nat → Nat → Option Nat} {t : TD} {im : Nat → Option TD} {y : PS} {T : Tp}
theorem c_keepT {so s c : Nat} (S : Sg g) (Q : Sp P) (hso : so < 4) (hs : s < 2) (hc : I 3 so = nI c) (hc2 : c ≤ 2) (Da : DatC I y) (Y : PW y) : ∃ J, Cl mX9_keep [.ref 1, .ref 41, .int (nI so), .int (nI s)] (g, I, P) none (g, J, P) ∧ (∀ a, a ≠ 3 → ¬ (dsC so s ≤ a ∧ a < dsC so s + dln so) → J a = I a) ∧ (∀ k, k < 4 → J 3 k = if k = so then nI (max c (s + 1)) else I 3 k) ∧ DtC so J (dsC so s) y ∧ (so = 0 → J (8 + 16 * s) 2 = 0 ∨ J (8 + 16 * s) 2 = 1) := by
  obtain ⟨-, -, -, -, t5⟩ := TlS_1 S Q
  obtain ⟨⟨ph, sh⟩, ⟨pc, sc⟩, ⟨pl, sl⟩, pg, sg⟩ := t5 s hs
  obtain ⟨H, HB, HF, HC, HL, HG⟩ := Da
  have cl : (nI s).toNatClampNeg = s := nI_clamp (by omega)
  obtain ⟨K, hK⟩ : ∃ K, K = zU I 3 so (nI (max c (s + 1))) := ⟨_, rfl⟩
  have k3 : ∀ a, a ≠ 3 → K a = I a := fun a ha => by rw [hK]; funext j; rw [zU_a _ _ ha]
  have j3 : ∀ k, K 3 k = if k = so then nI (max c (s + 1)) else I 3 k := fun k => by
    rw [hK]
    by_cases e : k = so
    · subst e; rw [zU_s, if_pos rfl]
    · rw [zU_k _ _ e, if_neg e]
  have pt : Cl mX11_put [.ref 3, .int (nI so), .int (zmmax (I 3 so) (nI s + 1))] (g, I, P) none (g, K, P) := by
    have := c_put (g := g) (I := I) (P := P) (a := 3) (k := so) (n := 4) (x := nI (max c (s + 1))) (S.k 3 13 (by decide)) (S.l 3 4 (by decide)) (by decide) hso
    rw [hc, nI_1, zmmax_n (by omega) (by omega), hK]
    exact this
  have gt := c_got (g := g) (I := I) (P := P) (a := 3) (k := so) (n := 4) (S.k 3 13 (by decide)) (S.l 3 4 (by decide)) (by decide) hso
  have ns : ¬ nI s < 0 := nI_pos (by omega)
  have l2 : nI s < 2 := nI_lt (b := 2) hs (by decide)
  have vv' : ∀ b, g.2.2 b = 2 → vp_in (nI s) (g.2.2 b) := fun b hb => by rw [hb]; exact vp_in_nI hs (by decide)
  rcases (show so = 0 ∨ so = 1 ∨ so = 2 ∨ so = 3 by omega) with rfl | rfl | rfl | rfl
  · have hb : K 42 2 = 0 ∨ K 42 2 = 1 := by rw [k3 42 (by decide), H.2.2.1]; exact zb_or _
    obtain ⟨J, z, C, k⟩ := c_hillCopy (g := g) (I := K) (a := 42) (HlS_42 S Q) sh (by omega) hb
    have HK : HlD K 42 (yH y) := H.keep (fun j hj => k3 _ (by omega))
    have HJ : HlD J (8 + 16 * s) (yH y) := C.d Y.1 HK
    refine ⟨J, eX9_keep (wX9_keep_0 ⟨fun e => absurd e ns, fun _ => ⟨fun _ => ⟨S.k 1 9 (by decide), 3, Q.p 1 4 3 (by decide), S.k 1 9 (by decide), 3, Q.p 1 4 3 (by decide), _, gt, K, pt, fun _ => ⟨S.k 41 6 (by decide), 42, Q.p 41 0 42 (by decide), S.k 1 9 (by decide), 4, Q.p 1 5 4 (by decide), S.k 4 16 (by decide), vv' 4 (S.l 4 2 (by decide)), _, by rw [cl]; exact ph, J, z, rfl, rfl⟩, fun e => absurd e (by decide), fun e => absurd e (by decide), fun e => absurd e (by decide), fun e => absurd rfl e⟩, fun e => absurd l2 e⟩⟩), fun a a3 ha => ?_, fun k' hk => ?_, ⟨fun _ => HJ, fun e => absurd e (by decide), fun e => absurd e (by decide), fun e => absurd e (by decide)⟩, fun _ => ?_⟩
    · have ha : ¬ (8 + 16 * s ≤ a ∧ a < 8 + 16 * s + 6) := ha
      rw [k a (by omega), k3 a a3]
    · rw [k 3 (by omega)]; exact j3 k'
    · rw [HJ.2.2.1]; exact zb_or _
  · obtain ⟨J, z, C, k⟩ := c_centCopy (g := g) (I := K) (a := 48) ⟨S.k 48 0 (by decide), ⟨S.k 49 13 (by decide), S.k 50 13 (by decide), S.k 51 13 (by decide)⟩, ⟨S.l 49 40 (by decide), S.l 50 40 (by decide), S.l 51 40 (by decide)⟩, Q.p 48 1 49 (by decide), Q.p 48 2 50 (by decide), Q.p 48 3 51 (by decide)⟩ sc (by omega)
    have HJ : CnD J (14 + 16 * s) (yC y) := C.d Y.2.2.2.2.1 (HC.keep (fun j hj => k3 _ (by omega)))
    refine ⟨J, eX9_keep (wX9_keep_0 ⟨fun e => absurd e ns, fun _ => ⟨fun _ => ⟨S.k 1 9 (by decide), 3, Q.p 1 4 3 (by decide), S.k 1 9 (by decide), 3, Q.p 1 4 3 (by decide), _, gt, K, pt, fun e => absurd e (by decide), fun _ => ⟨S.k 41 6 (by decide), 48, Q.p 41 1 48 (by decide), S.k 1 9 (by decide), 5, Q.p 1 6 5 (by decide), S.k 5 15 (by decide), vv' 5 (S.l 5 2 (by decide)), _, by rw [cl]; exact pc, J, z, rfl, rfl⟩, fun e => absurd e (by decide), fun e => absurd e (by decide), fun _ e => absurd rfl e⟩, fun e => absurd l2 e⟩⟩), fun a a3 ha => ?_, fun k' hk => ?_, ⟨fun e => absurd e (by decide), fun _ => HJ, fun e => absurd e (by decide), fun e => absurd e (by decide)⟩, fun e => absurd e (by decide)⟩
    · have ha : ¬ (14 + 16 * s ≤ a ∧ a < 14 + 16 * s + 4) := ha
      rw [k a (by omega), k3 a a3]
    · rw [k 3 (by omega)]; exact j3 k'
  · obtain ⟨J, z, C, k⟩ := c_linsCopy (g := g) (I := K) (a := 52) ⟨S.k 52 4 (by decide), ⟨S.k 53 13 (by decide), S.k 54 13 (by decide)⟩, ⟨S.l 53 6 (by decide), S.l 54 72 (by decide)⟩, Q.p 52 1 53 (by decide), Q.p 52 2 54 (by decide)⟩ sl (by omega)
    have HJ : LnD J (18 + 16 * s) (yL y) := C.d Y.2.2.2.2.2.1 (HL.keep (fun j hj => k3 _ (by omega)))
    refine ⟨J, eX9_keep (wX9_keep_0 ⟨fun e => absurd e ns, fun _ => ⟨fun _ => ⟨S.k 1 9 (by decide), 3, Q.p 1 4 3 (by decide), S.k 1 9 (by decide), 3, Q.p 1 4 3 (by decide), _, gt, K, pt, fun e => absurd e (by decide), fun e => absurd e (by decide), fun _ => ⟨S.k 41 6 (by decide), 52, Q.p 41 2 52 (by decide), S.k 1 9 (by decide), 6, Q.p 1 7 6 (by decide), S.k 6 17 (by decide), vv' 6 (S.l 6 2 (by decide)), _, by rw [cl]; exact pl, J, z, rfl, rfl⟩, fun e => absurd e (by decide), fun _ _ e => absurd rfl e⟩, fun e => absurd l2 e⟩⟩), fun a a3 ha => ?_, fun k' hk => ?_, ⟨fun e => absurd e (by decide), fun e => absurd e (by decide), fun _ => HJ, fun e => absurd e (by decide)⟩, fun e => absurd e (by decide)⟩
    · have ha : ¬ (18 + 16 * s ≤ a ∧ a < 18 + 16 * s + 3) := ha
      rw [k a (by omega), k3 a a3]
    · rw [k 3 (by omega)]; exact j3 k'
  · obtain ⟨J, z, C, k⟩ := c_logCopy (g := g) (I := K) (a := 55) ⟨S.k 55 5 (by decide), ⟨S.k 56 13 (by decide), S.k 57 13 (by decide)⟩, ⟨S.l 56 8 (by decide), S.l 57 8 (by decide)⟩, Q.p 55 1 56 (by decide), Q.p 55 2 57 (by decide)⟩ sg (by omega)
    have HJ : LgD J (21 + 16 * s) (yG y) := C.d Y.2.2.2.2.2.2 (HG.keep (fun j hj => k3 _ (by omega)))
    refine ⟨J, eX9_keep (wX9_keep_0 ⟨fun e => absurd e ns, fun _ => ⟨fun _ => ⟨S.k 1 9 (by decide), 3, Q.p 1 4 3 (by decide), S.k 1 9 (by decide), 3, Q.p 1 4 3 (by decide), _, gt, K, pt, fun e => absurd e (by decide), fun e => absurd e (by decide), fun e => absurd e (by decide), fun _ => ⟨S.k 41 6 (by decide), 55, Q.p 41 3 55 (by decide), S.k 1 9 (by decide), 7, Q.p 1 8 7 (by decide), S.k 7 18 (by decide), vv' 7 (S.l 7 2 (by decide)), _, by rw [cl]; exact pg, J, z, rfl, rfl⟩, fun _ _ _ e => absurd rfl e⟩, fun e => absurd l2 e⟩⟩), fun a a3 ha => ?_, fun k' hk => ?_, ⟨fun e => absurd e (by decide), fun e => absurd e (by decide), fun e => absurd e (by decide), fun _ => HJ⟩, fun e => absurd e (by decide)⟩
    · have ha : ¬ (21 + 16 * s ≤ a ∧ a < 21 + 16 * s + 3) := ha
      rw [k a (by omega), k3 a a3]
    · rw [k 3 (by omega)]; exact j3 k'
theorem r_placeS {so s : Nat} (hso : so < 4) : Cl mX12_placeOf [.int (nI so), .int (nI s)] (g, I, P) (some (.int (nI (plc so s)))) (g, I, P) := by
  rcases (show so = 0 ∨ so = 1 ∨ so = 2 ∨ so = 3 by omega) with rfl | rfl | rfl | rfl
  · exact r_place0
  · exact r_place1
  · exact r_place2
  · exact r_place3
theorem r_sizeS {so : Nat} (hso : so < 4) : Cl mX12_sizeOf [.int (nI so)] (g, I, P) (some (.int (nI (psz so)))) (g, I, P) := by
  rcases (show so = 0 ∨ so = 1 ∨ so = 2 ∨ so = 3 by omega) with rfl | rfl | rfl | rfl
  · exact eX12_sizeOf (wX12_sizeOf_0 ⟨fun e => absurd rfl e, fun _ => ⟨rfl, rfl⟩⟩)
  · exact eX12_sizeOf (wX12_sizeOf_0 ⟨fun _ => ⟨fun e => absurd rfl e, fun _ => ⟨rfl, rfl⟩⟩, fun e => absurd e (by decide)⟩)
  · exact eX12_sizeOf (wX12_sizeOf_0 ⟨fun _ => ⟨fun _ => ⟨fun e => absurd rfl e, fun _ => ⟨rfl, rfl⟩⟩, fun e => absurd e (by decide)⟩, fun e => absurd e (by decide)⟩)
  · exact eX12_sizeOf (wX12_sizeOf_0 ⟨fun _ => ⟨fun _ => ⟨fun _ => ⟨rfl, rfl⟩, fun e => absurd e (by decide)⟩, fun e => absurd e (by decide)⟩, fun e => absurd e (by decide)⟩)
theorem plc_le {so s : Nat} (hso : so < 4) (hs : s < 2) : 610 ≤ plc so s ∧ plc so s + psz so ≤ 1242 ∧ psz so ≤ 121 := by
  rcases (show so = 0 ∨ so = 1 ∨ so = 2 ∨ so = 3 by omega) with rfl | rfl | rfl | rfl
  · show 610 ≤ 610 + 99 * s ∧ 610 + 99 * s + 99 ≤ 1242 ∧ 99 ≤ 121; omega
  · show 610 ≤ 808 + 121 * s ∧ 808 + 121 * s + 121 ≤ 1242 ∧ 121 ≤ 121; omega
  · show 610 ≤ 1050 + 79 * s ∧ 1050 + 79 * s + 79 ≤ 1242 ∧ 79 ≤ 121; omega
  · show 610 ≤ 1208 + 17 * s ∧ 1208 + 17 * s + 17 ≤ 1242 ∧ 17 ≤ 121; omega
theorem r_copyT {so s : Nat} (S : Sg g) (Q : Sp P) (hso : so < 4) (hs : s < 2) : ∀ m i (K : Nat → Nat → Int32), i + m = psz so → ∃ J, Zt none mX12_text 0 0 301 [(0, .ref 95), (1, .int (nI so)), (3, .int (nI s)), (4, .int (nI i))] [] (g, K, P) (some (.int (nI s))) (g, J, P) ∧ (∀ c, c ≠ 96 → J c = K c) ∧ ∀ k, J 96 k = if plc so s + i ≤ k ∧ k < plc so s + psz so then K 98 (k - plc so s) else K 96 k := by
  obtain ⟨p1, p2, p3⟩ := plc_le (so := so) (s := s) hso hs
  intro m
  induction m with
  | zero =>
    intro i K hi
    have hi : i = psz so := hi
    refine ⟨K, wX12_text_301 ⟨_, r_sizeS hso, fun _ => ⟨rfl, rfl⟩, fun e => absurd (by rw [hi]; exact Int32.le_refl _) e⟩, fun _ _ => rfl, fun k => ?_⟩
    rw [if_neg (by omega)]
  | succ m ih =>
    intro i K hi
    obtain ⟨J, z, a1, a2⟩ := ih (i + 1) (zU K 96 (plc so s + i) (K 98 i)) (by omega)
    obtain ⟨i1, i2⟩ := ix96 S (x := nI (plc so s) + nI i) (k := plc so s + i) (by rw [nI_add]) (by omega)
    refine ⟨J, wX12_text_301 ⟨_, r_sizeS hso, fun e => absurd e (nI_ge (by omega) (by omega)), fun _ => ⟨S.k 95 12 (by decide), 96, Q.p 95 0 96 (by decide), _, r_placeS hso, S.k 95 12 (by decide), 98, Q.p 95 10 98 (by decide), S.k 98 13 (by decide), v98 S (by omega), S.k 96 13 (by decide), i1, ?_⟩⟩, fun c hc => by (rw [a1 c hc]; funext j; rw [zU_a _ _ hc]), fun k => ?_⟩
    · rw [i2, nI_clamp (by omega), nI_1]; exact z
    · rw [a2 k, zU_a (f := K) (a := 96) (k := plc so s + i) (b := 98) _ (by decide)]
      by_cases e : plc so s + (i + 1) ≤ k ∧ k < plc so s + psz so
      · rw [if_pos e, if_pos (by omega)]
      · rw [if_neg e]
        by_cases e2 : k = plc so s + i
        · rw [e2, zU_s, if_pos (by omega), show plc so s + i - plc so s = i by omega]
        · rw [zU_k _ _ e2, if_neg (by omega)]
/-- what is read, at its place -/
theorem DatR.put {so s : Nat} {J K : Nat → Nat → Int32} (hso : so < 4) (D : DatR so K y) (Y : PW y) (h : ∀ i, i < psz so → J 96 (plc so s + i) = K 98 i) : DtR so J (plc so s) y := by
  refine ⟨fun e => ?_, fun e => ?_, fun e => ?_, fun e => ?_⟩
  · subst e
    have h : ∀ i, i < 99 → J 96 (610 + 99 * s + i) = K 98 i := h
    obtain ⟨⟨d0, d1, d98⟩, dz, dO, dB, dL, dA, -, -, -⟩ := D.1 rfl
    have hNn := Y.1.2.1
    show MhA J (610 + 99 * s) (yH y)
    refine ⟨(h 0 (by decide)).trans d0, (h 1 (by decide)).trans d1, (h 98 (by decide)).trans d98, fun w hw => ?_, fun w hw => ?_, fun w hw => ?_, fun w k hw hk => ?_, fun q hq => ?_⟩
    · rw [Nat.add_assoc, h _ (by omega)]; exact dz w hw
    · rw [show 610 + 99 * s + 2 + 8 * w + 1 = 610 + 99 * s + (3 + 8 * w) by omega, h _ (by omega)]; exact dO w hw
    · rw [Nat.add_assoc, h _ (by omega)]; exact dB w (by omega)
    · have := (Y.1.2.2.1 w hw).2
      rw [show 610 + 99 * s + 2 + 8 * w + 2 + k = 610 + 99 * s + (4 + 8 * w + k) by omega, h _ (by omega)]; exact dL w k hw hk
    · rw [Nat.add_assoc, h _ (by omega)]; exact dA q hq
  · subst e
    have h : ∀ i, i < 121 → J 96 (808 + 121 * s + i) = K 98 i := h
    obtain ⟨d0, dd⟩ := D.2.1 rfl
    have cw := Y.2.2.2.2.1.1
    show McA J (808 + 121 * s) (yC y)
    refine ⟨(h 0 (by decide)).trans d0, fun k hk => ?_⟩
    rw [show 808 + 121 * s + 1 + 3 * k = 808 + 121 * s + (1 + 3 * k) by omega, show 808 + 121 * s + (1 + 3 * k) + 1 = 808 + 121 * s + (2 + 3 * k) by omega, show 808 + 121 * s + (1 + 3 * k) + 2 = 808 + 121 * s + (3 + 3 * k) by omega, h _ (by omega), h _ (by omega), h _ (by omega)]
    exact dd k hk
  · subst e
    have h : ∀ i, i < 79 → J 96 (1050 + 79 * s + i) = K 98 i := h
    obtain ⟨d0, dd⟩ := D.2.2.1 rfl
    have lw := Y.2.2.2.2.2.1
    have lw1 := lw.1
    show MlA J (1050 + 79 * s) (yL y)
    refine ⟨(h 0 (by decide)).trans d0, fun k hk => ⟨?_, fun i hi => ?_⟩⟩
    · rw [show 1050 + 79 * s + 1 + 13 * k = 1050 + 79 * s + (1 + 13 * k) by omega, h _ (by omega)]
      exact (dd k hk).1
    · have := (lw.2 k hk).1.2
      rw [show 1050 + 79 * s + 1 + 13 * k + 1 + i = 1050 + 79 * s + (2 + 13 * k + i) by omega, h _ (by omega)]
      exact (dd k hk).2 i hi
  · subst e
    have h : ∀ i, i < 17 → J 96 (1208 + 17 * s + i) = K 98 i := h
    obtain ⟨d0, dd⟩ := D.2.2.2 rfl
    have gw := Y.2.2.2.2.2.2.1
    show MgA J (1208 + 17 * s) (yG y)
    refine ⟨(h 0 (by decide)).trans d0, fun k hk => ?_⟩
    rw [show 1208 + 17 * s + 1 + 2 * k = 1208 + 17 * s + (1 + 2 * k) by omega, show 1208 + 17 * s + (1 + 2 * k) + 1 = 1208 + 17 * s + (2 + 2 * k) by omega, h _ (by omega), h _ (by omega)]
    exact dd k hk
/-- the row of what is read is empty -/
theorem r_clear {so : Nat} {x : Int32} (S : Sg g) (Q : Sp P) (hso : so < 4) : ∀ m i (K : Nat → Nat → Int32), i + m = 121 → (∀ j, j < i → K 98 j = 0) → ∃ J, (∀ K2 r h', Cl mX12_advance [.ref 95] (g, J, P) none (g, K2, P) → Zt none mX12_text 0 0 122 [(0, .ref 95), (1, .int (nI so)), (2, .int x)] [] (g, K2, P) r h' → Zt none mX12_text 0 0 88 [(0, .ref 95), (1, .int (nI so)), (2, .int x), (3, .int (nI i))] [] (g, K, P) r h') ∧ (∀ c, c ≠ 98 → J c = K c) ∧ ∀ j, j < 121 → J 98 j = if so = 0 ∧ j = 0 then 2 else 0 := by
  intro m
  induction m with
  | zero =>
    intro i K hi hA
    have hi : i = 121 := hi
    subst hi
    by_cases h0 : so = 0
    · subst h0
      refine ⟨zU K 98 0 2, fun K2 r h' z Z => wX12_text_88 ⟨fun _ => ⟨fun e => absurd rfl e, fun _ => ⟨S.k 95 12 (by decide), 98, Q.p 95 10 98 (by decide), S.k 98 13 (by decide), v0 S, S.k 95 12 (by decide), K2, by rw [c0]; exact z, Z⟩⟩, fun e => absurd (Int32.le_refl _) e⟩, fun c hc => by (funext j; rw [zU_a _ _ hc]), fun j hj => ?_⟩
      by_cases e : j = 0
      · subst e; rw [zU_s, if_pos ⟨rfl, rfl⟩]
      · rw [zU_k _ _ e, if_neg (fun h => e h.2)]; exact hA j hj
    · refine ⟨K, fun K2 r h' z Z => wX12_text_88 ⟨fun _ => ⟨fun _ => ⟨S.k 95 12 (by decide), K2, z, Z⟩, fun e => absurd ((nI_eq (b := 0) (by omega) (by decide)).mp e) h0⟩, fun e => absurd (Int32.le_refl _) e⟩, fun _ _ => rfl, fun j hj => ?_⟩
      rw [if_neg (fun h => h0 h.1)]; exact hA j hj
  | succ m ih =>
    intro i K hi hA
    obtain ⟨J, z, a1, a2⟩ := ih (i + 1) (zU K 98 i 0) (by omega) (fun j hj => by
      by_cases e : j = i
      · subst e; rw [zU_s]
      · rw [zU_k _ _ e]; exact hA j (by omega))
    refine ⟨J, fun K2 r h' z1 Z => wX12_text_88 ⟨fun e => absurd e (nI_ge (b := 121) (by omega) (by decide)), fun _ => ⟨S.k 95 12 (by decide), 98, Q.p 95 10 98 (by decide), S.k 98 13 (by decide), v98 S (by omega), ?_⟩⟩, fun c hc => by (rw [a1 c hc]; funext j; rw [zU_a _ _ hc]), a2⟩
    rw [nI_clamp (by omega), nI_1]; exact z K2 r h' z1 Z
theorem DatR_0 {so : Nat} (hz : ∀ j, j < 121 → I 98 j = if so = 0 ∧ j = 0 then 2 else 0) (h9 : I 95 9 = -1) : DatR so I y0 := by
  have z : ∀ j, j < 121 → j ≠ 0 → I 98 j = 0 := fun j hj h0 => by rw [hz j hj, if_neg (fun e => h0 e.2)]
  have zs : so ≠ 0 → I 98 0 = 0 := fun h0 => by rw [hz 0 (by decide), if_neg (fun e => h0 e.1)]
  refine ⟨fun e => ⟨⟨by rw [hz 0 (by decide), if_pos ⟨e, rfl⟩]; rfl, by rw [z 1 (by decide) (by decide)]; rfl, by rw [z 98 (by decide) (by decide)]; rfl⟩, fun w h => absurd h (Nat.not_lt_zero w), fun w h => absurd h (Nat.not_lt_zero w), fun w hw => by rw [z _ (by omega) (by omega)]; rfl, fun w k h => absurd h (Nat.not_lt_zero w), fun q hq => by rw [z _ (by omega) (by omega)]; rfl, fun w h => absurd h (Nat.not_lt_zero w), fun w _ hw i hi => z _ (by omega) (by omega), by rw [h9]; rfl⟩, fun e => ⟨by rw [zs (by omega)]; rfl, fun w h => absurd h (Nat.not_lt_zero w)⟩, fun e => ⟨by rw [zs (by omega)]; rfl, fun w h => absurd h (Nat.not_lt_zero w)⟩, fun e => ⟨by rw [zs (by omega)]; rfl, fun w h => absurd h (Nat.not_lt_zero w)⟩⟩
theorem BdR_0 {so : Nat} (hz : ∀ j, j < 121 → I 98 j = if so = 0 ∧ j = 0 then 2 else 0) : BdR so I := by
  have zs : so ≠ 0 → I 98 0 = 0 := fun h0 => by rw [hz 0 (by decide), if_neg (fun e => h0 e.1)]
  exact ⟨fun e => ⟨0, by rw [hz 1 (by decide), if_neg (fun e => by cases e.2)]; rfl, by decide⟩, fun e => ⟨0, by rw [zs (by omega)]; rfl, by decide⟩, fun e => ⟨0, by rw [zs (by omega)]; rfl, by decide⟩, fun e => ⟨0, by rw [zs (by omega)]; rfl, by decide⟩⟩
/-- the reference reads the tape, from the clearing on -/
theorem r_reads {so : Nat} {x : Int32} (S : Sg g) (Q : Sp P) (hso : so < 4) (C : TpR I T) (h3 : I 95 3 = 0) (h8 : I 95 8 = 0) (h9 : I 95 9 = -1) (f5 : I 96 5 = 0) (f6 : I 96 6 = -1) : ∃ J, (∀ r h', Zt none mX12_text 0 0 256 [(0, .ref 95), (1, .int (nI so)), (2, .int x)] [] (g, J, P) r h' → Zt none mX12_text 0 0 88 [(0, .ref 95), (1, .int (nI so)), (2, .int x), (3, .int 0)] [] (g, I, P) r h') ∧ KT I J ∧ J 96 5 = (pfin T so (prs T so T.1 0 y0 (0, -1))).1 ∧ J 96 6 = (pfin T so (prs T so T.1 0 y0 (0, -1))).2 ∧ ((pfin T so (prs T so T.1 0 y0 (0, -1))).1 = 0 → DatR so J (prs T so T.1 0 y0 (0, -1)).1) := by
  obtain ⟨K1, z1, a1, a2⟩ := r_clear (g := g) (x := x) S Q hso 121 0 I (by omega) (fun j hj => by omega)
  have k1 : KT I K1 := ⟨fun c _ _ c3 _ => a1 c c3, fun k _ _ => by rw [a1 96 (by decide)], by rw [a1 95 (by decide)]⟩
  have C1 : TpR K1 T := ⟨C.1, by rw [a1 95 (by decide)]; exact C.2.1, fun k hk => by rw [a1 96 (by decide)]; exact C.2.2 k hk⟩
  obtain ⟨K2, z2, k2, L2⟩ := r_advance (g := g) (p := 0) S Q C1 (Nat.zero_le _) (by rw [a1 95 (by decide), h3]; rfl)
  have P2 : PSt T K2 (.inl (0, (0, -1))) := ⟨C1.k k2, Nat.zero_le _, by rw [k2.2 8 (by omega), a1 95 (by decide)]; exact h8, L2, by rw [k2.1 96 (by decide), a1 96 (by decide)]; exact f5, by rw [k2.1 96 (by decide), a1 96 (by decide)]; exact f6, fun e => absurd rfl e⟩
  have z98 : ∀ j, j < 121 → K2 98 j = if so = 0 ∧ j = 0 then 2 else 0 := fun j hj => by rw [k2.1 98 (by decide)]; exact a2 j hj
  obtain ⟨K3, z3, k3, R3⟩ := r_readLoop (g := g) (I := I) (x := x) (so := so) S Q hso T.1 0 K2 y0 (0, -1) (by omega) (k1.tr k2.l.t) P2 (BdR_0 z98) (fun _ => ⟨DatR_0 z98 (by rw [k2.2 9 (by omega), a1 95 (by decide)]; exact h9), PW_0⟩)
  obtain ⟨J, z4, k4, e98, e95, g5, g6⟩ := r_looks (g := g) (x := x) S Q hso C.1 R3
  refine ⟨J, fun r h' Z => z1 K2 r h' z2 (z3 r h' (z4 r h' Z)), k3.tr k4, g5, g6, fun e => ?_⟩
  have h0 : (prs T so T.1 0 y0 (0, -1)).2.1 = 0 := by
    by_cases h0 : (prs T so T.1 0 y0 (0, -1)).2.1 = 0
    · exact h0
    · unfold pfin at e
      rw [if_neg (fun e => h0 e.1)] at e
      exact e
  have D3 := (R3.2.2 h0).1.1
  exact ⟨fun es => (D3.1 es).k e98 (by rw [e95]), fun es => (D3.2.1 es).k e98, fun es => (D3.2.2.1 es).k e98, fun es => (D3.2.2.2 es).k e98⟩
end TEXT
