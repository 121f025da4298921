set_option maxRecDepth 10000 in
theorem wX1_hears_0a {g : zG} {I : Nat → Nat → Int32} {P : Nat → Nat → Option Nat} {r : Option Value} {h' : zH} {a0 : Nat} {x3 : Int32} (H : r = some (.int 0) ∧ h' = (g, I, P)) : Zt none mX1_hears 0 0 0 [(0, .ref a0), (1, .null), (2, .null), (3, .int x3)] [] (g, I, P) r h' := by
  refine z_aload_n 1 dX1_hears_0 rfl rfl (z_ifnullN (t := 16) dX1_hears_1 (by decide) (z_iconst (w := 0) dX1_hears_16 (by decide) ?_))
  obtain ⟨rfl, rfl⟩ := H
  exact z_zret dX1_hears_17 rfl (Or.inl rfl) (by decide) (by decide)
theorem eX1_hearsa {g : zG} {I : Nat → Nat → Int32} {P : Nat → Nat → Option Nat} {a0 : Nat} {x3 : Int32} : Cl mX1_hears [.ref a0, .null, .null, .int x3] (g, I, P) (some (.int 0)) (g, I, P) := Cl.of (by decide) (Nat.le_of_ble_eq_true rfl) (wX1_hears_0a ⟨rfl, rfl⟩)
set_option maxRecDepth 10000 in
theorem wX1_hears_0b {g : zG} {I : Nat → Nat → Int32} {P : Nat → Nat → Option Nat} {r : Option Value} {h' : zH} {a0 : Nat} {a2 : Nat} {x3 : Int32} (H : r = some (.int 0) ∧ h' = (g, I, P)) : Zt none mX1_hears 0 0 0 [(0, .ref a0), (1, .null), (2, .ref a2), (3, .int x3)] [] (g, I, P) r h' := by
  refine z_aload_n 1 dX1_hears_0 rfl rfl (z_ifnullN (t := 16) dX1_hears_1 (by decide) (z_iconst (w := 0) dX1_hears_16 (by decide) ?_))
  obtain ⟨rfl, rfl⟩ := H
  exact z_zret dX1_hears_17 rfl (Or.inl rfl) (by decide) (by decide)
theorem eX1_hearsb {g : zG} {I : Nat → Nat → Int32} {P : Nat → Nat → Option Nat} {a0 : Nat} {a2 : Nat} {x3 : Int32} : Cl mX1_hears [.ref a0, .null, .ref a2, .int x3] (g, I, P) (some (.int 0)) (g, I, P) := Cl.of (by decide) (Nat.le_of_ble_eq_true rfl) (wX1_hears_0b ⟨rfl, rfl⟩)
set_option maxRecDepth 10000 in
theorem wX1_hears_0c {g : zG} {I : Nat → Nat → Int32} {P : Nat → Nat → Option Nat} {r : Option Value} {h' : zH} {a0 : Nat} {a1 : Nat} {x3 : Int32} (H : r = some (.int 0) ∧ h' = (g, I, P)) : Zt none mX1_hears 0 0 0 [(0, .ref a0), (1, .ref a1), (2, .null), (3, .int x3)] [] (g, I, P) r h' := by
  refine z_aload_n 1 dX1_hears_0 rfl rfl (z_ifnullR dX1_hears_1 (z_aload_n 2 dX1_hears_4 rfl rfl (z_ifnullN (t := 16) dX1_hears_5 (by decide) (z_iconst (w := 0) dX1_hears_16 (by decide) ?_))))
  obtain ⟨rfl, rfl⟩ := H
  exact z_zret dX1_hears_17 rfl (Or.inl rfl) (by decide) (by decide)
theorem eX1_hearsc {g : zG} {I : Nat → Nat → Int32} {P : Nat → Nat → Option Nat} {a0 : Nat} {a1 : Nat} {x3 : Int32} : Cl mX1_hears [.ref a0, .ref a1, .null, .int x3] (g, I, P) (some (.int 0)) (g, I, P) := Cl.of (by decide) (Nat.le_of_ble_eq_true rfl) (wX1_hears_0c ⟨rfl, rfl⟩)
