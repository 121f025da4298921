/-! ===== rules of the heap, of returns and of entries ===== -/
/-- the cell at a is of kind c -/
def zo (h : zH) (a c : Nat) : Prop := a < h.1.1 ∧ h.1.2.1 a = c
theorem z_hts {b : Nat} {D : va_G} {dT : Nat → ClassId} {ak : Nat → Option Nat} {av : Nat → Nat} {s : State} {args : Array Value} (hV : zV b D dT ak av s) : ∀ w ∈ zGW, w.before args s = true := fun w hw => hV.2.1 w hw args
theorem zE_obj {dT : Nat → ClassId} {b : Nat} {h : zH} {a c : Nat} (ha : zo h a c) (hc : c < 13) : (zWs dT b h)[a]? = some (b + a, .inr (c, zFs b h a)) := by
  obtain ⟨h1, h2⟩ := ha
  subst h2
  rw [zWs_at h1]
  simp [zE, hc]
theorem zE_ints {dT : Nat → ClassId} {b : Nat} {h : zH} {a c : Nat} (ha : zo h a c) (hc : 13 ≤ c) (hc2 : c < 15) : (zWs dT b h)[a]? = some (b + a, .inl (dT c, h.1.2.2 a, .inl (h.2.1 a))) := by
  obtain ⟨h1, h2⟩ := ha
  subst h2
  rw [zWs_at h1]
  simp [zE, Nat.not_lt.mpr hc, hc2]
theorem zE_refs {dT : Nat → ClassId} {b : Nat} {h : zH} {a c : Nat} (ha : zo h a c) (hc : 15 ≤ c) : (zWs dT b h)[a]? = some (b + a, .inl (dT c, h.1.2.2 a, .inr (.inr (.inr (.inr (fun k => (h.2.2 a k).map (fun j => b + j))))))) := by
  obtain ⟨h1, h2⟩ := ha
  subst h2
  rw [zWs_at h1]
  have e1 : ¬ h.1.2.1 a < 13 := by omega
  have e2 : ¬ h.1.2.1 a < 15 := by omega
  simp only [zE, e1, e2, if_false]
theorem zFs_atI {b : Nat} {h : zH} {a c k : Nat} (ha : zo h a c) (hk : k < zN c) (hr : zRef c k = false) : (zFs b h a)[k]? = some (.int (h.2.1 a k)) := by
  obtain ⟨h1, h2⟩ := ha
  subst h2
  simp [zFs, hk, hr]
theorem zFs_atP {b : Nat} {h : zH} {a c k : Nat} (ha : zo h a c) (hk : k < zN c) (hr : zRef c k = true) : (zFs b h a)[k]? = some (va_rf ((h.2.2 a k).map (fun j => b + j))) := by
  obtain ⟨h1, h2⟩ := ha
  subst h2
  simp [zFs, hk, hr]
theorem zFs_len {b : Nat} {h : zH} {a c : Nat} (ha : zo h a c) : (zFs b h a).length = zN c := by
  obtain ⟨h1, h2⟩ := ha
  subst h2
  simp [zFs]
section ZH
variable {X : Option (Nat × (Nat → Int32))} {M : zM} {u v pc : Nat} {lv : List (Nat × Value)} {st : List Value} {h : zH} {r : Option Value} {h' : zH}
theorem z_same {s : State} {c k : Nat} (hc : c < 13) (hk : k < zN c) : ∀ x, s.fieldFound? (zTb c k).1 (zTb c k).2.1 (zTb c k).2.2.1 = some x → s.fieldFound? (zRn c) (zTb c k).2.1 (zTb c k).2.2.1 = some x := by
  intro x hx
  rw [zOwn_ok hc k hk] at hx
  exact hx
theorem z_getI {a c idx k : Nat} (hd : decode M.2.1 pc = .ok (.getfield idx, 3)) (hl : Cond.fieldLink M.1.cls idx (zRn c) (zTb c k).2.1 (zTb c k).2.2.1 ∈ zGW) (hc : c < 13) (hk : k < zN c) (hr : zRef c k = false) (ha : zo h a c) (kk : Zt X M u v (pc + 3) lv (.int (h.2.1 a k) :: st) h r h') : Zt X M u v pc lv (.ref a :: st) h r h' := by
  intro l b D dT ak av p e R s m args below meth c0 H locs ls F P L
  obtain ⟨hx, hb, hml, hret, hlocks, hname, hown, hV, hbs, hroom, hX⟩ := id F
  exact va_get hx hb (z_hts hV) (zWs_in hc) hown hV.1 P.2.1 a (zE_obj ha hc) (zCl_at hc) k hk (z_hts hV _ hl) (z_same hc hk) (zFs_atI ha hk hr) hd (kk l b D dT ak av p e R s m args below meth c0 H locs ls F P L)
theorem z_getP {a c idx k : Nat} (hd : decode M.2.1 pc = .ok (.getfield idx, 3)) (hl : Cond.fieldLink M.1.cls idx (zRn c) (zTb c k).2.1 (zTb c k).2.2.1 ∈ zGW) (hc : c < 13) (hk : k < zN c) (hr : zRef c k = true) (ha : zo h a c) (kn : h.2.2 a k = none → Zt X M u v (pc + 3) lv (.null :: st) h r h') (ks : ∀ j, h.2.2 a k = some j → Zt X M u v (pc + 3) lv (.ref j :: st) h r h') : Zt X M u v pc lv (.ref a :: st) h r h' := by
  intro l b D dT ak av p e R s m args below meth c0 H locs ls F P L
  obtain ⟨hx, hb, hml, hret, hlocks, hname, hown, hV, hbs, hroom, hX⟩ := id F
  refine va_get hx hb (z_hts hV) (zWs_in hc) hown hV.1 P.2.1 a (zE_obj ha hc) (zCl_at hc) k hk (z_hts hV _ hl) (z_same hc hk) (zFs_atP ha hk hr) hd ?_
  cases hp : h.2.2 a k with
  | none => exact kn hp l b D dT ak av p e R s m args below meth c0 H locs ls F P L
  | some j => exact ks j hp l b D dT ak av p e R s m args below meth c0 H locs ls F P L
/-- a value that a field of kind k of class c may hold -/
def zfit (c k : Nat) (w : Value) : Prop := narrow (zTyF c k) w = w ∧ fits (zTyF c k) w = true
theorem zfit_int {c k : Nat} {x : Int32} (h : zTyF c k = .int) : zfit c k (.int x) := by
  unfold zfit
  rw [h]
  exact ⟨vp_nar_int x, rfl⟩
theorem zfit_bool {c k : Nat} {x : Int32} (h : zTyF c k = .boolean) (hx : x = 0 ∨ x = 1) : zfit c k (.int x) := by
  unfold zfit
  rw [h]
  rcases hx with rfl | rfl <;> decide
theorem zfit_ref {c k : Nat} {o : Option Nat} (h : zRef c k = true) : zfit c k (va_rf o) := by
  unfold zfit
  unfold zRef at h
  cases hty : zTyF c k <;> rw [hty] at h <;> first | (cases h; done) | (cases o <;> exact ⟨rfl, rfl⟩)
/-- a field is written: what the machine does -/
theorem z_put1 {p : Program} {l : Launch} {e : Env} {R : Room} {s : State} {m : MethodId} {args : Array Value} {below : List Frame} {meth : Method} {c0 : Code} {H : Heap} {locs : List Loc} {Q : State → Prop} {b : Nat} {D : va_G} {dT : Nat → ClassId} {ak : Nat → Option Nat} {av : Nat → Nat} {ls : Array Slot} {rest : List Value} {a c idx k : Nat} {w : Value} (F : zFx X M R b D dT ak av p s m args meth c0) (P : zHp b D dT s H locs h) (hd : decode M.2.1 pc = .ok (.putfield idx, 3)) (hl : Cond.fieldLink M.1.cls idx (zRn c) (zTb c k).2.1 (zTb c k).2.2.1 ∈ zGW) (hc : c < 13) (hk : k < zN c) (hf : (zTb c k).2.2.2 = false ∨ (M.1.name = "<init>" ∧ M.1.cls = zRn c)) (hz : zfit c k w) (ha : zo h a c) (kk : ∀ (H1 : Heap) (locs1 : List Loc), H1.size = H.size → va_P D vwCl ((zWs dT b h).set a (b + a, .inr (c, (zFs b h a).set k w))) H1 → va_S (fun q => b ≤ q) s.heap H1 locs1 → W p l e R s m args below meth c0 H1 locs1 u v Q (F0 m (pc + 3) ls rest)) : W p l e R s m args below meth c0 H locs u v Q (F0 m pc ls (w :: .ref (b + a) :: rest)) := by
  obtain ⟨hx, hb, hml, hret, hlocks, hname, hown, hV, hbs, hroom, hX⟩ := id F
  obtain ⟨hsz, hP, hS⟩ := P
  have hts : ∀ w ∈ zGW, w.before args s = true := z_hts hV
  have he := zE_obj (dT := dT) (b := b) ha hc
  have hap := va_apart (own := M.1.cls) hts (zWs_in hc) (zTyF c) (zTyF_ok hc) (zNm_ok hc) hV.1 (zCl_at hc)
  obtain ⟨r', h1, cell, q1, q2, q3, q4⟩ := hP a _ he
  have hr' : r' = (zRn c, zTb c, zN c) := Option.some.inj (h1.symm.trans (zCl_at hc))
  subst hr'
  obtain ⟨hSl, hfc, kC, hkC, hkind⟩ := hV.1.1 c _ (zCl_at hc)
  obtain ⟨cf, kf, fi, f, hi, hsl⟩ := hSl k hk
  have hlay := hts _ (zWs_in hc _ (u_in_lay hk))
  have hst := (u_facts hfc hkC (u_lays hts (zWs_in hc) hk) hi).1
  have hlen : k < (zFs b h a).length := by rw [zFs_len ha]; exact hk
  have fin : ∀ (H1 : Heap), H1[b + a]? = some (cell.setSlot (D.2 c k) w) → H1.size = H.size → (∀ q, q ≠ b + a → H1[q]? = H[q]?) → va_P D vwCl ((zWs dT b h).set a (b + a, .inr (c, (zFs b h a).set k w))) H1 := by
    intro H1 e1 e2 e3
    exact hP.set (zWs_D dT b h) he ⟨_, zCl_at hc, t_OB.to (V := updV (vp_V (zFs b h a)) k w) ⟨_, e1, q2, q3, t_set q4 hap hk w⟩ (fun j _ => vp_updV_set hlen w j)⟩ e3
  by_cases hfin : (zTb c k).2.2.2 = true
  · obtain ⟨hin2, hdecl⟩ : M.1.name = "<init>" ∧ M.1.cls = zRn c := by
      rcases hf with q | q
      · rw [hfin] at q; cases q
      · exact q
    unfold u_lay at hlay
    rw [if_pos hfin] at hlay
    have hcf : m.cls = cf := by
      obtain ⟨_, _, c', _, _, _, -, -, hf', -, -, -, hown2, -⟩ := Cond.laysFinal_spec hlay
      have e1 : c' = cf := by have := hi.symm.trans hf'; simp at this; exact this.1.symm
      rw [zOwn_ok hc k hk, ← hdecl] at hown2
      rw [← e1]; exact Option.some.inj (hown.symm.trans hown2)
    have h6 := u_fits hfc hkC hkind (Or.inr hlay) hi (zTyF_ok hc k hk) hz.1 hz.2
    refine W.putFinK hx hb hown (z_hts hV _ hl) (z_same hc hk _ hi) hst hcf (hname.trans hin2) (by rw [q2]; exact h6) q1 q3 (by rw [hsl]; exact k2_hasslot (q4 k hk)) rfl rfl hd fun H' e1 e2 e3 => ?_
    rw [hsl] at e1 ⊢
    exact kk H' _ e2 (fin H' e1 e2 e3) (hS.put e2 e3 (Nat.le_add_right b a))
  · unfold u_lay at hlay
    rw [if_neg hfin] at hlay
    have h6 := u_store hfc hkC hkind hlay hi (zTyF_ok hc k hk) hz.1 hz.2
    refine W.putK hx hb (f := f) ⟨hown, z_hts hV _ hl, ⟨_, _, _, z_same hc hk _ hi⟩, hst⟩ (by rw [q2]; exact h6) q1 q3 (by rw [hsl]; exact k2_hasslot (q4 k hk)) rfl rfl hd fun H' e1 e2 e3 => ?_
    rw [hsl] at e1 ⊢
    exact kk H' _ e2 (fin H' e1 e2 e3) (hS.put e2 e3 (Nat.le_add_right b a))
theorem z_putI {g : zG} {I : Nat → Nat → Int32} {Q : Nat → Nat → Option Nat} {a c idx k : Nat} {x : Int32} (hd : decode M.2.1 pc = .ok (.putfield idx, 3)) (hl : Cond.fieldLink M.1.cls idx (zRn c) (zTb c k).2.1 (zTb c k).2.2.1 ∈ zGW) (hc : c < 13) (hk : k < zN c) (hr : zRef c k = false) (hf : (zTb c k).2.2.2 = false ∨ (M.1.name = "<init>" ∧ M.1.cls = zRn c)) (hz : zfit c k (.int x)) (ha : zo (g, I, Q) a c) (kk : Zt X M u v (pc + 3) lv st (g, zU I a k x, Q) r h') : Zt X M u v pc lv (.int x :: .ref a :: st) (g, I, Q) r h' := by
  intro l b D dT ak av p e R s m args below meth c0 H locs ls F P L
  refine z_put1 (w := .int x) F P hd hl hc hk hf hz ha fun H1 locs1 hs hP hS => ?_
  rw [zWs_setFI (g := g) (I := I) (P := Q) ha.2 hc hr] at hP
  exact kk l b D dT ak av p e R s m args below meth c0 H1 locs1 ls F ⟨hs.trans P.1, hP, hS⟩ L
theorem z_putP {g : zG} {I : Nat → Nat → Int32} {Q : Nat → Nat → Option Nat} {a c idx k j : Nat} (hd : decode M.2.1 pc = .ok (.putfield idx, 3)) (hl : Cond.fieldLink M.1.cls idx (zRn c) (zTb c k).2.1 (zTb c k).2.2.1 ∈ zGW) (hc : c < 13) (hk : k < zN c) (hr : zRef c k = true) (hf : (zTb c k).2.2.2 = false ∨ (M.1.name = "<init>" ∧ M.1.cls = zRn c)) (ha : zo (g, I, Q) a c) (kk : Zt X M u v (pc + 3) lv st (g, I, zU Q a k (some j)) r h') : Zt X M u v pc lv (.ref j :: .ref a :: st) (g, I, Q) r h' := by
  intro l b D dT ak av p e R s m args below meth c0 H locs ls F P L
  refine z_put1 (w := va_rf ((some j).map (fun j => b + j))) F P hd hl hc hk hf (zfit_ref hr) ha fun H1 locs1 hs hP hS => ?_
  rw [zWs_setFP (g := g) (I := I) (P := Q) ha.2 hc hr] at hP
  exact kk l b D dT ak av p e R s m args below meth c0 H1 locs1 ls F ⟨hs.trans P.1, hP, hS⟩ L
theorem z_iald {a : Nat} {i : Int32} (hd : decode M.2.1 pc = .ok (.iaload, 1)) (ha : zo h a 13) (hi : vp_in i (h.1.2.2 a)) (kk : Zt X M u v (pc + 1) lv (.int (h.2.1 a i.toNatClampNeg) :: st) h r h') : Zt X M u v pc lv (.int i :: .ref a :: st) h r h' := by
  intro l b D dT ak av p e R s m args below meth c0 H locs ls F P L
  obtain ⟨hx, hb, hml, hret, hlocks, hname, hown, hV, hbs, hroom, hX⟩ := id F
  exact va_iald hx hb hV.1 P.2.1 a 0 (zE_ints ha (by decide) (by decide)) (zTys_at dT (t := 13) (by decide) (by decide)) hi hd (kk l b D dT ak av p e R s m args below meth c0 H locs ls F P L)
theorem z_zald {a : Nat} {i : Int32} (hd : decode M.2.1 pc = .ok (.baload, 1)) (ha : zo h a 14) (hi : vp_in i (h.1.2.2 a)) (kk : Zt X M u v (pc + 1) lv (.int (h.2.1 a i.toNatClampNeg) :: st) h r h') : Zt X M u v pc lv (.int i :: .ref a :: st) h r h' := by
  intro l b D dT ak av p e R s m args below meth c0 H locs ls F P L
  obtain ⟨hx, hb, hml, hret, hlocks, hname, hown, hV, hbs, hroom, hX⟩ := id F
  exact va_zald hx hb hV.1 P.2.1 a 1 (zE_ints ha (by decide) (by decide)) (zTys_at dT (t := 14) (by decide) (by decide)) hi hd (kk l b D dT ak av p e R s m args below meth c0 H locs ls F P L)
theorem zTy_obj {c : Nat} (h1 : 15 ≤ c) : ∃ C, zTy c = .object C := by
  unfold zTy
  split <;> first | exact ⟨_, rfl⟩ | omega
theorem z_aald {a c : Nat} {i : Int32} (hd : decode M.2.1 pc = .ok (.aaload, 1)) (ha : zo h a c) (h1 : 15 ≤ c) (h2 : c < 20) (hi : vp_in i (h.1.2.2 a)) (kn : h.2.2 a i.toNatClampNeg = none → Zt X M u v (pc + 1) lv (.null :: st) h r h') (ks : ∀ j, h.2.2 a i.toNatClampNeg = some j → Zt X M u v (pc + 1) lv (.ref j :: st) h r h') : Zt X M u v pc lv (.int i :: .ref a :: st) h r h' := by
  intro l b D dT ak av p e R s m args below meth c0 H locs ls F P L
  obtain ⟨hx, hb, hml, hret, hlocks, hname, hown, hV, hbs, hroom, hX⟩ := id F
  obtain ⟨C, hC⟩ := zTy_obj h1
  refine va_aldq hx hb hV.1 P.2.1 a (c - 13) (zE_refs ha h1) ((zTys_at dT (t := c) (by omega) h2).trans (by rw [hC])) hi hd ?_
  cases hp : h.2.2 a i.toNatClampNeg with
  | none => exact kn hp l b D dT ak av p e R s m args below meth c0 H locs ls F P L
  | some j => exact ks j hp l b D dT ak av p e R s m args below meth c0 H locs ls F P L
theorem z_alen {a c : Nat} (hd : decode M.2.1 pc = .ok (.arraylength, 1)) (ha : zo h a c) (h1 : 13 ≤ c) (h2 : c < 20) (kk : Zt X M u v (pc + 1) lv (.int (Int32.ofNat (h.1.2.2 a)) :: st) h r h') : Zt X M u v pc lv (.ref a :: st) h r h' := by
  intro l b D dT ak av p e R s m args below meth c0 H locs ls F P L
  obtain ⟨hx, hb, hml, hret, hlocks, hname, hown, hV, hbs, hroom, hX⟩ := id F
  by_cases h15 : c < 15
  · exact va_alen hx hb hV.1 P.2.1 a (c - 13) (zE_ints ha h1 h15) (zTys_at dT (t := c) h1 h2) rfl hd (kk l b D dT ak av p e R s m args below meth c0 H locs ls F P L)
  · exact va_alen hx hb hV.1 P.2.1 a (c - 13) (zE_refs ha (by omega)) (zTys_at dT (t := c) h1 h2) rfl hd (kk l b D dT ak av p e R s m args below meth c0 H locs ls F P L)
theorem z_iast {g : zG} {I : Nat → Nat → Int32} {Q : Nat → Nat → Option Nat} {a : Nat} {i x : Int32} (hd : decode M.2.1 pc = .ok (.iastore, 1)) (ha : zo (g, I, Q) a 13) (hi : vp_in i (g.2.2 a)) (kk : Zt X M u v (pc + 1) lv st (g, zU I a i.toNatClampNeg x, Q) r h') : Zt X M u v pc lv (.int x :: .int i :: .ref a :: st) (g, I, Q) r h' := by
  intro l b D dT ak av p e R s m args below meth c0 H locs ls F P L
  obtain ⟨hx, hb, hml, hret, hlocks, hname, hown, hV, hbs, hroom, hX⟩ := id F
  have he := zE_ints (dT := dT) (b := b) ha (by decide) (by decide)
  refine W.iast hx hb (P.2.1 a _ he) ((hV.1.2 0 _ (zTys_at dT (t := 13) (by decide) (by decide))).1 (g.2.2 a) (fun j => .int (I a j))) (fun q => by cases q) (by show ¬ (i < 0 ∨ (arrV _ _ _).slots.size ≤ _); rw [arrV_size]; exact hi) rfl rfl hd fun H1 e1 z oq => ?_
  have hP : va_P D vwCl ((zWs dT b (g, I, Q)).set a (b + a, .inl (dT 13, g.2.2 a, .inl (upd (I a) i.toNatClampNeg x)))) H1 := by
    refine P.2.1.set (zWs_D dT b _) he ?_ oq
    show H1[b + a]? = some (vp_cell _ _)
    rw [e1, vp_cell_i, vp_cell_i, arrV_store]
    congr 2
    funext q
    by_cases hq : q = i.toNatClampNeg
    · subst hq
      simp [updV, upd]
    · simp [updV, upd, hq]
  rw [zWs_setAI ha.2 (by decide) (by decide)] at hP
  exact kk l b D dT ak av p e R s m args below meth c0 H1 _ ls F ⟨z.trans P.1, hP, P.2.2.put z oq (Nat.le_add_right b a)⟩ L
theorem z_zast {g : zG} {I : Nat → Nat → Int32} {Q : Nat → Nat → Option Nat} {a : Nat} {i x : Int32} (hd : decode M.2.1 pc = .ok (.bastore, 1)) (ha : zo (g, I, Q) a 14) (hi : vp_in i (g.2.2 a)) (hxb : x = 0 ∨ x = 1) (kk : Zt X M u v (pc + 1) lv st (g, zU I a i.toNatClampNeg x, Q) r h') : Zt X M u v pc lv (.int x :: .int i :: .ref a :: st) (g, I, Q) r h' := by
  intro l b D dT ak av p e R s m args below meth c0 H locs ls F P L
  obtain ⟨hx, hb, hml, hret, hlocks, hname, hown, hV, hbs, hroom, hX⟩ := id F
  have he := zE_ints (dT := dT) (b := b) ha (by decide) (by decide)
  refine W.zast hx hb (P.2.1 a _ he) ((hV.1.2 1 _ (zTys_at dT (t := 14) (by decide) (by decide))).1 (g.2.2 a) (fun j => .int (I a j))) (fun q => by cases q) (by show ¬ (i < 0 ∨ (arrV _ _ _).slots.size ≤ _); rw [arrV_size]; exact hi) rfl rfl hd fun H1 e1 z oq => ?_
  have hnx : narrow .boolean (.int x) = .int x := by rcases hxb with rfl | rfl <;> decide
  rw [hnx] at e1
  have hP : va_P D vwCl ((zWs dT b (g, I, Q)).set a (b + a, .inl (dT 14, g.2.2 a, .inl (upd (I a) i.toNatClampNeg x)))) H1 := by
    refine P.2.1.set (zWs_D dT b _) he ?_ oq
    show H1[b + a]? = some (vp_cell _ _)
    rw [e1, vp_cell_i, vp_cell_i, arrV_store]
    congr 2
    funext q
    by_cases hq : q = i.toNatClampNeg
    · subst hq
      simp [updV, upd]
    · simp [updV, upd, hq]
  rw [zWs_setAI ha.2 (by decide) (by decide)] at hP
  exact kk l b D dT ak av p e R s m args below meth c0 H1 _ ls F ⟨z.trans P.1, hP, P.2.2.put z oq (Nat.le_add_right b a)⟩ L
theorem z_aast {g : zG} {I : Nat → Nat → Int32} {Q : Nat → Nat → Option Nat} {a j t cv : Nat} {i : Int32} (hd : decode M.2.1 pc = .ok (.aastore, 1)) (ha : zo (g, I, Q) a t) (ht : 15 ≤ t ∧ t < 20) (hcv : cv < 13) (hty : zTy t = .object (zRn cv)) (hj : zo (g, I, Q) j cv) (hi : vp_in i (g.2.2 a)) (kk : Zt X M u v (pc + 1) lv st (g, I, zU Q a i.toNatClampNeg (some j)) r h') : Zt X M u v pc lv (.ref j :: .int i :: .ref a :: st) (g, I, Q) r h' := by
  intro l b D dT ak av p e R s m args below meth c0 H locs ls F P L
  obtain ⟨hx, hb, hml, hret, hlocks, hname, hown, hV, hbs, hroom, hX⟩ := id F
  have he := zE_refs (dT := dT) (b := b) ha ht.1
  have hev := zE_obj (dT := dT) (b := b) hj hcv
  have hty2 := (zTys_at dT (t := t) (by omega) ht.2).trans (by rw [hty])
  have hlt : i.toNatClampNeg < g.2.2 a := Nat.not_le.mp fun q => hi (Or.inr q)
  have h0 : ¬ i < 0 := fun q => hi (Or.inl q)
  obtain ⟨r', hr', cellV, g1, g2, g3, -⟩ := P.2.1 j _ hev
  have hcls := (hV.1.1 cv _ (zCl_at hcv)).2
  obtain ⟨kA, comp, k1, k2, k3, -⟩ := (hV.1.2 (t - 13) _ hty2).2
  have hcomp : comp = D.1 cv := Option.some.inj (k3.symm.trans hcls.1)
  subst hcomp
  have hasg := va_assign hcls
  obtain ⟨kC, hkC, -⟩ := hcls.2
  refine W.aast hx hb (P.2.1 a _ he) (fun q h => by cases h) (fun h => by cases h) k1 k2 rfl hkC ⟨h0, by show _ < (arrV _ _ _).slots.size; rw [arrV_size]; exact hlt⟩ g1 (fun q h => by rw [g3] at h; cases h) (by rw [g2]; exact hkC) (by rw [g2]; exact hasg) rfl rfl hd fun H1 e1 z oq => ?_
  have hP : va_P D vwCl ((zWs dT b (g, I, Q)).set a (b + a, .inl (dT t, g.2.2 a, .inr (.inr (.inr (.inr (va_up (fun j => (Q a j).map (fun j => b + j)) i.toNatClampNeg (some (b + j))))))))) H1 := by
    refine P.2.1.set (zWs_D dT b _) he ?_ oq
    show H1[b + a]? = some (vp_cell _ _)
    rw [e1, vp_cell_q, vp_cell_q, arrV_store]
    congr 2
    funext q
    by_cases hq : q = i.toNatClampNeg
    · subst hq
      simp [updV, va_up, va_rf]
    · simp [updV, va_up, hq]
  rw [zWs_setAP (g := g) (I := I) (P := Q) ha.2 ht.1] at hP
  exact kk l b D dT ak av p e R s m args below meth c0 H1 _ ls F ⟨z.trans P.1, hP, P.2.2.put z oq (Nat.le_add_right b a)⟩ L
end ZH
