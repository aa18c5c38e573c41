/-! rules that write rows, make cells, call -/
section STORES
variable {d kc ks : Nat} {M : Mt} {k pc : Nat} {z : List Nat} {ls : List (Option Value)} {st : List Value} {S : Sg} {r : Option Value} {S' : Sg}
theorem Rn.iast {a n : Nat} {f : Nat → Int32} {i : Int32} {x : Int32} (h : M.2.2.2.2.2[k]? = some (pc, .iastore, 1, z)) (h4 : 4 ≤ a) (ha : S[a]? = some (.inl (.int, n, .inl (f)))) (hin : vp_in i n) (hn : Rn d kc ks M (k + 1) ls st (S.set a (.inl (.int, n, .inl (upd f i.toNatClampNeg x)))) r S') : Rn d kc ks M k ls (.int x :: .int i :: .ref a :: st) S r S' := by
  refine ⟨(xlow.st h4).tr hn.1, ?_⟩
  intro hM g p l e R s m args below meth c Z F E H locs cells slots la hP hS hc hs hl
  obtain ⟨hd, hL, e1, e2⟩ := hM.entry h
  have e2 := e2 rfl
  rw [e1]
  show W p l e R s m args below meth c H locs cells slots Z (F0 m pc la (.int x :: .int i :: .ref (xa g a) :: st.map (xv g)))
  rw [xa_new h4 (hP.lt ha)]
  refine W.iast F.1 F.2.1 (hP.P (a - 4) _ (xw_get h4 ha)) ((F.2.2.2.2.2.1.1.2 0 _ rfl).1 n _) (fun q => by cases q) (by show ¬ (i < 0 ∨ (arrV _ _ _).slots.size ≤ _); rw [arrV_size]; exact hin) rfl rfl hd fun H1 e3 z1 oq => ?_
  have hat : va_at g.2.2.2.1 vwCl (g.1 + (a - 4), xe g (.inl (.int, n, .inl (upd f i.toNatClampNeg x)))) H1 := by
    show H1[g.1 + (a - 4)]? = some (vp_cell _ _)
    refine e3.trans ?_
    show some ((arrV _ n (fun j => .int (f j))).setSlot _ _) = some (arrV _ n (fun j => .int (upd f i.toNatClampNeg x j)))
    rw [arrV_store]
    congr 2
    funext q
    by_cases hq : q = i.toNatClampNeg
    · subst hq
      simp [updV, upd]
      try rfl
    · simp [updV, upd, hq]
  have hn := hn.2 hM g p l e R s m args below meth c Z (F.eqS (set_low h4)) E H1 _ cells slots la (hP.upd h4 ha z1 oq hat) (hS.put (k := i.toNatClampNeg) z1 oq (Nat.le_add_right _ _)) hc hs hl
  rw [e2] at hn
  exact hn
theorem Rn.bast {a n : Nat} {f : Nat → Int32} {i : Int32} {x : Int32} (h : M.2.2.2.2.2[k]? = some (pc, .bastore, 1, z)) (h4 : 4 ≤ a) (ha : S[a]? = some (.inl (.byte, n, .inl (f)))) (hin : vp_in i n) (hn : Rn d kc ks M (k + 1) ls st (S.set a (.inl (.byte, n, .inl (upd f i.toNatClampNeg (vp_nar .byte x))))) r S') : Rn d kc ks M k ls (.int x :: .int i :: .ref a :: st) S r S' := by
  refine ⟨(xlow.st h4).tr hn.1, ?_⟩
  intro hM g p l e R s m args below meth c Z F E H locs cells slots la hP hS hc hs hl
  obtain ⟨hd, hL, e1, e2⟩ := hM.entry h
  have e2 := e2 rfl
  rw [e1]
  show W p l e R s m args below meth c H locs cells slots Z (F0 m pc la (.int x :: .int i :: .ref (xa g a) :: st.map (xv g)))
  rw [xa_new h4 (hP.lt ha)]
  refine W.bast F.1 F.2.1 (hP.P (a - 4) _ (xw_get h4 ha)) ((F.2.2.2.2.2.1.1.2 1 _ rfl).1 n _) (fun q => by cases q) (by show ¬ (i < 0 ∨ (arrV _ _ _).slots.size ≤ _); rw [arrV_size]; exact hin) rfl rfl hd fun H1 e3 z1 oq => ?_
  have hat : va_at g.2.2.2.1 vwCl (g.1 + (a - 4), xe g (.inl (.byte, n, .inl (upd f i.toNatClampNeg (vp_nar .byte x))))) H1 := by
    show H1[g.1 + (a - 4)]? = some (vp_cell _ _)
    refine e3.trans ?_
    show some ((arrV _ n (fun j => .int (f j))).setSlot _ _) = some (arrV _ n (fun j => .int (upd f i.toNatClampNeg (vp_nar .byte x) j)))
    rw [arrV_store]
    congr 2
    funext q
    by_cases hq : q = i.toNatClampNeg
    · subst hq
      simp [updV, upd, vp_nar]
      try rfl
    · simp [updV, upd, vp_nar, hq]
  have hn := hn.2 hM g p l e R s m args below meth c Z (F.eqS (set_low h4)) E H1 _ cells slots la (hP.upd h4 ha z1 oq hat) (hS.put (k := i.toNatClampNeg) z1 oq (Nat.le_add_right _ _)) hc hs hl
  rw [e2] at hn
  exact hn
theorem Rn.zast {a n : Nat} {f : Nat → Int32} {i : Int32} {x : Int32} (h : M.2.2.2.2.2[k]? = some (pc, .bastore, 1, z)) (h4 : 4 ≤ a) (ha : S[a]? = some (.inl (.boolean, n, .inl (f)))) (hin : vp_in i n) (hn : Rn d kc ks M (k + 1) ls st (S.set a (.inl (.boolean, n, .inl (upd f i.toNatClampNeg (vp_nar .boolean x))))) r S') : Rn d kc ks M k ls (.int x :: .int i :: .ref a :: st) S r S' := by
  refine ⟨(xlow.st h4).tr hn.1, ?_⟩
  intro hM g p l e R s m args below meth c Z F E H locs cells slots la hP hS hc hs hl
  obtain ⟨hd, hL, e1, e2⟩ := hM.entry h
  have e2 := e2 rfl
  rw [e1]
  show W p l e R s m args below meth c H locs cells slots Z (F0 m pc la (.int x :: .int i :: .ref (xa g a) :: st.map (xv g)))
  rw [xa_new h4 (hP.lt ha)]
  refine W.zast F.1 F.2.1 (hP.P (a - 4) _ (xw_get h4 ha)) ((F.2.2.2.2.2.1.1.2 2 _ rfl).1 n _) (fun q => by cases q) (by show ¬ (i < 0 ∨ (arrV _ _ _).slots.size ≤ _); rw [arrV_size]; exact hin) rfl rfl hd fun H1 e3 z1 oq => ?_
  have hat : va_at g.2.2.2.1 vwCl (g.1 + (a - 4), xe g (.inl (.boolean, n, .inl (upd f i.toNatClampNeg (vp_nar .boolean x))))) H1 := by
    show H1[g.1 + (a - 4)]? = some (vp_cell _ _)
    refine e3.trans ?_
    show some ((arrV _ n (fun j => .int (f j))).setSlot _ _) = some (arrV _ n (fun j => .int (upd f i.toNatClampNeg (vp_nar .boolean x) j)))
    rw [arrV_store]
    congr 2
    funext q
    by_cases hq : q = i.toNatClampNeg
    · subst hq
      simp [updV, upd, vp_nar]
      try rfl
    · simp [updV, upd, vp_nar, hq]
  have hn := hn.2 hM g p l e R s m args below meth c Z (F.eqS (set_low h4)) E H1 _ cells slots la (hP.upd h4 ha z1 oq hat) (hS.put (k := i.toNatClampNeg) z1 oq (Nat.le_add_right _ _)) hc hs hl
  rw [e2] at hn
  exact hn
theorem Rn.last {a n : Nat} {f : Nat → Int64} {i : Int32} {x : Int64} (h : M.2.2.2.2.2[k]? = some (pc, .lastore, 1, z)) (h4 : 4 ≤ a) (ha : S[a]? = some (.inl (.long, n, .inr (.inl (f))))) (hin : vp_in i n) (hn : Rn d kc ks M (k + 1) ls st (S.set a (.inl (.long, n, .inr (.inl (va_up f i.toNatClampNeg x))))) r S') : Rn d kc ks M k ls (.long x :: .int i :: .ref a :: st) S r S' := by
  refine ⟨(xlow.st h4).tr hn.1, ?_⟩
  intro hM g p l e R s m args below meth c Z F E H locs cells slots la hP hS hc hs hl
  obtain ⟨hd, hL, e1, e2⟩ := hM.entry h
  have e2 := e2 rfl
  rw [e1]
  show W p l e R s m args below meth c H locs cells slots Z (F0 m pc la (.long x :: .int i :: .ref (xa g a) :: st.map (xv g)))
  rw [xa_new h4 (hP.lt ha)]
  refine W.last F.1 F.2.1 (hP.P (a - 4) _ (xw_get h4 ha)) ((F.2.2.2.2.2.1.1.2 3 _ rfl).1 n _) (fun q => by cases q) (by show ¬ (i < 0 ∨ (arrV _ _ _).slots.size ≤ _); rw [arrV_size]; exact hin) rfl rfl hd fun H1 e3 z1 oq => ?_
  have hat : va_at g.2.2.2.1 vwCl (g.1 + (a - 4), xe g (.inl (.long, n, .inr (.inl (va_up f i.toNatClampNeg x))))) H1 := by
    show H1[g.1 + (a - 4)]? = some (vp_cell _ _)
    refine e3.trans ?_
    show some ((arrV _ n (fun j => .long (f j))).setSlot _ _) = some (arrV _ n (fun j => .long (va_up f i.toNatClampNeg x j)))
    rw [arrV_store]
    congr 2
    funext q
    by_cases hq : q = i.toNatClampNeg
    · subst hq
      simp [updV, va_up]
      try rfl
    · simp [updV, va_up, hq]
  have hn := hn.2 hM g p l e R s m args below meth c Z (F.eqS (set_low h4)) E H1 _ cells slots la (hP.upd h4 ha z1 oq hat) (hS.put (k := i.toNatClampNeg) z1 oq (Nat.le_add_right _ _)) hc hs hl
  rw [e2] at hn
  exact hn
/-- rows of references: which class's -/
def tR (ty : FieldType) : Nat := if ty = .object "BoughtKin$Script" then 4 else 5
theorem xt_R {g : Gw} {C : String} (hC : C = "BoughtKin$Script" ∨ C = "BoughtKin$Country") : ∃ t0 : Nat, (xt g)[t0]? = some (g.2.2.2.2 (.object C), .object C) := by
  rcases hC with rfl | rfl
  · exact ⟨4, rfl⟩
  · exact ⟨5, rfl⟩
theorem Rn.aald {a n : Nat} {C : String} {f : Nat → Option Nat} {i : Int32} (h : M.2.2.2.2.2[k]? = some (pc, .aaload, 1, z)) (h4 : 4 ≤ a) (hC : C = "BoughtKin$Script" ∨ C = "BoughtKin$Country") (ha : S[a]? = some (.inl (.object C, n, .inr (.inr (.inr (.inr f)))))) (hin : vp_in i n) (hn : Rn d kc ks M (k + 1) ls (va_rf (f i.toNatClampNeg) :: st) S r S') : Rn d kc ks M k ls (.int i :: .ref a :: st) S r S' := by
  refine ⟨hn.1, ?_⟩
  intro hM g p l e R s m args below meth c Z F E H locs cells slots la hP hS hc hs hl
  obtain ⟨hd, hL, e1, e2⟩ := hM.entry h
  have e2 := e2 rfl
  have hn := hn.2 hM g p l e R s m args below meth c Z F E H locs cells slots la hP hS hc hs hl
  rw [e2] at hn
  rw [e1]
  obtain ⟨t0, ht⟩ := xt_R (g := g) hC
  show W p l e R s m args below meth c H locs cells slots Z (F0 m pc la (.int i :: .ref (xa g a) :: st.map (xv g)))
  rw [xa_new h4 (hP.lt ha)]
  have hv : xv g (va_rf (f i.toNatClampNeg)) = va_rf ((f i.toNatClampNeg).map (xa g)) := by cases f i.toNatClampNeg <;> rfl
  have hn : W p l e R s m args below meth c H locs cells slots Z (F0 m (pc + 1) la (xv g (va_rf (f i.toNatClampNeg)) :: st.map (xv g))) := hn
  rw [hv] at hn
  exact va_aldq F.1 F.2.1 F.2.2.2.2.2.1.1 hP.P (a - 4) t0 (n := n) (f := fun j => (f j).map (xa g)) (xw_get h4 ha) ht hin hd hn
theorem Rn.aast {a n v ci : Nat} {q : vw_C} {vs : List Value} {f : Nat → Option Nat} {i : Int32} (h : M.2.2.2.2.2[k]? = some (pc, .aastore, 1, z)) (h4 : 4 ≤ a) (hC : q.1 = "BoughtKin$Script" ∨ q.1 = "BoughtKin$Country") (ha : S[a]? = some (.inl (.object q.1, n, .inr (.inr (.inr (.inr f)))))) (hv4 : 4 ≤ v) (hv : S[v]? = some (.inr (ci, vs))) (hq : vwCl[ci]? = some q) (hin : vp_in i n) (hn : Rn d kc ks M (k + 1) ls st (S.set a (.inl (.object q.1, n, .inr (.inr (.inr (.inr (va_up f i.toNatClampNeg (some v)))))))) r S') : Rn d kc ks M k ls (.ref v :: .int i :: .ref a :: st) S r S' := by
  refine ⟨(xlow.st h4).tr hn.1, ?_⟩
  intro hM g p l e R s m args below meth c Z F E H locs cells slots la hP hS hc hs hl
  obtain ⟨hd, hL, e1, e2⟩ := hM.entry h
  have e2 := e2 rfl
  rw [e1]
  obtain ⟨t0, ht⟩ := xt_R (g := g) hC
  have hK := F.2.2.2.2.2.1.1
  have hlt : i.toNatClampNeg < n := in_lt hin
  have h0 : ¬ i < 0 := fun q => hin (Or.inl q)
  show W p l e R s m args below meth c H locs cells slots Z (F0 m pc la (.ref (xa g v) :: .int i :: .ref (xa g a) :: st.map (xv g)))
  rw [xa_new h4 (hP.lt ha), xa_new hv4 (hP.lt hv)]
  obtain ⟨r', hr', cellV, g1, g2, g3, -⟩ := hP.P (v - 4) _ (xw_get hv4 hv)
  have hcls := (hK.1 ci q hq).2
  obtain ⟨kA, comp, k1, k2, k3, -⟩ := (hK.2 t0 _ ht).2
  have hcomp : comp = g.2.2.2.1.1 ci := Option.some.inj (k3.symm.trans hcls.1)
  subst hcomp
  obtain ⟨kC, hkC, -⟩ := hcls.2
  refine W.aast F.1 F.2.1 (hP.P (a - 4) _ (xw_get h4 ha)) (fun q h => by cases h) (fun h => by cases h) k1 k2 rfl hkC ⟨h0, by show _ < (arrV _ _ _).slots.size; rw [arrV_size]; exact hlt⟩ g1 (fun q h => by rw [g3] at h; cases h) (by rw [g2]; exact hkC) (by rw [g2]; exact va_assign hcls) rfl rfl hd fun H1 e3 z1 oq => ?_
  have hat : va_at g.2.2.2.1 vwCl (g.1 + (a - 4), xe g (.inl (.object q.1, n, .inr (.inr (.inr (.inr (va_up f i.toNatClampNeg (some v)))))))) H1 := by
    show H1[g.1 + (a - 4)]? = some (vp_cell _ _)
    refine e3.trans ?_
    show some ((arrV _ n (fun j => va_rf ((f j).map (xa g)))).setSlot _ _) = some (arrV _ n (fun j => va_rf ((va_up f i.toNatClampNeg (some v) j).map (xa g))))
    rw [arrV_store]
    congr 2
    funext j
    by_cases hq : j = i.toNatClampNeg
    · subst hq
      simp [updV, va_up, va_rf, xa_new hv4 (hP.lt hv)]
    · simp [updV, va_up, hq]
  have hn := hn.2 hM g p l e R s m args below meth c Z (F.eqS (set_low h4)) E H1 _ cells slots la (hP.upd h4 ha z1 oq hat) (hS.put (k := i.toNatClampNeg) z1 oq (Nat.le_add_right _ _)) hc hs hl
  rw [e2] at hn
  exact hn
theorem Rn.aastN {a n : Nat} {C : String} {f : Nat → Option Nat} {i : Int32} (h : M.2.2.2.2.2[k]? = some (pc, .aastore, 1, z)) (h4 : 4 ≤ a) (hC : C = "BoughtKin$Script" ∨ C = "BoughtKin$Country") (ha : S[a]? = some (.inl (.object C, n, .inr (.inr (.inr (.inr f)))))) (hin : vp_in i n) (hn : Rn d kc ks M (k + 1) ls st (S.set a (.inl (.object C, n, .inr (.inr (.inr (.inr (va_up f i.toNatClampNeg none))))))) r S') : Rn d kc ks M k ls (.null :: .int i :: .ref a :: st) S r S' := by
  refine ⟨(xlow.st h4).tr hn.1, ?_⟩
  intro hM g p l e R s m args below meth c Z F E H locs cells slots la hP hS hc hs hl
  obtain ⟨hd, hL, e1, e2⟩ := hM.entry h
  have e2 := e2 rfl
  rw [e1]
  obtain ⟨t0, ht⟩ := xt_R (g := g) hC
  show W p l e R s m args below meth c H locs cells slots Z (F0 m pc la (.null :: .int i :: .ref (xa g a) :: st.map (xv g)))
  rw [xa_new h4 (hP.lt ha)]
  refine va_WaastN (C := C) F.1 F.2.1 (hP.P (a - 4) _ (xw_get h4 ha)) ((F.2.2.2.2.2.1.1.2 t0 _ ht).1 n _) (fun h => by cases h) (by show ¬ (i < 0 ∨ (arrV _ _ _).slots.size ≤ _); rw [arrV_size]; exact hin) rfl rfl hd fun H1 e3 z1 oq => ?_
  have hat : va_at g.2.2.2.1 vwCl (g.1 + (a - 4), xe g (.inl (.object C, n, .inr (.inr (.inr (.inr (va_up f i.toNatClampNeg none))))))) H1 := by
    show H1[g.1 + (a - 4)]? = some (vp_cell _ _)
    refine e3.trans ?_
    show some ((arrV _ n (fun j => va_rf ((f j).map (xa g)))).setSlot _ _) = some (arrV _ n (fun j => va_rf ((va_up f i.toNatClampNeg none j).map (xa g))))
    rw [arrV_store]
    congr 2
    funext j
    by_cases hq : j = i.toNatClampNeg
    · subst hq
      simp [updV, va_up, va_rf]
    · simp [updV, va_up, hq]
  have hn := hn.2 hM g p l e R s m args below meth c Z (F.eqS (set_low h4)) E H1 _ cells slots la (hP.upd h4 ha z1 oq hat) (hS.put (k := i.toNatClampNeg) z1 oq (Nat.le_add_right _ _)) hc hs hl
  rw [e2] at hn
  exact hn
theorem va_S.pushed {A : Nat → Prop} {H0 H H1 : Heap} {locs : List Loc} (h : va_S A H0 H locs) (z : H1.size = H.size + 1) (oq : ∀ q : Nat, q < H.size → H1[q]? = H[q]?) : va_S A H0 H1 locs := ⟨by have := h.1; omega, fun q h1 h2 => (oq q (Nat.lt_of_lt_of_le h1 h.1)).trans (h.2.1 q h1 h2), h.2.2⟩
/-- an object, its fields as they are at first -/
theorem Rn.new {i ci j1 j2 j3 N : Nat} {C : String} {T : u_T} {fs : List Value} (h : M.2.2.2.2.2[k]? = some (pc, .new i, 3, [ci, j1, j2, j3])) (hq : vwCl[ci]? = some (C, T, N)) (hfs : ∀ j, j < N → defaultValue (vwTy ci j) = vp_V fs j) (hfr : fs.all (fun v => match v with | .ref _ => false | _ => true) = true) (hl4 : 4 ≤ S.length) (hll : S.length + 1 ≤ 1000000000) (hn : Rn d kc ks M (k + 1) ls (.ref S.length :: st) (S ++ [.inr (ci, fs)]) r S') : Rn d (kc + 1) (ks + N) M k ls st S r S' := by
  refine ⟨(xlow.ap hl4).tr hn.1, ?_⟩
  intro hM g p l e R s m args below meth c Z F E H locs cells slots la hP hS hc hs hl
  obtain ⟨hd, hL, e1, e2⟩ := hM.entry h
  have e2 := e2 rfl
  rw [e1]
  have hw : Cond.classLink M.1.cls i C ∈ wT ∧ Cond.instantiable C N ∈ wT ∧ Cond.initialized C ∈ wT := by
    simp only [ckL] at hL
    rw [hq] at hL
    simp only [Bool.and_eq_true] at hL
    exact ⟨ckW_mem hL.1, ckW_mem hL.2.1, ckW_mem hL.2.2⟩
  have hts := F.2.2.2.2.1
  have hKn := F.2.2.2.2.2.1.1.1 ci _ hq
  refine W.newcK F.1 F.2.1 F.2.2.2.1 (hts _ hw.1) (hts _ hw.2.1) (hts _ hw.2.2) rfl hd (by omega) (by omega) hKn.2.1 rfl fun H1 kC hkC e3 z1 o1 => ?_
  have hfm : fs.map (xv g) = fs := by
    rw [List.map_congr_left (g := id), List.map_id]
    intro v hv
    have := List.all_eq_true.mp hfr v hv
    cases v <;> first | rfl | cases this
  have hat : va_at g.2.2.2.1 vwCl (H.size, xe g (.inr (ci, fs))) H1 := by
    refine ⟨_, hq, ?_⟩
    show t_OB H.size _ _ _ _ (vp_V (fs.map (xv g)))
    rw [hfm]
    exact (u_born (vwTy ci) hts (lay_ok hq) hKn hkC e3 (vwTy_ok hq).1).to hfs
  have hn := hn.2 hM g p l e R s m args below meth c Z (F.eqS (app_low hl4)) E H1 _ (cells + 1) (slots + N) la (hP.push hll z1 o1 hat) (hS.pushed z1 o1) (by omega) (by omega) hl
  rw [e2] at hn
  have hx : xa g S.length = H.size := by rw [xa_new hl4 (by omega), hP.1]
  have hn : W p l e R s m args below meth c H1 locs (cells + 1) (slots + N) Z (F0 m (pc + 3) la (.ref (xa g S.length) :: st.map (xv g))) := hn
  rw [hx] at hn
  exact hn
/-- a row of numbers, all 0 -/
theorem Rn.newa {at_ : ArrayType} {ty : FieldType} {a0 : (Nat → Int32) ⊕ (Nat → Int64) ⊕ (Nat → UInt32) ⊕ (Nat → UInt64) ⊕ (Nat → Option Nat)} {n : Int32} {N : Nat} (h : M.2.2.2.2.2[k]? = some (pc, .newarray at_, 2, z)) (hty : newarray.typeOf at_ = ty) (h0 : (ty = .int ∧ a0 = .inl (fun _ => 0)) ∨ (ty = .byte ∧ a0 = .inl (fun _ => 0)) ∨ (ty = .boolean ∧ a0 = .inl (fun _ => 0)) ∨ (ty = .long ∧ a0 = .inr (.inl (fun _ => 0)))) (hw : Cond.arrayClass ty ∈ wT) (hneg : ¬ n < 0) (hN : n.toNatClampNeg = N) (hb8 : N * 8 ≤ 536870912) (hl4 : 4 ≤ S.length) (hll : S.length + 1 ≤ 1000000000) (hn : Rn d kc ks M (k + 1) ls (.ref S.length :: st) (S ++ [.inl (ty, N, a0)]) r S') : Rn d (kc + 1) (ks + N) M k ls (.int n :: st) S r S' := by
  refine ⟨(xlow.ap hl4).tr hn.1, ?_⟩
  intro hM g p l e R s m args below meth c Z F E H locs cells slots la hP hS hc hs hl
  obtain ⟨hd, hL, e1, e2⟩ := hM.entry h
  have e2 := e2 rfl
  rw [e1]
  subst hty
  have hts := F.2.2.2.2.1
  have hK := F.2.2.2.2.2.1.1
  have hbytes : N * componentBytes (newarray.typeOf at_) ≤ 536870912 := by
    have : componentBytes (newarray.typeOf at_) ≤ 8 := by cases at_ <;> decide
    exact Nat.le_trans (Nat.mul_le_mul_left N this) hb8
  refine va_newaK F.1 F.2.1 (hts _ hw) rfl hd rfl hneg hN hbytes (by omega) (by omega) rfl fun H1 cA e3 z1 o1 hAr hNm => ?_
  have hat : va_at g.2.2.2.1 vwCl (H.size, xe g (.inl (newarray.typeOf at_, N, a0))) H1 := by
    show H1[H.size]? = some (vp_cell _ _)
    refine e3.trans ?_
    rcases h0 with ⟨ht, rfl⟩ | ⟨ht, rfl⟩ | ⟨ht, rfl⟩ | ⟨ht, rfl⟩
    · have hcid : cA = g.2.2.2.2 (newarray.typeOf at_) := by rw [ht] at hNm ⊢; exact Option.some.inj (hNm.symm.trans (hK.2 0 _ rfl).2)
      rw [hcid, ht]; rfl
    · have hcid : cA = g.2.2.2.2 (newarray.typeOf at_) := by rw [ht] at hNm ⊢; exact Option.some.inj (hNm.symm.trans (hK.2 1 _ rfl).2)
      rw [hcid, ht]; rfl
    · have hcid : cA = g.2.2.2.2 (newarray.typeOf at_) := by rw [ht] at hNm ⊢; exact Option.some.inj (hNm.symm.trans (hK.2 2 _ rfl).2)
      rw [hcid, ht]; rfl
    · have hcid : cA = g.2.2.2.2 (newarray.typeOf at_) := by rw [ht] at hNm ⊢; exact Option.some.inj (hNm.symm.trans (hK.2 3 _ rfl).2)
      rw [hcid, ht]; rfl
  have hn := hn.2 hM g p l e R s m args below meth c Z (F.eqS (app_low hl4)) E H1 _ (cells + 1) (slots + N) la (hP.push hll z1 o1 hat) (hS.pushed z1 o1) (by omega) (by omega) hl
  rw [e2] at hn
  have hx : xa g S.length = H.size := by rw [xa_new hl4 (by omega), hP.1]
  have hn : W p l e R s m args below meth c H1 locs (cells + 1) (slots + N) Z (F0 m (pc + 2) la (.ref (xa g S.length) :: st.map (xv g))) := hn
  rw [hx] at hn
  exact hn
/-- a row of references, all null -/
theorem Rn.anewa {i : Nat} {C : String} {n : Int32} {N : Nat} (h : M.2.2.2.2.2[k]? = some (pc, .anewarray i, 3, z)) (hC : C = "BoughtKin$Script" ∨ C = "BoughtKin$Country") (hw : Cond.classLink M.1.cls i C ∈ wT) (hneg : ¬ n < 0) (hN : n.toNatClampNeg = N) (hb8 : N * 8 ≤ 536870912) (hl4 : 4 ≤ S.length) (hll : S.length + 1 ≤ 1000000000) (hn : Rn d kc ks M (k + 1) ls (.ref S.length :: st) (S ++ [.inl (.object C, N, .inr (.inr (.inr (.inr (fun _ => none)))))]) r S') : Rn d (kc + 1) (ks + N) M k ls (.int n :: st) S r S' := by
  refine ⟨(xlow.ap hl4).tr hn.1, ?_⟩
  intro hM g p l e R s m args below meth c Z F E H locs cells slots la hP hS hc hs hl
  obtain ⟨hd, hL, e1, e2⟩ := hM.entry h
  have e2 := e2 rfl
  rw [e1]
  obtain ⟨t0, ht⟩ := xt_R (g := g) hC
  have hts := F.2.2.2.2.1
  have hK := F.2.2.2.2.2.1.1
  have hAO : va_AO C s := by
    obtain ⟨-, -, -, -, -, -, -, ha, hb, -⟩ := F.2.2.2.2.2.1.2
    rcases hC with rfl | rfl
    · exact ha
    · exact hb
  subst hN
  refine W.anew F.1 F.2.1 F.2.2.2.1 (hts _ hw) (va_AO.use hAO) rfl hd rfl hneg (by omega) (by omega) (by omega) fun cA kA comp f1 f2 f3 f4 => ?_
  generalize hH1 : H.push ({ cls := cA, slots := Array.replicate n.toNatClampNeg .null, vm := .none } : Cell) = H1
  have z1 : H1.size = H.size + 1 := by rw [← hH1, Array.size_push]
  have e3 : H1[H.size]? = some (arrV cA n.toNatClampNeg (fun _ => .null)) := by rw [← hH1, Array.getElem?_push_size, ← arrV_new]
  have o1 : ∀ q : Nat, q < H.size → H1[q]? = H[q]? := fun q hq => by rw [← hH1, Array.getElem?_push, if_neg (Nat.ne_of_lt hq)]
  have hcid : cA = g.2.2.2.2 (.object C) := by
    obtain ⟨_, _, -, -, -, k4⟩ := (hK.2 t0 _ ht).2
    exact Option.some.inj (f1.symm.trans k4)
  have hat : va_at g.2.2.2.1 vwCl (H.size, xe g (.inl (.object C, n.toNatClampNeg, .inr (.inr (.inr (.inr (fun _ => none))))))) H1 := by
    show H1[H.size]? = some (vp_cell _ _)
    refine e3.trans ?_
    rw [hcid]
    rfl
  have hn := hn.2 hM g p l e R s m args below meth c Z (F.eqS (app_low hl4)) E H1 _ (cells + 1) (slots + n.toNatClampNeg) la (hP.push hll z1 o1 hat) (hS.pushed z1 o1) (by omega) (by omega) hl
  rw [e2] at hn
  have hx : xa g S.length = H.size := by rw [xa_new hl4 (by omega), hP.1]
  have hn : W p l e R s m args below meth c H1 locs (cells + 1) (slots + n.toNatClampNeg) Z (F0 m (pc + 3) la (.ref (xa g S.length) :: st.map (xv g))) := hn
  rw [hx] at hn
  exact hn
end STORES
