/-! Object's constructor, the JDK's own static members, statics -/
section NAT
variable {d kc ks : Nat} {M : Mt} {k pc i : Nat} {z : List Nat} {ls : List (Option Value)} {st : List Value} {S : Sg} {r : Option Value} {S' : Sg}
theorem Rn.objInit {q : Nat} (h : M.2.2.2.2.2[k]? = some (pc, .invokespecial i, 3, z)) (hw : Cond.methodLink M.1.cls i Lib.objectInit ∈ wT ∧ Cond.instanceMethod Lib.objectInit ∈ wT ∧ Cond.code Lib.objectInit ⟨#[0xb1]⟩ 1 none ∈ wT) (hd1 : 1 ≤ d) (hcat : (st.map fun v => v.category).sum ≤ 8) (hn : Rn d kc ks M (k + 1) ls st S r S') : Rn d kc ks M k ls (.ref q :: st) S r S' := by
  refine ⟨hn.1, ?_⟩
  intro hM g p l e R s m args below meth c Z F E H locs cells slots la hP hS hc hs hl
  obtain ⟨hd, -, e1, e2⟩ := hM.entry h
  have e2 := e2 rfl
  have hn := hn.2 hM g p l e R s m args below meth c Z F E H locs cells slots la hP hS hc hs hl
  rw [e2] at hn
  rw [e1]
  have hts := F.2.2.2.2.1
  have hR1 := F.2.2.2.2.2.2.2.1
  have hR2 := F.2.2.2.2.2.2.2.2.1
  refine W.objInit F.1 F.2.1 F.2.2.2.1 (hts _ hw.1) (hts _ hw.2.1) (hts _ hw.2.2) rfl (hl.1.trans F.2.2.1.symm) (a := xa g q) (rest := st.map (xv g)) rfl hd (by omega) ?_ hn
  show 2 * 0 + _ + 12 ≤ R.locals
  rw [cat_map]
  omega
theorem Rn.mmax {x y : Int32} (h : M.2.2.2.2.2[k]? = some (pc, .invokestatic i, 3, z)) (hw : Cond.methodLink M.1.cls i Lib.Math.max.name ∈ wT ∧ Cond.static Lib.Math.max.name ∈ wT ∧ Cond.initialized "java/lang/Math" ∈ wT ∧ Cond.code Lib.Math.max.name Lib.Math.max.code 2 (some .int) ∈ wT) (hd1 : 1 ≤ d) (hcat : (st.map fun v => v.category).sum ≤ 8) (hn : Rn d kc ks M (k + 1) ls (.int (if x < y then y else x) :: st) S r S') : Rn d kc ks M k ls (.int y :: .int x :: st) S r S' := by
  refine ⟨hn.1, ?_⟩
  intro hM g p l e R s m args below meth c Z F E H locs cells slots la hP hS hc hs hl
  obtain ⟨hd, -, e1, e2⟩ := hM.entry h
  have e2 := e2 rfl
  have hn := hn.2 hM g p l e R s m args below meth c Z F E H locs cells slots la hP hS hc hs hl
  rw [e2] at hn
  rw [e1]
  have hts := F.2.2.2.2.1
  have hR1 := F.2.2.2.2.2.2.2.1
  have hR2 := F.2.2.2.2.2.2.2.2.1
  exact va_mmax F.1 F.2.1 (F.2.2.1.trans hl.1.symm) F.2.2.2.1 (hts _ hw.1) (hts _ hw.2.1) (hts _ hw.2.2.1) (hts _ hw.2.2.2) (by omega) (by rw [cat_map]; omega) (by omega) (by omega) hd hn
theorem Rn.mmin {x y : Int32} (h : M.2.2.2.2.2[k]? = some (pc, .invokestatic i, 3, z)) (hw : Cond.methodLink M.1.cls i Lib.Math.min.name ∈ wT ∧ Cond.static Lib.Math.min.name ∈ wT ∧ Cond.initialized "java/lang/Math" ∈ wT ∧ Cond.code Lib.Math.min.name Lib.Math.min.code 2 (some .int) ∈ wT) (hd1 : 1 ≤ d) (hcat : (st.map fun v => v.category).sum ≤ 8) (hn : Rn d kc ks M (k + 1) ls (.int (if y < x then y else x) :: st) S r S') : Rn d kc ks M k ls (.int y :: .int x :: st) S r S' := by
  refine ⟨hn.1, ?_⟩
  intro hM g p l e R s m args below meth c Z F E H locs cells slots la hP hS hc hs hl
  obtain ⟨hd, -, e1, e2⟩ := hM.entry h
  have e2 := e2 rfl
  have hn := hn.2 hM g p l e R s m args below meth c Z F E H locs cells slots la hP hS hc hs hl
  rw [e2] at hn
  rw [e1]
  have hts := F.2.2.2.2.1
  have hR1 := F.2.2.2.2.2.2.2.1
  have hR2 := F.2.2.2.2.2.2.2.2.1
  exact va_mmin F.1 F.2.1 (F.2.2.1.trans hl.1.symm) F.2.2.2.1 (hts _ hw.1) (hts _ hw.2.1) (hts _ hw.2.2.1) (hts _ hw.2.2.2) (by omega) (by rw [cat_map]; omega) (by omega) (by omega) hd hn
/-- a static row of numbers -/
theorem Rn.gets {n : String} {v : Nat} (h : M.2.2.2.2.2[k]? = some (pc, .getstatic i, 3, z)) (hn' : (n = "LEAST_TERMS" ∧ v = 1) ∨ (n = "MOST_TERMS" ∧ v = 2)) (hw : (M.1.cls, i, n) ∈ nstF) (hn : Rn d kc ks M (k + 1) ls (.ref v :: st) S r S') : Rn d kc ks M k ls st S r S' := by
  refine ⟨hn.1, ?_⟩
  intro hM g p l e R s m args below meth c Z F E H locs cells slots la hP hS hc hs hl
  obtain ⟨hd, -, e1, e2⟩ := hM.entry h
  have e2 := e2 rfl
  have hn := hn.2 hM g p l e R s m args below meth c Z F E H locs cells slots la hP hS hc hs hl
  rw [e2] at hn
  rw [e1]
  have hts := F.2.2.2.2.1
  have hO := F.2.2.2.2.2.1.2
  have hold := F.2.2.2.2.2.2.2.2.2.1
  have hZ : va_Z "BoughtKin" n "[I" (.ref (xa g v)) (xA g) s s.heap := by
    have hz : va_Z "BoughtKin" n "[I" (.ref (xa g v)) (xA g) s g.2.1 := by
      rcases hn' with ⟨rfl, rfl⟩ | ⟨rfl, rfl⟩
      · exact hO.2.1
      · exact hO.2.2.1
    obtain ⟨cf, kf, fi, f, a, cell, h1, h2, h3, h4, h5, h6, h7, h8⟩ := hz
    exact ⟨cf, kf, fi, f, a, cell, h1, h2, h3, h4, by rw [hold a (Nat.not_le.mp h8)]; exact h5, h6, h7, h8⟩
  obtain ⟨-, -, -, -, -, -, -, -, -, -, hf⟩ := hO
  exact va_getsN F.1 F.2.1 hZ hS F.2.2.2.1 (va_Nw.use rfl (hf _ hw)) (fun _ h => h) hd hn
/-- System.arraycopy of numbers -/
theorem Rn.acopy {a0 a n0 n1 : Nat} {f f1 : Nat → Int32} {sp dp n : Int32} (h : M.2.2.2.2.2[k]? = some (pc, .invokestatic i, 3, z)) (hw : Cond.methodLink M.1.cls i arraycopyName ∈ wT ∧ Cond.native arraycopyName ∈ wT ∧ Cond.static arraycopyName ∈ wT ∧ Cond.initialized "java/lang/System" ∈ wT) (hd1 : 1 ≤ d) (hcat : (st.map fun v => v.category).sum ≤ 8) (h40 : 4 ≤ a0) (h41 : 4 ≤ a) (ha0 : S[a0]? = some (.inl (.int, n0, .inl f))) (ha1 : S[a]? = some (.inl (.int, n1, .inl f1))) (h1 : ¬ sp < 0) (h2 : ¬ dp < 0) (h3 : ¬ n < 0) (h4 : sp.toNatClampNeg + n.toNatClampNeg ≤ n0) (h5 : dp.toNatClampNeg + n.toNatClampNeg ≤ n1)
    (hn : Rn d kc ks M (k + 1) ls st (S.set a (.inl (.int, n1, .inl (va_cpy f f1 sp.toNatClampNeg dp.toNatClampNeg n.toNatClampNeg)))) r S') : Rn d kc ks M k ls (.int n :: .int dp :: .ref a :: .int sp :: .ref a0 :: st) S r S' := by
  refine ⟨(xlow.st h41).tr hn.1, ?_⟩
  intro hM g p l e R s m args below meth c Z F E H locs cells slots la hP hS hc hs hl
  obtain ⟨hd, -, e1, e2⟩ := hM.entry h
  have e2 := e2 rfl
  rw [e1]
  have hts := F.2.2.2.2.1
  have hK := F.2.2.2.2.2.1.1
  have hR1 := F.2.2.2.2.2.2.2.1
  have hR2 := F.2.2.2.2.2.2.2.2.1
  have nn : ∀ z : Int32, ¬ z < 0 → z.toInt = (z.toNatClampNeg : Int) := by
    intro z hz
    have hz0 : (0 : Int) ≤ z.toInt := by
      have := Int32.not_lt.mp hz
      simpa using Int32.le_iff_toInt_le.mp this
    show z.toInt = ((z.toInt.toNat : Nat) : Int)
    omega
  show W p l e R s m args below meth c H locs cells slots Z (F0 m pc la (.int n :: .int dp :: .ref (xa g a) :: .int sp :: .ref (xa g a0) :: st.map (xv g)))
  rw [xa_new h40 (hP.lt ha0), xa_new h41 (hP.lt ha1)]
  intro T hT X
  have hc0 : H[g.1 + (a0 - 4)]? = some (vp_cell (g.2.2.2.2 .int) (n0, .inl f)) := hP.P (a0 - 4) _ (xw_get h40 ha0)
  have hc1 : H[g.1 + (a - 4)]? = some (vp_cell (g.2.2.2.2 .int) (n1, .inl f1)) := hP.P (a - 4) _ (xw_get h41 ha1)
  obtain ⟨-, k0, hk0, cm0, hkk0⟩ := (hK.2 0 _ rfl).1 n0 (fun j => .int (f j))
  obtain ⟨-, k1, hk1, cm1, hkk1⟩ := (hK.2 0 _ rfl).1 n1 (fun j => .int (f1 j))
  obtain ⟨vm', X', step⟩ := X.arraycopy F.1 F.2.2.2.1 (hts _ hw.1) (hts _ hw.2.1) (hts _ hw.2.2.1) (hts _ hw.2.2.2) (src := g.1 + (a0 - 4)) (dst := g.1 + (a - 4)) (cs := vp_cell (g.2.2.2.2 .int) (n0, .inl f)) (cd := vp_cell (g.2.2.2.2 .int) (n1, .inl f1)) (srcPos := sp) (destPos := dp) (n := n) (by rw [hT]; exact hc0) (by rw [hT]; exact hc1)
    (fun _ h => by cases h) (fun _ h => by cases h) (fun h => by cases h) (fun h => by cases h) hk0 hk1 hkk0 hkk1 (by simp [refKind]) h1 h2 h3
    (by rw [nn sp h1, nn n h3]; show ¬ _ > ((arrV _ n0 (fun j => .int (f j))).slots.size : Int); rw [arrV_size]; omega)
    (by rw [nn dp h2, nn n h3]; show ¬ _ > ((arrV _ n1 (fun j => .int (f1 j))).slots.size : Int); rw [arrV_size]; omega)
    (fun vm₁ _ i hi => by
      have e : (vp_cell (g.2.2.2.2 .int) (n0, .inl f)).slots.getD (sp.toNatClampNeg + i) .null = .int (f (sp.toNatClampNeg + i)) := by
        show (arrV _ n0 (fun j => .int (f j))).slots.getD _ _ = _
        rw [Array.getD_eq_getD_getElem?, arrV_read _ _ (by omega)]
        rfl
      refine ⟨?_, ?_⟩
      · rw [e]
        rfl
      · rw [e]
        exact trivial)
    (g := F0 m pc la (.int n :: .int dp :: .ref (g.1 + (a - 4)) :: .int sp :: .ref (g.1 + (a0 - 4)) :: st.map (xv g))) rfl (hl.1.trans F.2.2.1.symm) (rest := st.map (xv g)) rfl (by rw [F.2.1]; exact hd) (by omega) (by
      show 2 * 0 + _ + _ ≤ _
      have hnf : nativeFrameWords "java/lang/System" "arraycopy" 5 + 11 ≤ 33 := by decide +kernel
      rw [cat_map]
      omega)
  have e3 : copied (vp_cell (g.2.2.2.2 .int) (n0, .inl f)) (vp_cell (g.2.2.2.2 .int) (n1, .inl f1)) sp dp n = vp_cell (g.2.2.2.2 .int) (n1, .inl (va_cpy f f1 sp.toNatClampNeg dp.toNatClampNeg n.toNatClampNeg)) := va_copied (fun z => .int z) _ _ f f1 h4
  rw [e3] at X' step
  have hlt : g.1 + (a - 4) < H.size := (Array.getElem?_eq_some_iff.mp hc1).1
  have hheap : ((T.setVm vm').setCell (g.1 + (a - 4)) (vp_cell (g.2.2.2.2 .int) (n1, .inl (va_cpy f f1 sp.toNatClampNeg dp.toNatClampNeg n.toNatClampNeg)))).heap = H.setIfInBounds (g.1 + (a - 4)) (vp_cell (g.2.2.2.2 .int) (n1, .inl (va_cpy f f1 sp.toNatClampNeg dp.toNatClampNeg n.toNatClampNeg))) := by rw [← hT]; rfl
  have oq : ∀ q : Nat, q ≠ g.1 + (a - 4) → (H.setIfInBounds (g.1 + (a - 4)) (vp_cell (g.2.2.2.2 .int) (n1, .inl (va_cpy f f1 sp.toNatClampNeg dp.toNatClampNeg n.toNatClampNeg))))[q]? = H[q]? := fun q hq => by simp [Array.getElem?_setIfInBounds, Ne.symm hq]
  have hat : va_at g.2.2.2.1 vwCl (g.1 + (a - 4), xe g (.inl (.int, n1, .inl (va_cpy f f1 sp.toNatClampNeg dp.toNatClampNeg n.toNatClampNeg)))) (H.setIfInBounds (g.1 + (a - 4)) (vp_cell (g.2.2.2.2 .int) (n1, .inl (va_cpy f f1 sp.toNatClampNeg dp.toNatClampNeg n.toNatClampNeg)))) := by
    show (H.setIfInBounds (g.1 + (a - 4)) _)[g.1 + (a - 4)]? = some _
    simp [Array.getElem?_setIfInBounds, hlt]
    rfl
  have key := fun locs1 hS1 => hn.2 hM g p l e R s m args below meth c Z (F.eqS (set_low h41)) E _ locs1 cells slots la (hP.upd h41 ha1 (by simp) oq hat) hS1 hc hs hl
  rw [e2] at key
  refine Exists.elim (key _ ?_ _ hheap X') (fun t ht => ⟨t, step t ht.1, ht.2⟩)
  refine ⟨by simp; exact hS.1, fun q g1 g2 => ?_, fun q hq => ?_⟩
  · rw [oq q (fun e => g2 (by rw [e]; exact Nat.le_add_right _ _))]
    exact hS.2.1 q g1 g2
  · rcases List.mem_append.mp hq with h | h
    · exact hS.2.2 q h
    · obtain ⟨z, -, hz⟩ := List.mem_map.mp h
      rw [← hz]
      exact Nat.le_add_right _ _
end NAT
