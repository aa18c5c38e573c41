/-! rules that read and write cells -/
section CELLS
variable {d kc ks : Nat} {M : Mt} {k pc : Nat} {z : List Nat} {ls : List (Option Value)} {st : List Value} {S : Sg} {r : Option Value} {S' : Sg}
theorem Rn.getf {i ci fk j a : Nat} {fs : List Value} {v : Value} (h : M.2.2.2.2.2[k]? = some (pc, .getfield i, 3, [ci, fk, j])) (h4 : 4 ≤ a) (ha : S[a]? = some (.inr (ci, fs))) (hv : fs[fk]? = some v) (hn : Rn d kc ks M (k + 1) ls (v :: st) S r S') : Rn d kc ks M k ls (.ref a :: st) S r S' := by
  refine ⟨hn.1, ?_⟩
  intro hM g p l e R s m args below meth c Z F E H locs cells slots la hP hS hc hs hl
  obtain ⟨hd, hL, e1, e2⟩ := hM.entry h
  have e2 := e2 rfl
  obtain ⟨⟨C, T, N⟩, hq, hfk, hw⟩ := FL_use hM hL
  have hn := hn.2 hM g p l e R s m args below meth c Z F E H locs cells slots la hP hS hc hs hl
  rw [e2] at hn
  rw [e1]
  show W p l e R s m args below meth c H locs cells slots Z (F0 m pc la (.ref (xa g a) :: st.map (xv g)))
  rw [xa_new h4 (hP.lt ha)]
  exact va_get F.1 F.2.1 F.2.2.2.2.1 (lay_ok hq) F.2.2.2.1 F.2.2.2.2.2.1.1 hP.P (a - 4) (fs := fs.map (xv g)) (xw_get h4 ha) hq fk hfk (F.2.2.2.2.1 _ hw) (fun _ h => h) (v := xv g v) (by rw [List.getElem?_map, hv]; rfl) hd hn
theorem set_map (g : Gw) (fs : List Value) (k : Nat) (v : Value) : (fs.set k v).map (xv g) = (fs.map (xv g)).set k (xv g v) := List.map_set
/-- a field that isn't final -/
theorem Rn.putf {i ci fk j a : Nat} {fs : List Value} {v : Value} (h : M.2.2.2.2.2[k]? = some (pc, .putfield i, 3, [ci, fk, j])) (h4 : 4 ≤ a) (ha : S[a]? = some (.inr (ci, fs))) (hfin : ∀ q, vwCl[ci]? = some q → (q.2.1 fk).2.2.2 = false) (hlen : fk < fs.length) (hna : narrow (vwTy ci fk) v = v) (hfit : fits (vwTy ci fk) v = true) (hn : Rn d kc ks M (k + 1) ls st (S.set a (.inr (ci, fs.set fk v))) r S') : Rn d kc ks M k ls (v :: .ref a :: st) S r S' := by
  refine ⟨(xlow.st h4).tr hn.1, ?_⟩
  intro hM g p l e R s m args below meth c Z F E H locs cells slots la hP hS hc hs hl
  obtain ⟨hd, hL, e1, e2⟩ := hM.entry h
  have e2 := e2 rfl
  obtain ⟨⟨C, T, N⟩, hq, hfk, hw⟩ := FL_use hM hL
  obtain ⟨hty, hnm⟩ := vwTy_ok hq
  have hts := F.2.2.2.2.1
  have hK := F.2.2.2.2.2.1.1
  have hown := F.2.2.2.1
  have hin := lay_ok hq
  have hap := va_apart (own := M.1.cls) hts hin (vwTy ci) hty hnm hK hq
  obtain ⟨rr, h1, cell, q1, q2, q3, q4⟩ := hP.P (a - 4) _ (xw_get h4 ha)
  have hr : rr = (C, T, N) := Option.some.inj (h1.symm.trans hq)
  subst hr
  obtain ⟨hSl, hfc, kC, hkC, hkind⟩ := hK.1 ci _ hq
  obtain ⟨cf, kf, fi, f, hi, hsl⟩ := hSl fk hfk
  have hlay := hts _ (hin _ (u_in_lay hfk))
  unfold u_lay at hlay
  rw [if_neg (by rw [hfin _ hq]; decide)] at hlay
  have hst := (u_facts hfc hkC (u_lays hts hin hfk) hi).1
  have h6 := u_store hfc hkC hkind hlay hi (hty fk hfk) (narrow_xv g _ v hna) (fits_xv g _ v hfit)
  rw [e1]
  show W p l e R s m args below meth c H locs cells slots Z (F0 m pc la (xv g v :: .ref (xa g a) :: st.map (xv g)))
  rw [xa_new h4 (hP.lt ha)]
  refine W.putK F.1 F.2.1 (f := f) ⟨hown, hts _ hw, ⟨_, _, _, hi⟩, hst⟩ (by rw [q2]; exact h6) q1 q3 (by rw [hsl]; exact k2_hasslot (q4 fk hfk)) rfl rfl hd fun H' e3 e4 e5 => ?_
  rw [hsl] at e3
  have hat : va_at g.2.2.2.1 vwCl (g.1 + (a - 4), xe g (.inr (ci, fs.set fk v))) H' := by
    refine ⟨_, hq, ?_⟩
    show t_OB (g.1 + (a - 4)) _ _ _ _ (vp_V ((fs.set fk v).map (xv g)))
    rw [set_map]
    exact t_OB.to (V := updV (vp_V (fs.map (xv g))) fk (xv g v)) ⟨_, e3, q2, q3, t_set q4 hap hfk _⟩ (fun jj _ => vp_updV_set (by rw [List.length_map]; exact hlen) _ jj)
  have hn := hn.2 hM g p l e R s m args below meth c Z (F.eqS (set_low h4)) E H' _ cells slots la (hP.upd h4 ha e4 e5 hat) (hS.put (k := f.slot) e4 e5 (Nat.le_add_right _ _)) hc hs hl
  rw [e2] at hn
  exact hn
/-- a final field, in its class's constructor -/
theorem Rn.putfF {i ci fk j a : Nat} {fs : List Value} {v : Value} (h : M.2.2.2.2.2[k]? = some (pc, .putfield i, 3, [ci, fk, j])) (h4 : 4 ≤ a) (ha : S[a]? = some (.inr (ci, fs))) (hfin : ∀ q, vwCl[ci]? = some q → (q.2.1 fk).2.2.2 = true ∧ (q.2.1 fk).1 = M.1.cls) (hini : M.1.name = "<init>") (hlen : fk < fs.length) (hna : narrow (vwTy ci fk) v = v) (hfit : fits (vwTy ci fk) v = true) (hn : Rn d kc ks M (k + 1) ls st (S.set a (.inr (ci, fs.set fk v))) r S') : Rn d kc ks M k ls (v :: .ref a :: st) S r S' := by
  refine ⟨(xlow.st h4).tr hn.1, ?_⟩
  intro hM g p l e R s m args below meth c Z F E H locs cells slots la hP hS hc hs hl
  obtain ⟨hd, hL, e1, e2⟩ := hM.entry h
  have e2 := e2 rfl
  obtain ⟨⟨C, T, N⟩, hq, hfk, hw⟩ := FL_use hM hL
  obtain ⟨hty, hnm⟩ := vwTy_ok hq
  have hts := F.2.2.2.2.1
  have hK := F.2.2.2.2.2.1.1
  have hown := F.2.2.2.1
  have hin := lay_ok hq
  have hap := va_apart (own := M.1.cls) hts hin (vwTy ci) hty hnm hK hq
  obtain ⟨rr, h1, cell, q1, q2, q3, q4⟩ := hP.P (a - 4) _ (xw_get h4 ha)
  have hr : rr = (C, T, N) := Option.some.inj (h1.symm.trans hq)
  subst hr
  obtain ⟨hSl, hfc, kC, hkC, hkind⟩ := hK.1 ci _ hq
  obtain ⟨cf, kf, fi, f, hi, hsl⟩ := hSl fk hfk
  have hlay := hts _ (hin _ (u_in_lay hfk))
  unfold u_lay at hlay
  rw [if_pos (hfin _ hq).1] at hlay
  have hst := (u_facts hfc hkC (u_lays hts hin hfk) hi).1
  have hcf : m.cls = cf := by
    obtain ⟨_, _, c', _, _, _, -, -, hf', -, -, -, hown2, -⟩ := Cond.laysFinal_spec hlay
    have e1 : c' = cf := by have := hi.symm.trans hf'; simp at this; exact this.1.symm
    rw [(hfin _ hq).2] at hown2
    rw [← e1]; exact Option.some.inj (hown.symm.trans hown2)
  have h6 := u_fits hfc hkC hkind (Or.inr hlay) hi (hty fk hfk) (narrow_xv g _ v hna) (fits_xv g _ v hfit)
  rw [e1]
  show W p l e R s m args below meth c H locs cells slots Z (F0 m pc la (xv g v :: .ref (xa g a) :: st.map (xv g)))
  rw [xa_new h4 (hP.lt ha)]
  refine W.putFinK F.1 F.2.1 hown (hts _ hw) hi hst hcf (F.2.2.2.2.2.2.2.2.2.2 hini) (by rw [q2]; exact h6) q1 q3 (by rw [hsl]; exact k2_hasslot (q4 fk hfk)) rfl rfl hd fun H' e3 e4 e5 => ?_
  rw [hsl] at e3
  have hat : va_at g.2.2.2.1 vwCl (g.1 + (a - 4), xe g (.inr (ci, fs.set fk v))) H' := by
    refine ⟨_, hq, ?_⟩
    show t_OB (g.1 + (a - 4)) _ _ _ _ (vp_V ((fs.set fk v).map (xv g)))
    rw [set_map]
    exact t_OB.to (V := updV (vp_V (fs.map (xv g))) fk (xv g v)) ⟨_, e3, q2, q3, t_set q4 hap hfk _⟩ (fun jj _ => vp_updV_set (by rw [List.length_map]; exact hlen) _ jj)
  have hn := hn.2 hM g p l e R s m args below meth c Z (F.eqS (set_low h4)) E H' _ cells slots la (hP.upd h4 ha e4 e5 hat) (hS.put (k := f.slot) e4 e5 (Nat.le_add_right _ _)) hc hs hl
  rw [e2] at hn
  exact hn
/-- the index as a number, within a row -/
theorem in_lt {i : Int32} {n : Nat} (h : vp_in i n) : i.toNatClampNeg < n := Nat.not_le.mp fun q => h (Or.inr q)
/-- a row that was there before -/
theorem old_T {g : Gw} {s : State} {H : Heap} {locs : List Loc} {a n : Nat} {ty : FieldType} {f : Nat → Int32} (hP : xH g S H) (hO : xO g S s) (h4 : a < 4) (ha : S[a]? = some (.inl (ty, n, .inl f))) : ∃ cell : Cell, H[xa g a]? = some cell ∧ s.isArrayOf cell ty ∧ cell.vm ≠ .unknown ∧ n ≤ cell.slots.size ∧ cell.slots.size.toInt32 = Int32.ofNat n ∧ ∀ j : Nat, j < n → cell.slots[j]? = some (.int (f j)) := by
  obtain ⟨cell, t1, t2, t3, t4, t5, t6, t7⟩ := hO.1 a ty n f h4 ha
  rw [xa_old h4]
  refine ⟨cell, ?_, t2, t3, t4, t5, t6⟩
  rw [hP.2.2.2.1 _ (Nat.not_le.mp t7)]
  exact t1
theorem Rn.iald {a n : Nat} {f : Nat → Int32} {i : Int32} (h : M.2.2.2.2.2[k]? = some (pc, .iaload, 1, z)) (ha : S[a]? = some (.inl (.int, n, .inl f))) (hin : vp_in i n) (hn : Rn d kc ks M (k + 1) ls (.int (f i.toNatClampNeg) :: st) S r S') : Rn d kc ks M k ls (.int i :: .ref a :: st) S r S' := by
  refine ⟨hn.1, ?_⟩
  intro hM g p l e R s m args below meth c Z F E H locs cells slots la hP hS hc hs hl
  obtain ⟨hd, hL, e1, e2⟩ := hM.entry h
  have e2 := e2 rfl
  have hn := hn.2 hM g p l e R s m args below meth c Z F E H locs cells slots la hP hS hc hs hl
  rw [e2] at hn
  rw [e1]
  show W p l e R s m args below meth c H locs cells slots Z (F0 m pc la (.int i :: .ref (xa g a) :: st.map (xv g)))
  by_cases h4 : a < 4
  · obtain ⟨cell, t1, t2, t3, t4, t5, t6⟩ := old_T (locs := locs) hP F.2.2.2.2.2.1.2 h4 ha
    have hlt := in_lt hin
    exact W.iald F.1 F.2.1 t1 t2 t3 (fun q => by rcases q with q | q; exact hin (Or.inl q); omega) (t6 _ hlt) rfl rfl hd hn
  · rw [xa_new (by omega) (hP.lt ha)]
    exact va_iald F.1 F.2.1 F.2.2.2.2.2.1.1 hP.P (a - 4) 0 (n := n) (f := f) (xw_get (by omega) ha) rfl hin hd hn
theorem Rn.bald {a n : Nat} {f : Nat → Int32} {i : Int32} (h : M.2.2.2.2.2[k]? = some (pc, .baload, 1, z)) (ha : S[a]? = some (.inl (.byte, n, .inl f))) (hin : vp_in i n) (hn : Rn d kc ks M (k + 1) ls (.int (f i.toNatClampNeg) :: st) S r S') : Rn d kc ks M k ls (.int i :: .ref a :: st) S r S' := by
  refine ⟨hn.1, ?_⟩
  intro hM g p l e R s m args below meth c Z F E H locs cells slots la hP hS hc hs hl
  obtain ⟨hd, hL, e1, e2⟩ := hM.entry h
  have e2 := e2 rfl
  have hn := hn.2 hM g p l e R s m args below meth c Z F E H locs cells slots la hP hS hc hs hl
  rw [e2] at hn
  rw [e1]
  show W p l e R s m args below meth c H locs cells slots Z (F0 m pc la (.int i :: .ref (xa g a) :: st.map (xv g)))
  by_cases h4 : a < 4
  · obtain ⟨cell, t1, t2, t3, t4, t5, t6⟩ := old_T (locs := locs) hP F.2.2.2.2.2.1.2 h4 ha
    have hlt := in_lt hin
    exact W.bald F.1 F.2.1 t1 t2 t3 (fun q => by rcases q with q | q; exact hin (Or.inl q); omega) (t6 _ hlt) rfl rfl hd hn
  · rw [xa_new (by omega) (hP.lt ha)]
    exact va_bald F.1 F.2.1 F.2.2.2.2.2.1.1 hP.P (a - 4) 1 (n := n) (f := f) (xw_get (by omega) ha) rfl hin hd hn
theorem Rn.zald {a n : Nat} {f : Nat → Int32} {i : Int32} (h : M.2.2.2.2.2[k]? = some (pc, .baload, 1, z)) (h4 : 4 ≤ a) (ha : S[a]? = some (.inl (.boolean, n, .inl f))) (hin : vp_in i n) (hn : Rn d kc ks M (k + 1) ls (.int (f i.toNatClampNeg) :: st) S r S') : Rn d kc ks M k ls (.int i :: .ref a :: st) S r S' := by
  refine ⟨hn.1, ?_⟩
  intro hM g p l e R s m args below meth c Z F E H locs cells slots la hP hS hc hs hl
  obtain ⟨hd, hL, e1, e2⟩ := hM.entry h
  have e2 := e2 rfl
  have hn := hn.2 hM g p l e R s m args below meth c Z F E H locs cells slots la hP hS hc hs hl
  rw [e2] at hn
  rw [e1]
  show W p l e R s m args below meth c H locs cells slots Z (F0 m pc la (.int i :: .ref (xa g a) :: st.map (xv g)))
  rw [xa_new h4 (hP.lt ha)]
  exact va_zald F.1 F.2.1 F.2.2.2.2.2.1.1 hP.P (a - 4) 2 (n := n) (f := f) (xw_get h4 ha) rfl hin hd hn
theorem Rn.lald {a n : Nat} {f : Nat → Int64} {i : Int32} (h : M.2.2.2.2.2[k]? = some (pc, .laload, 1, z)) (h4 : 4 ≤ a) (ha : S[a]? = some (.inl (.long, n, .inr (.inl f)))) (hin : vp_in i n) (hn : Rn d kc ks M (k + 1) ls (.long (f i.toNatClampNeg) :: st) S r S') : Rn d kc ks M k ls (.int i :: .ref a :: st) S r S' := by
  refine ⟨hn.1, ?_⟩
  intro hM g p l e R s m args below meth c Z F E H locs cells slots la hP hS hc hs hl
  obtain ⟨hd, hL, e1, e2⟩ := hM.entry h
  have e2 := e2 rfl
  have hn := hn.2 hM g p l e R s m args below meth c Z F E H locs cells slots la hP hS hc hs hl
  rw [e2] at hn
  rw [e1]
  show W p l e R s m args below meth c H locs cells slots Z (F0 m pc la (.int i :: .ref (xa g a) :: st.map (xv g)))
  rw [xa_new h4 (hP.lt ha)]
  exact va_lald F.1 F.2.1 F.2.2.2.2.2.1.1 hP.P (a - 4) 3 (n := n) (f := f) (xw_get h4 ha) rfl hin hd hn
theorem Rn.alen {a n : Nat} {ty : FieldType} {x : (Nat → Int32) ⊕ (Nat → Int64) ⊕ (Nat → UInt32) ⊕ (Nat → UInt64) ⊕ (Nat → Option Nat)} {v : Int32} (h : M.2.2.2.2.2[k]? = some (pc, .arraylength, 1, z)) (h4 : 4 ≤ a) (ha : S[a]? = some (.inl (ty, n, x))) (hty : ty = .int ∨ ty = .byte ∨ ty = .boolean ∨ ty = .long) (hv : Int32.ofNat n = v) (hn : Rn d kc ks M (k + 1) ls (.int v :: st) S r S') : Rn d kc ks M k ls (.ref a :: st) S r S' := by
  refine ⟨hn.1, ?_⟩
  intro hM g p l e R s m args below meth c Z F E H locs cells slots la hP hS hc hs hl
  obtain ⟨hd, hL, e1, e2⟩ := hM.entry h
  have e2 := e2 rfl
  have hn := hn.2 hM g p l e R s m args below meth c Z F E H locs cells slots la hP hS hc hs hl
  rw [e2] at hn
  rw [e1]
  show W p l e R s m args below meth c H locs cells slots Z (F0 m pc la (.ref (xa g a) :: st.map (xv g)))
  rw [xa_new h4 (hP.lt ha)]
  rcases hty with rfl | rfl | rfl | rfl
  · exact va_alen F.1 F.2.1 F.2.2.2.2.2.1.1 hP.P (a - 4) 0 (xw_get h4 ha) (ty := .int) rfl hv hd hn
  · exact va_alen F.1 F.2.1 F.2.2.2.2.2.1.1 hP.P (a - 4) 1 (xw_get h4 ha) (ty := .byte) rfl hv hd hn
  · exact va_alen F.1 F.2.1 F.2.2.2.2.2.1.1 hP.P (a - 4) 2 (xw_get h4 ha) (ty := .boolean) rfl hv hd hn
  · exact va_alen F.1 F.2.1 F.2.2.2.2.2.1.1 hP.P (a - 4) 3 (xw_get h4 ha) (ty := .long) rfl hv hd hn
/-- the length of the script -/
theorem Rn.slen {a n : Nat} {f : Nat → Int32} {v : Int32} (h : M.2.2.2.2.2[k]? = some (pc, .arraylength, 1, z)) (h4 : a < 4) (ha : S[a]? = some (.inl (.int, n, .inl f))) (hv : Int32.ofNat n = v) (hn : Rn d kc ks M (k + 1) ls (.int v :: st) S r S') : Rn d kc ks M k ls (.ref a :: st) S r S' := by
  refine ⟨hn.1, ?_⟩
  intro hM g p l e R s m args below meth c Z F E H locs cells slots la hP hS hc hs hl
  obtain ⟨hd, hL, e1, e2⟩ := hM.entry h
  have e2 := e2 rfl
  have hn := hn.2 hM g p l e R s m args below meth c Z F E H locs cells slots la hP hS hc hs hl
  rw [e2] at hn
  rw [e1]
  obtain ⟨cell, t1, t2, t3, t4, t5, t6⟩ := old_T (locs := locs) hP F.2.2.2.2.2.1.2 h4 ha
  exact W.alen F.1 F.2.1 t1 t2 (t5.trans hv) rfl rfl hd hn
end CELLS
