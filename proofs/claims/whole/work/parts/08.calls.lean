/-! calls, and a method's contract out of its run -/
theorem xK.calling {g : Gw} {S : Sg} {U : State} {g' : JFrame} {mk : MethodId} {a : Array Value} (h : xK g S U) : xK g S (U.calling g' mk a) := xK.warm (s := U) (U := U.calling g' mk a) (State.WarmedH.refl U) h
theorem goodAll {M : Mt} (h : okC M) : GoodIn wT (wsM M) := fun w hw => by
  rcases List.mem_cons.mp hw with rfl | hw
  · exact ⟨h.facts.2.2.2.1, wT_good h.facts.2.2.2.1⟩
  · exact ⟨hw, wT_good hw⟩
theorem toList_map (g : Gw) (r : Option Value) (st : List Value) : (r.toList ++ st).map (xv g) = (r.map (xv g)).toList ++ st.map (xv g) := by cases r <;> rfl
theorem cat_map (g : Gw) (st : List Value) : ((st.map (xv g)).map fun v => v.category).sum = (st.map fun v => v.category).sum := by
  rw [List.map_map]
  congr 1
  apply List.map_congr_left
  intro v _
  exact xv_cat g v
section CALLS
variable {d kc ks d1 kc1 ks1 : Nat} {M M' : Mt} {k pc i : Nat} {z : List Nat} {ls : List (Option Value)} {st as stk : List Value} {S S1 : Sg} {r r1 : Option Value} {S' : Sg}
/-- what every call has -/
theorem call_B {g : Gw} {p : Program} {R : Room} {s : State} {m : MethodId} {args : Array Value} {meth : Method} {c : Code} (hM' : okC M') (F : xF g S d M p R s m args meth c) (hl : Cond.methodLink M.1.cls i M'.1 ∈ wT) (hd1 : d1 + 1 ≤ d) : CallB R s args M.1.cls i M'.1 M'.2.1 M'.2.2.1 M'.2.2.2.1 (wsM M') { frames := d1, cells := kc1, slots := ks1, locals := 41 * d1 } kc1 ks1 (nPar M') := by
  obtain ⟨f1, f2, f3, f4, f5, f6, -⟩ := hM'.facts
  have hts := F.2.2.2.2.1
  have hR1 := F.2.2.2.2.2.2.2.1
  have hR2 := F.2.2.2.2.2.2.2.2.1
  refine callB_of (nPar M') hts (goodAll hM') rfl rfl rfl (hts _ f5) (hts _ hl) ⟨f3.1, f3.2, f6⟩ ⟨by show d1 + 1 ≤ R.frames; omega, ?_⟩
  show 8 + (M'.2.2.1 + 11) + 41 * d1 ≤ R.locals
  omega
theorem call_N {g : Gw} {p : Program} {R : Room} {s : State} {m : MethodId} {args : Array Value} {meth : Method} {c : Code} (hM' : okC M') (F : xF g S d M p R s m args meth c) (hl : (M.1.cls, i, M'.1) ∈ nstM) (hd1 : d1 + 1 ≤ d) : va_CN R s args M.1.cls i M'.1 "BoughtKin" M'.2.1 M'.2.2.1 M'.2.2.2.1 (wsM M') { frames := d1, cells := kc1, slots := ks1, locals := 41 * d1 } kc1 ks1 (nPar M') := by
  obtain ⟨f1, f2, f3, f4, f5, f6, -⟩ := hM'.facts
  have hts := F.2.2.2.2.1
  have hR1 := F.2.2.2.2.2.2.2.1
  have hR2 := F.2.2.2.2.2.2.2.2.1
  obtain ⟨-, -, -, -, -, -, -, -, -, hm, -⟩ := F.2.2.2.2.2.1.2
  refine va_cnB (nPar M') hts (goodAll hM') rfl rfl rfl (hm _ hl) (hts _ f5) ⟨f3.1, f3.2, f6⟩ ⟨by show d1 + 1 ≤ R.frames; omega, ?_⟩
  show 8 + (M'.2.2.1 + 11) + 41 * d1 ≤ R.locals
  omega
/-- the way on behind a call -/
theorem call_on {g : Gw} {p : Program} {l : Launch} {e : Env} {R : Room} {s : State} {m : MethodId} {args : Array Value} {below : List Frame} {meth : Method} {c : Code} {Z : State → Prop} {H : Heap} {locs : List Loc} {cells slots : Nat} {la : Array Slot} {st0 : List Value} {a : Array Value} (hM : okM M) (F : xF g S d M p R s m args meth c) (hlow : xlow S S1) (hP : xH g S H) (hS : va_S (xA g) s.heap H locs) (hl : xL g la M.2.2.1 ls) (hc : cells + (kc1 + kc) ≤ R.cells) (hs : slots + (ks1 + ks) ≤ R.slots)
    (E : ∀ (H : Heap) (locs : List Loc) (cells slots k' : Nat) (la : Array Slot), xR M k' r → xH g S' H → va_S (xA g) s.heap H locs → cells ≤ R.cells → slots ≤ R.slots → W p l e R s m args below meth c H locs cells slots Z (F0 m (pcAt M k') la ((r.map (xv g)).toList)))
    (hr : va_Run p l e R s m args below meth c H locs cells slots kc1 ks1 (F0 m pc la st0) (st.map (xv g)) ((fun _ _ o t => o = .returned (r1.map (xv g)) ∧ xH g S1 t.heap : Array Value → State → Outcome → State → Prop) a) (xA g)) (e2 : pcAt M (k + 1) = pc + 3) (hn : Rn d kc ks M (k + 1) ls (r1.toList ++ st) S1 r S') : W p l e R s m args below meth c H locs cells slots Z (F0 m pc la st0) := by
  intro T hT X
  obtain ⟨v, st₀, t, T', L, h0, X', hL, e3, e4, ⟨hv, hH⟩, stp⟩ := hr T hT X
  cases hv
  have hH' : xH g S1 T'.heap := by rw [e3]; exact hH
  have hS' : va_S (xA g) s.heap T'.heap (locs ++ L) := by
    refine ⟨?_, fun q h1 h2 => ?_, fun q hq => ?_⟩
    · have := hS.1
      have := hP.1
      have := hH'.1
      have := hlow.2
      omega
    · have hq : q < g.1 := Nat.not_le.mp h2
      rw [hH'.2.2.2.1 q hq, F.2.2.2.2.2.2.2.2.2.1 q hq]
    · rcases List.mem_append.mp hq with h | h
      · exact hS.2.2 q h
      · exact hL q h
  have hn := hn.2 hM g p l e R s m args below meth c Z (F.eqS hlow.1) E T'.heap (locs ++ L) (cells + kc1) (slots + ks1) la hH' hS' (by omega) (by omega) hl
  rw [e2, toList_map] at hn
  obtain ⟨t2, a1, b1⟩ := hn T' rfl X'
  exact ⟨t2, stp t2 a1, b1⟩
theorem Rn.callV {q ci N : Nat} {T : u_T} {fs : List Value} (h : M.2.2.2.2.2[k]? = some (pc, .invokevirtual i, 3, z)) (hl : Cond.methodLink M.1.cls i M'.1 ∈ wT) (hkd : kindM M' = 0) (h4 : 4 ≤ q) (hq : S[q]? = some (.inr (ci, fs))) (hci : vwCl[ci]? = some (M'.1.cls, T, N)) (hC : Cl d1 kc1 ks1 M' (.ref q :: as) S r1 S1) (hd1 : d1 + 1 ≤ d) (hst : stk = as.reverse ++ .ref q :: st) (hlen : as.length = nPar M') (hcat : (st.map fun v => v.category).sum ≤ 8) (hn : Rn d kc ks M (k + 1) ls (r1.toList ++ st) S1 r S') : Rn d (kc1 + kc) (ks1 + ks) M k ls stk S r S' := by
  refine ⟨hC.2.1.tr hn.1, ?_⟩
  intro hM g p l e R s m args below meth c Z F E H locs cells slots la hP hS hc hs hla
  obtain ⟨hd, -, e1, e2⟩ := hM.entry h
  have e2 := e2 rfl
  rw [e1]
  subst hst
  obtain ⟨hM', hlow, hMet⟩ := hC
  have hts := F.2.2.2.2.1
  obtain ⟨g1, g2⟩ := hM'.facts.2.2.2.2.2.2.1 hkd
  have hrec := va_recv F.2.2.2.2.2.1.1 hP.P (q0 := q - 4) hci (xw_get h4 hq)
  rw [← xa_new (g := g) h4 (hP.lt hq)] at hrec
  refine call_on hM F hlow hP hS hla (by omega) (by omega) E (a := (Value.ref (xa g q) :: as.map (xv g)).toArray) (va_runV (As := as.map (xv g)) (rest := st.map (xv g)) ⟨F.1, F.2.1, F.2.2.1, F.2.2.2.1, hts⟩ (hMet g l) ⟨call_B hM' F hl hd1, hts _ g1, hts _ g2⟩ ⟨fun a U g' mk q => ⟨q.1, q.2.1, xK.calling q.2.2.1, q.2.2.2⟩, hrec, fun U hU hW => ⟨rfl, by rw [hU]; exact hP, xK.warm hW F.2.2.2.2.2.1, ?_⟩⟩ rfl (by rw [List.length_map]; exact hlen) hla.1 ?_ ?_ hd ⟨by omega, by omega⟩) e2 hn
  · rw [hU]
    have := hP.1
    omega
  · show List.map (xv g) (as.reverse ++ .ref q :: st) = _
    rw [List.map_append, List.map_reverse]
    rfl
  · show 2 * 0 + _ ≤ 8
    rw [cat_map]
    omega
theorem Rn.callS (h : M.2.2.2.2.2[k]? = some (pc, .invokestatic i, 3, z)) (hl : Cond.methodLink M.1.cls i M'.1 ∈ wT) (hkd : kindM M' = 1) (hC : Cl d1 kc1 ks1 M' as S r1 S1) (hd1 : d1 + 1 ≤ d) (hst : stk = as.reverse ++ st) (hlen : as.length = nPar M') (hcat : (st.map fun v => v.category).sum ≤ 8) (hn : Rn d kc ks M (k + 1) ls (r1.toList ++ st) S1 r S') : Rn d (kc1 + kc) (ks1 + ks) M k ls stk S r S' := by
  refine ⟨hC.2.1.tr hn.1, ?_⟩
  intro hM g p l e R s m args below meth c Z F E H locs cells slots la hP hS hc hs hla
  obtain ⟨hd, -, e1, e2⟩ := hM.entry h
  have e2 := e2 rfl
  rw [e1]
  subst hst
  obtain ⟨hM', hlow, hMet⟩ := hC
  have hts := F.2.2.2.2.1
  have g1 := hM'.facts.2.2.2.2.2.2.2.1 hkd
  refine call_on hM F hlow hP hS hla (by omega) (by omega) E (a := (as.map (xv g)).toArray) (va_runS (As := as.map (xv g)) (rest := st.map (xv g)) ⟨F.1, F.2.1, F.2.2.1, F.2.2.2.1, hts⟩ (hMet g l) ⟨call_B hM' F hl hd1, hts _ g1⟩ ⟨fun a U g' mk q => ⟨q.1, q.2.1, xK.calling q.2.2.1, q.2.2.2⟩, fun U hU hW => ⟨rfl, by rw [hU]; exact hP, xK.warm hW F.2.2.2.2.2.1, ?_⟩⟩ rfl (by rw [List.length_map]; exact hlen) hla.1 ?_ ?_ hd ⟨by omega, by omega⟩) e2 hn
  · rw [hU]
    have := hP.1
    omega
  · show List.map (xv g) (as.reverse ++ st) = _
    rw [List.map_append, List.map_reverse]
  · show 2 * 0 + _ ≤ 8
    rw [cat_map]
    omega
theorem Rn.callI {q : Nat} (h : M.2.2.2.2.2[k]? = some (pc, .invokespecial i, 3, z)) (hl : Cond.methodLink M.1.cls i M'.1 ∈ wT) (hkd : kindM M' = 2) (hC : Cl d1 kc1 ks1 M' (.ref q :: as) S none S1) (hd1 : d1 + 1 ≤ d) (hst : stk = as.reverse ++ .ref q :: st) (hlen : as.length = nPar M') (hcat : (st.map fun v => v.category).sum ≤ 8) (hn : Rn d kc ks M (k + 1) ls st S1 r S') : Rn d (kc1 + kc) (ks1 + ks) M k ls stk S r S' := by
  refine ⟨hC.2.1.tr hn.1, ?_⟩
  intro hM g p l e R s m args below meth c Z F E H locs cells slots la hP hS hc hs hla
  obtain ⟨hd, -, e1, e2⟩ := hM.entry h
  have e2 := e2 rfl
  rw [e1]
  subst hst
  obtain ⟨hM', hlow, hMet⟩ := hC
  have hts := F.2.2.2.2.1
  obtain ⟨g1, g2, g3⟩ := hM'.facts.2.2.2.2.2.2.2.2 hkd
  have hB := call_B (kc1 := kc1) (ks1 := ks1) hM' F hl hd1
  rw [g3] at hB
  refine call_on (r1 := none) hM F hlow hP hS hla (by omega) (by omega) E (a := (Value.ref (xa g q) :: as.map (xv g)).toArray) (va_runI (As := as.map (xv g)) (rest := st.map (xv g)) ⟨F.1, F.2.1, F.2.2.1, F.2.2.2.1, hts⟩ (hMet g l) ⟨hB, g2, hts _ g1⟩ ⟨fun a U g' mk q => ⟨q.1, q.2.1, xK.calling q.2.2.1, q.2.2.2⟩, fun U hU hW => ⟨rfl, by rw [hU]; exact hP, xK.warm hW F.2.2.2.2.2.1, ?_⟩⟩ rfl (by rw [List.length_map]; exact hlen) hla.1 ?_ ?_ hd ⟨by omega, by omega⟩) e2 hn
  · rw [hU]
    have := hP.1
    omega
  · show List.map (xv g) (as.reverse ++ .ref q :: st) = _
    rw [List.map_append, List.map_reverse]
    rfl
  · show 2 * 0 + _ ≤ 8
    rw [cat_map]
    omega
theorem Rn.callSN (h : M.2.2.2.2.2[k]? = some (pc, .invokestatic i, 3, z)) (hl : (M.1.cls, i, M'.1) ∈ nstM) (hkd : kindM M' = 1) (hC : Cl d1 kc1 ks1 M' as S r1 S1) (hd1 : d1 + 1 ≤ d) (hst : stk = as.reverse ++ st) (hlen : as.length = nPar M') (hcat : (st.map fun v => v.category).sum ≤ 8) (hn : Rn d kc ks M (k + 1) ls (r1.toList ++ st) S1 r S') : Rn d (kc1 + kc) (ks1 + ks) M k ls stk S r S' := by
  refine ⟨hC.2.1.tr hn.1, ?_⟩
  intro hM g p l e R s m args below meth c Z F E H locs cells slots la hP hS hc hs hla
  obtain ⟨hd, -, e1, e2⟩ := hM.entry h
  have e2 := e2 rfl
  rw [e1]
  subst hst
  obtain ⟨hM', hlow, hMet⟩ := hC
  have hts := F.2.2.2.2.1
  have g1 := hM'.facts.2.2.2.2.2.2.2.1 hkd
  refine call_on hM F hlow hP hS hla (by omega) (by omega) E (a := (as.map (xv g)).toArray) (va_runSN (As := as.map (xv g)) (rest := st.map (xv g)) ⟨F.1, F.2.1, F.2.2.1, F.2.2.2.1, hts⟩ (hMet g l) ⟨call_N hM' F hl hd1, hts _ g1, trivial⟩ ⟨fun a U g' mk q => ⟨q.1, q.2.1, xK.calling q.2.2.1, q.2.2.2⟩, fun U hU hW => ⟨rfl, by rw [hU]; exact hP, xK.warm hW F.2.2.2.2.2.1, ?_⟩⟩ rfl (by rw [List.length_map]; exact hlen) hla.1 ?_ ?_ hd ⟨by omega, by omega⟩) e2 hn
  · rw [hU]
    have := hP.1
    omega
  · show List.map (xv g) (as.reverse ++ st) = _
    rw [List.map_append, List.map_reverse]
  · show 2 * 0 + _ ≤ 8
    rw [cat_map]
    omega
theorem Rn.callIN {q : Nat} (h : M.2.2.2.2.2[k]? = some (pc, .invokespecial i, 3, z)) (hl : (M.1.cls, i, M'.1) ∈ nstM) (hkd : kindM M' = 2) (hC : Cl d1 kc1 ks1 M' (.ref q :: as) S none S1) (hd1 : d1 + 1 ≤ d) (hst : stk = as.reverse ++ .ref q :: st) (hlen : as.length = nPar M') (hcat : (st.map fun v => v.category).sum ≤ 8) (hn : Rn d kc ks M (k + 1) ls st S1 r S') : Rn d (kc1 + kc) (ks1 + ks) M k ls stk S r S' := by
  refine ⟨hC.2.1.tr hn.1, ?_⟩
  intro hM g p l e R s m args below meth c Z F E H locs cells slots la hP hS hc hs hla
  obtain ⟨hd, -, e1, e2⟩ := hM.entry h
  have e2 := e2 rfl
  rw [e1]
  subst hst
  obtain ⟨hM', hlow, hMet⟩ := hC
  have hts := F.2.2.2.2.1
  obtain ⟨g1, g2, g3⟩ := hM'.facts.2.2.2.2.2.2.2.2 hkd
  have hB := call_N (kc1 := kc1) (ks1 := ks1) hM' F hl hd1
  rw [g3] at hB
  refine call_on (r1 := none) hM F hlow hP hS hla (by omega) (by omega) E (a := (Value.ref (xa g q) :: as.map (xv g)).toArray) (va_runIN (As := as.map (xv g)) (rest := st.map (xv g)) ⟨F.1, F.2.1, F.2.2.1, F.2.2.2.1, hts⟩ (hMet g l) ⟨hB, g2, hts _ g1⟩ ⟨fun a U g' mk q => ⟨q.1, q.2.1, xK.calling q.2.2.1, q.2.2.2⟩, fun U hU hW => ⟨rfl, by rw [hU]; exact hP, xK.warm hW F.2.2.2.2.2.1, ?_⟩⟩ rfl (by rw [List.length_map]; exact hlen) hla.1 ?_ ?_ hd ⟨by omega, by omega⟩) e2 hn
  · rw [hU]
    have := hP.1
    omega
  · show List.map (xv g) (as.reverse ++ .ref q :: st) = _
    rw [List.map_append, List.map_reverse]
    rfl
  · show 2 * 0 + _ ≤ 8
    rw [cat_map]
    omega
end CALLS
/-- the locals at a method's entry -/
def xls : List Value → List (Option Value)
  | [] => []
  | v :: vs => if v.category = 2 then some v :: none :: xls vs else some v :: xls vs
theorem xls_at : ∀ (as : List Value) (g : Gw) (b i : Nat) (v : Value), (xls as)[i]? = some (some v) → (b + i, xv g v) ∈ lv_args b (as.map (xv g))
  | [], _, _, _, _, h => by simp [xls] at h
  | w :: ws, g, b, i, v, h => by
    unfold xls at h
    show (b + i, xv g v) ∈ (b, xv g w) :: lv_args (if (xv g w).category = 2 then b + 2 else b + 1) (ws.map (xv g))
    rw [xv_cat]
    by_cases hc : w.category = 2
    · rw [if_pos hc] at h ⊢
      match i, h with
      | 0, h => simp at h; subst h; exact List.mem_cons_self
      | 1, h => simp at h
      | j + 2, h =>
        have := xls_at ws g (b + 2) j v (by simpa using h)
        rw [show b + (j + 2) = b + 2 + j by omega]
        exact List.mem_cons_of_mem _ this
    · rw [if_neg hc] at h ⊢
      match i, h with
      | 0, h => simp at h; subst h; exact List.mem_cons_self
      | j + 1, h =>
        have := xls_at ws g (b + 1) j v (by simpa using h)
        rw [show b + (j + 1) = b + 1 + j by omega]
        exact List.mem_cons_of_mem _ this
theorem lg_len (g : Gw) : ∀ as : List Value, (lg_sl (as.map (xv g))).length = (lg_sl as).length
  | [] => rfl
  | v :: vs => by
    have := lg_len g vs
    simp only [lg_sl, List.map_cons, List.flatMap_cons, List.length_append, xv_cat] at this ⊢
    rw [this]
    congr 1
    split <;> rfl
set_option maxHeartbeats 1000000 in
theorem Cl.of {d kc ks : Nat} {M : Mt} {as : List Value} {ls : List (Option Value)} {S S' : Sg} {r : Option Value} (hM : okC M) (hls : ∀ (i : Nat) (v : Value), ls[i]? = some (some v) → (xls as)[i]? = some (some v)) (hlen : (lg_sl as).length ≤ M.2.2.1) (h0 : pcAt M 0 = 0) (hn : Rn d kc ks M 0 ls [] S r S') : Cl d kc ks M as S r S' := by
  refine ⟨hM, hn.1, fun g l => ?_⟩
  refine Met.ofW (cc := M.2.1) (maxL := M.2.2.1) (ret := M.2.2.2.1) hM.facts.1 rfl ?_
  intro p e s m args below meth c s₁ B hml hv
  obtain ⟨rfl, hH, hK, hsz⟩ := hv
  have hts := atoms_spec (ws := wsM M) B.pre
  have hr := B.returns
  have hlocks := B.notSynchronized
  have hl := lv_entry (as.map (xv g)) (n := M.2.2.1) (by rw [lg_len]; exact hlen)
  rw [lg_entry_eq]
  generalize (lg_sl (as.map (xv g)) ++ List.replicate (M.2.2.1 - (lg_sl (as.map (xv g))).length) Slot.unset).toArray = la at hl ⊢
  have hL : xL g la M.2.2.1 ls := ⟨hl.1, hl.2.1, fun i v h => by
    have := hl.2.2 _ (xls_at as g 0 i v (hls i v h))
    simpa using this⟩
  have hF : xF g S d M p (headSpec (wsM M) { frames := d, cells := kc, slots := ks, locals := 41 * d }).room s m (as.map (xv g)).toArray meth c := ⟨B.exec, B.bytes, hml, findClass_of_methodNamed B.named, fun w hw => hts w (List.mem_cons_of_mem _ hw), hK, hsz, Nat.le_refl _, Nat.le_refl _, hH.2.2.2.1, fun h => ((name_of_methodNamed B.named B.method).1).trans h⟩
  have := hn.2 hM.2.2 g p l e _ s m _ below meth c (MQ below (fun _ _ o t => o = .returned (r.map (xv g)) ∧ xH g S' t.heap) (as.map (xv g)).toArray s kc ks (xA g)) hF ?_ s.heap [] 0 0 la hH va_S.rf (by show 0 + kc ≤ kc; omega) (by show 0 + ks ≤ ks; omega) hL
  · rw [h0] at this
    exact this
  · intro H locs cells slots k' la' hx hH' hS' hcc hss
    obtain ⟨en, he, hle, hx⟩ := hx
    obtain ⟨hd, -, e1, -⟩ := okM.entry hM.2.2 he
    obtain ⟨pc, ins, len, zz⟩ := en
    have hle : len = 1 := hle
    subst hle
    rw [e1]
    have hcc : cells ≤ kc := hcc
    have hss : slots ≤ ks := hss
    refine W.widen hcc hss ?_
    match r, hx with
    | none, ⟨h1, h2⟩ =>
      have h1 : ins = .return_ := h1
      subst h1
      exact W.vret B.exec B.bytes (hr.trans h2) (fun t ht _ => ⟨rfl, by rw [ht]; exact hH'⟩) hS'.2.2 hd
    | some (.int v), ⟨h1, ty, h2, h3⟩ =>
      have h1 : ins = .ireturn := h1
      subst h1
      exact W.zret B.exec B.bytes (hr.trans h2) h3 (fun t ht _ => ⟨rfl, by rw [ht]; exact hH'⟩) hS'.2.2 hd
    | some (.long v), ⟨h1, h2⟩ =>
      have h1 : ins = .lreturn := h1
      subst h1
      exact W.lret B.exec B.bytes (hr.trans h2) (fun t ht _ => ⟨rfl, by rw [ht]; exact hH'⟩) hS'.2.2 hd
    | some (.ref v), ⟨h1, nn, h2⟩ =>
      have h1 : ins = .areturn := h1
      subst h1
      exact W.aret (v := .ref (xa g v)) B.exec B.bytes (hr.trans h2) (Or.inl ⟨nn, rfl⟩) (Or.inr ⟨_, rfl⟩) (fun t ht _ => ⟨rfl, by rw [ht]; exact hH'⟩) hS'.2.2 hd
    | some .null, ⟨h1, nn, h2⟩ =>
      have h1 : ins = .areturn := h1
      subst h1
      exact W.aret (v := .null) B.exec B.bytes (hr.trans h2) (Or.inl ⟨nn, rfl⟩) (Or.inl rfl) (fun t ht _ => ⟨rfl, by rw [ht]; exact hH'⟩) hS'.2.2 hd
