/-! blocks of cells, pictures of them: what all classes' pictures have in common -/
theorem Rn.retz {d kc ks : Nat} {M : Mt} {k pc : Nat} {z : List Nat} {ls : List (Option Value)} {S S2 : Sg} {v w : Int32} {ty : FieldType} (h : M.2.2.2.2.2[k]? = some (pc, .ireturn, 1, z)) (ht : M.2.2.2.1 = some ty) (hv : v = w) (hn : narrow ty (.int w) = .int w) (hS : S = S2) : Rn d kc ks M k ls [.int v] S (some (.int w)) S2 := by
  subst hv
  subst hS
  exact Rn.reti h ht hn
theorem Rn.retw {d kc ks : Nat} {M : Mt} {k pc : Nat} {z : List Nat} {ls : List (Option Value)} {S S2 : Sg} (h : M.2.2.2.2.2[k]? = some (pc, .return_, 1, z)) (ht : M.2.2.2.1 = none) (hS : S = S2) : Rn d kc ks M k ls [] S none S2 := by
  subst hS
  exact Rn.retv h ht
theorem Rn.retq {d kc ks : Nat} {M : Mt} {k pc : Nat} {z : List Nat} {ls : List (Option Value)} {S S2 : Sg} {v w : Int64} (h : M.2.2.2.2.2[k]? = some (pc, .lreturn, 1, z)) (ht : M.2.2.2.1 = some .long) (hv : v = w) (hS : S = S2) : Rn d kc ks M k ls [.long v] S (some (.long w)) S2 := by
  subst hv
  subst hS
  exact Rn.retl h ht
theorem Rn.atS {d kc ks : Nat} {M : Mt} {k : Nat} {ls : List (Option Value)} {st : List Value} {S S1 S' : Sg} {r : Option Value} (h : S1 = S) (hn : Rn d kc ks M k ls st S1 r S') : Rn d kc ks M k ls st S r S' := by
  subst h
  exact hn
def b2i (b : Bool) : Int32 := if b then 1 else 0
theorem b2i_nar (b : Bool) : narrow .boolean (.int (b2i b)) = .int (b2i b) := by cases b <;> rfl
theorem b2i_fit (b : Bool) : fits .boolean (.int (b2i b)) = true := by cases b <;> rfl
theorem b2i_eq0 {b : Bool} : b2i b = 0 ↔ b = false := by cases b <;> decide
theorem b2i_eq1 {b : Bool} : b2i b = 1 ↔ b = true := by cases b <;> decide
/-- the cells cs stand from b on -/
def blk (S : Sg) (b : Nat) (cs : List Cel) : Prop := b + cs.length ≤ S.length ∧ ∀ (j : Nat) (c : Cel), cs[j]? = some c → S[b + j]? = some c
/-- the cells from b on replaced by cs -/
def blkPut (S : Sg) (b : Nat) (cs : List Cel) : Sg := S.mapIdx (fun k c => if b ≤ k then (cs[k - b]?).getD c else c)
theorem blkPut_get (S : Sg) (b : Nat) (cs : List Cel) (k : Nat) : (blkPut S b cs)[k]? = (S[k]?).map (fun c => if b ≤ k then (cs[k - b]?).getD c else c) := by
  unfold blkPut
  rw [List.getElem?_mapIdx]
theorem blkPut_len (S : Sg) (b : Nat) (cs : List Cel) : (blkPut S b cs).length = S.length := by
  unfold blkPut
  rw [List.length_mapIdx]
theorem blkPut_off {S : Sg} {b : Nat} {cs : List Cel} {k : Nat} (h : k < b ∨ b + cs.length ≤ k) : (blkPut S b cs)[k]? = S[k]? := by
  rw [blkPut_get]
  cases S[k]? with
  | none => rfl
  | some c =>
    simp only [Option.map_some]
    rcases h with h | h
    · rw [if_neg (by omega)]
    · rw [if_pos (by omega), List.getElem?_eq_none (by omega)]
      rfl
theorem blkPut_in {S : Sg} {b : Nat} {cs : List Cel} (hl : b + cs.length ≤ S.length) {j : Nat} {c : Cel} (hc : cs[j]? = some c) : (blkPut S b cs)[b + j]? = some c := by
  have hj : j < cs.length := (List.getElem?_eq_some_iff.mp hc).1
  have hS : S[b + j]? = some S[b + j] := List.getElem?_eq_getElem (by omega)
  rw [blkPut_get, hS]
  show some (if b ≤ b + j then (cs[b + j - b]?).getD _ else _) = some c
  rw [if_pos (by omega), show b + j - b = j by omega, hc]
  rfl
theorem blkPut_blk {S : Sg} {b : Nat} {cs : List Cel} (hl : b + cs.length ≤ S.length) : blk (blkPut S b cs) b cs := ⟨by rw [blkPut_len]; exact hl, fun _ _ hc => blkPut_in hl hc⟩
theorem blkPut_blkPut (S : Sg) (b : Nat) {cs cs' : List Cel} (hl : cs.length = cs'.length) : blkPut (blkPut S b cs) b cs' = blkPut S b cs' := by
  apply List.ext_getElem?
  intro k
  rw [blkPut_get, blkPut_get, blkPut_get]
  cases S[k]? with
  | none => rfl
  | some c =>
    simp only [Option.map_some]
    by_cases h : b ≤ k
    · rw [if_pos h, if_pos h, if_pos h]
      cases h1 : cs'[k - b]? with
      | some c1 => rfl
      | none =>
        have := List.getElem?_eq_none_iff.mp h1
        have h2 : cs[k - b]? = none := List.getElem?_eq_none (by omega)
        rw [h2]
        rfl
    · rw [if_neg h, if_neg h, if_neg h]
theorem blk.self {S : Sg} {b : Nat} {cs : List Cel} (h : blk S b cs) : blkPut S b cs = S := by
  apply List.ext_getElem?
  intro k
  by_cases hk : b ≤ k ∧ k < b + cs.length
  · have hc : cs[k - b]? = some cs[k - b] := List.getElem?_eq_getElem (by omega)
    have h1 := h.2 _ _ hc
    rw [show b + (k - b) = k by omega] at h1
    rw [blkPut_get, h1]
    simp only [Option.map_some]
    rw [if_pos hk.1, hc]
    rfl
  · rw [blkPut_off (by omega)]
theorem blk.set {S : Sg} {b : Nat} {cs cs' : List Cel} (h : blk S b cs) {j q : Nat} {c : Cel} (hq : q = b + j) (hj : j < cs.length) (hs : cs.set j c = cs') : S.set q c = blkPut S b cs' := by
  subst hq
  subst hs
  apply List.ext_getElem?
  intro k
  have hl := h.1
  rw [List.getElem?_set]
  by_cases h0 : b + j = k
  · subst h0
    rw [if_pos rfl, if_pos (by omega)]
    rw [blkPut_in (by rw [List.length_set]; omega) (by rw [List.getElem?_set_self hj])]
  · rw [if_neg h0]
    by_cases hk : b ≤ k ∧ k < b + cs.length
    · have hc : cs[k - b]? = some cs[k - b] := List.getElem?_eq_getElem (by omega)
      have h1 := h.2 _ _ hc
      rw [show b + (k - b) = k by omega] at h1
      have h2 : (cs.set j c)[k - b]? = some cs[k - b] := by rw [List.getElem?_set, if_neg (by omega)]; exact hc
      have := blkPut_in (S := S) (b := b) (by rw [List.length_set]; omega) h2
      rw [show b + (k - b) = k by omega] at this
      rw [this, h1]
    · rw [blkPut_off (by rw [List.length_set]; omega)]
/-- a block within a block -/
theorem blk.mid {S : Sg} {b o : Nat} {cs pre mid post : List Cel} (h : blk S b cs) (hcs : cs = pre ++ mid ++ post) (ho : o = b + pre.length) : blk S o mid := by
  subst hcs
  subst ho
  refine ⟨by have := h.1; simp only [List.length_append] at this; omega, fun j c hc => ?_⟩
  have hj : j < mid.length := (List.getElem?_eq_some_iff.mp hc).1
  have := h.2 (pre.length + j) c (by rw [List.append_assoc, List.getElem?_append_right (by omega), show pre.length + j - pre.length = j by omega, List.getElem?_append_left hj]; exact hc)
  rw [← Nat.add_assoc] at this
  exact this
theorem blk.midPut {S : Sg} {b o : Nat} {cs cs' pre mid mid' post : List Cel} (h : blk S b cs) (hcs : cs = pre ++ mid ++ post) (hcs' : cs' = pre ++ mid' ++ post) (hl : mid.length = mid'.length) (ho : o = b + pre.length) : blkPut S o mid' = blkPut S b cs' := by
  subst hcs
  subst hcs'
  subst ho
  apply List.ext_getElem?
  intro k
  have hle := h.1
  simp only [List.length_append] at hle
  by_cases hk : b ≤ k ∧ k < b + (pre ++ mid ++ post).length
  · have hc : (pre ++ mid ++ post)[k - b]? = some (pre ++ mid ++ post)[k - b] := List.getElem?_eq_getElem (by omega)
    have h1 := h.2 _ _ hc
    rw [show b + (k - b) = k by omega] at h1
    simp only [List.length_append] at hk
    by_cases h2 : b + pre.length ≤ k ∧ k < b + pre.length + mid.length
    · have hm : mid'[k - (b + pre.length)]? = some mid'[k - (b + pre.length)] := List.getElem?_eq_getElem (by omega)
      have e1 := blkPut_in (S := S) (b := b + pre.length) (by omega) hm
      rw [show b + pre.length + (k - (b + pre.length)) = k by omega] at e1
      have hm2 : (pre ++ mid' ++ post)[k - b]? = some mid'[k - (b + pre.length)] := by
        rw [List.append_assoc, List.getElem?_append_right (by omega), List.getElem?_append_left (by omega), show k - b - pre.length = k - (b + pre.length) by omega]
        exact hm
      have e2 := blkPut_in (S := S) (b := b) (by simp only [List.length_append]; omega) hm2
      rw [show b + (k - b) = k by omega] at e2
      rw [e1, e2]
    · rw [blkPut_off (by omega)]
      have hm2 : (pre ++ mid' ++ post)[k - b]? = (pre ++ mid ++ post)[k - b]? := by
        by_cases h3 : k < b + pre.length
        · rw [List.append_assoc, List.append_assoc, List.getElem?_append_left (by omega), List.getElem?_append_left (by omega)]
        · rw [List.getElem?_append_right (by simp only [List.length_append]; omega), List.getElem?_append_right (by simp only [List.length_append]; omega)]
          simp only [List.length_append, hl]
      have e2 := blkPut_in (S := S) (b := b) (by simp only [List.length_append]; omega) (hm2.trans hc)
      rw [show b + (k - b) = k by omega] at e2
      rw [e2, h1]
  · simp only [List.length_append] at hk
    rw [blkPut_off (by omega), blkPut_off (by simp only [List.length_append]; omega)]
theorem Rn.cg {d kc ks : Nat} {M : Mt} {k : Nat} {ls : List (Option Value)} {st : List Value} {S S' S2 : Sg} {r r2 : Option Value} (hr : r = r2) (hS : S' = S2) (hn : Rn d kc ks M k ls st S r2 S2) : Rn d kc ks M k ls st S r S' := by
  subst hr
  subst hS
  exact hn
/-- fewer locals are known -/
theorem Rn.forget {d kc ks : Nat} {M : Mt} {k : Nat} {ls ls' : List (Option Value)} {st : List Value} {S S' : Sg} {r : Option Value} (h : ∀ (i : Nat) (v : Value), ls'[i]? = some (some v) → ls[i]? = some (some v)) (hn : Rn d kc ks M k ls' st S r S') : Rn d kc ks M k ls st S r S' := by
  refine ⟨hn.1, ?_⟩
  intro hM g p l e R s m args below meth c Z F E H locs cells slots la hP hS hc hs hl
  exact hn.2 hM g p l e R s m args below meth c Z F E H locs cells slots la hP hS hc hs ⟨hl.1, hl.2.1, fun i v hv => hl.2.2 i v (h i v hv)⟩
/-- a picture: the numbers of cell o (fields of an object, elements of a row), the longs, the references of rows -/
abbrev Pic : Type := (Nat → Nat → Int32) × (Nat → Nat → Int64) × (Nat → Nat → Option Nat)
def pcI (X : Pic) (o : Nat) (f : Nat → Int32) : Pic := (va_up X.1 o f, X.2.1, X.2.2)
def pcL (X : Pic) (o : Nat) (f : Nat → Int64) : Pic := (X.1, va_up X.2.1 o f, X.2.2)
def pcQ (X : Pic) (o : Nat) (f : Nat → Option Nat) : Pic := (X.1, X.2.1, va_up X.2.2 o f)
/-- the part of a picture from cell n on -/
def pcSh (X : Pic) (n : Nat) : Pic := (fun o => X.1 (n + o), fun o => X.2.1 (n + o), fun o => X.2.2 (n + o))
/-- a picture with another one laid over the cells n .. n + l - 1 -/
def pcOv (X : Pic) (n l : Nat) (Y : Pic) : Pic := (fun o => if n ≤ o ∧ o < n + l then Y.1 (o - n) else X.1 o, fun o => if n ≤ o ∧ o < n + l then Y.2.1 (o - n) else X.2.1 o, fun o => if n ≤ o ∧ o < n + l then Y.2.2 (o - n) else X.2.2 o)
/-- cells as a function of base and picture -/
abbrev Cls : Type := Nat → Pic → List Cel
def pcAt_ (C : Cls) (S : Sg) (b : Nat) (X : Pic) : Prop := 4 ≤ b ∧ blk S b (C b X)
def pcW (C : Cls) (S : Sg) (b : Nat) (X : Pic) : Sg := blkPut S b (C b X)
theorem pcAt_.c {C : Cls} {S : Sg} {b : Nat} {X : Pic} (h : pcAt_ C S b X) (j : Nat) {q : Nat} {c : Cel} (hq : q = b + j) (hc : (C b X)[j]? = some c) : S[q]? = some c := by
  subst hq
  exact h.2.2 j c hc
theorem pcAt_.four {C : Cls} {S : Sg} {b : Nat} {X : Pic} (h : pcAt_ C S b X) {q : Nat} (j : Nat) (hq : q = b + j) : 4 ≤ q := by
  have := h.1
  omega
theorem pcAt_.w {C : Cls} {S : Sg} {b : Nat} {X : Pic} (h : pcAt_ C S b X) (X' : Pic) (j : Nat) {q : Nat} {c : Cel} (hq : q = b + j) (hj : j < (C b X).length) (hs : (C b X).set j c = C b X') : S.set q c = pcW C S b X' := h.2.set hq hj hs
theorem pcAt_.put {C : Cls} {S : Sg} {b : Nat} {X : Pic} (h : pcAt_ C S b X) (X' : Pic) (hl : (C b X).length = (C b X').length) : pcAt_ C (pcW C S b X') b X' := ⟨h.1, blkPut_blk (by rw [← hl]; exact h.2.1)⟩
theorem pcW_W {C : Cls} {S : Sg} {b : Nat} {X X' : Pic} (hl : (C b X).length = (C b X').length) : pcW C (pcW C S b X) b X' = pcW C S b X' := blkPut_blkPut S b hl
theorem pcAt_.self {C : Cls} {S : Sg} {b : Nat} {X : Pic} (h : pcAt_ C S b X) : pcW C S b X = S := h.2.self
theorem pcAt_.off {C D : Cls} {S : Sg} {b b2 : Nat} {X Y : Pic} (h : pcAt_ D S b2 Y) (hd : b + (C b X).length ≤ b2 ∨ b2 + (D b2 Y).length ≤ b) : pcAt_ D (pcW C S b X) b2 Y := by
  refine ⟨h.1, by unfold pcW; rw [blkPut_len]; exact h.2.1, fun j c hc => ?_⟩
  have hj : j < (D b2 Y).length := (List.getElem?_eq_some_iff.mp hc).1
  unfold pcW
  rw [blkPut_off (by omega)]
  exact h.2.2 j c hc
/-- a picture within a picture -/
theorem pcAt_.mid {C D : Cls} {S : Sg} {b o : Nat} {X : Pic} {pre post : List Cel} (h : pcAt_ C S b X) (hcs : C b X = pre ++ D (b + o) (pcSh X o) ++ post) (ho : o = pre.length) : pcAt_ D S (b + o) (pcSh X o) := ⟨by have := h.1; omega, h.2.mid hcs (by rw [ho])⟩
theorem pcAt_.midW {C D : Cls} {S : Sg} {b o : Nat} {X Y X' : Pic} {pre post : List Cel} (h : pcAt_ C S b X) (hcs : C b X = pre ++ D (b + o) (pcSh X o) ++ post) (hcs' : C b X' = pre ++ D (b + o) Y ++ post) (hl : (D (b + o) (pcSh X o)).length = (D (b + o) Y).length) (ho : o = pre.length) : pcW D S (b + o) Y = pcW C S b X' := h.2.midPut hcs hcs' hl (by rw [ho])
/-- PEOPLE. Cell 0: size, the sold as bits; rows: 1 sex, 2 born, 3 lived, 4 noble, 5 debt, 6 house, 7 purse, 8 father, 9 mother, 10 line, 11 chests -/
def ppC : Cls := fun b X => [.inr (5, [.int (X.1 0 0), .int (X.1 0 1), .ref (b + 1), .ref (b + 2), .ref (b + 3), .ref (b + 4), .ref (b + 5), .ref (b + 6), .ref (b + 7), .ref (b + 8), .ref (b + 9), .ref (b + 10), .ref (b + 11)]),
  .inl (.int, 16, .inl (X.1 1)), .inl (.int, 16, .inl (X.1 2)), .inl (.int, 16, .inl (X.1 3)), .inl (.int, 16, .inl (X.1 4)), .inl (.int, 16, .inl (X.1 5)), .inl (.int, 16, .inl (X.1 6)), .inl (.int, 16, .inl (X.1 7)), .inl (.int, 16, .inl (X.1 8)), .inl (.int, 16, .inl (X.1 9)), .inl (.int, 16, .inl (X.1 10)), .inl (.int, 6, .inl (X.1 11))]
/-- a row of 16 numbers -/
def rwC : Cls := fun _ X => [.inl (.int, 16, .inl (X.1 0))]
theorem ppC_WW {S : Sg} {b : Nat} {X X' : Pic} : pcW ppC (pcW ppC S b X) b X' = pcW ppC S b X' := pcW_W rfl
theorem rwC_WW {S : Sg} {b : Nat} {X X' : Pic} : pcW rwC (pcW rwC S b X) b X' = pcW rwC S b X' := pcW_W rfl
section CALL0
variable {d kc ks d1 : Nat} {M M' : Mt} {k pc i : Nat} {z : List Nat} {ls : List (Option Value)} {st as stk : List Value} {S S1 : Sg} {r r1 : Option Value} {S' : Sg}
/-- calls that make nothing -/
theorem Rn.callV0 {q ci N : Nat} {T : u_T} {fs : List Value} (h : M.2.2.2.2.2[k]? = some (pc, .invokevirtual i, 3, z)) (hl : Cond.methodLink M.1.cls i M'.1 ∈ wT) (hkd : kindM M' = 0) (h4 : 4 ≤ q) (hq : S[q]? = some (.inr (ci, fs))) (hci : vwCl[ci]? = some (M'.1.cls, T, N)) (hC : Cl d1 0 0 M' (.ref q :: as) S r1 S1) (hd1 : d1 + 1 ≤ d) (hst : stk = as.reverse ++ .ref q :: st) (hlen : as.length = nPar M') (hcat : (st.map fun v => v.category).sum ≤ 8) (hn : Rn d kc ks M (k + 1) ls (r1.toList ++ st) S1 r S') : Rn d kc ks M k ls stk S r S' := by
  have := Rn.callV h hl hkd h4 hq hci hC hd1 hst hlen hcat hn
  rwa [Nat.zero_add, Nat.zero_add] at this
theorem Rn.callS0 (h : M.2.2.2.2.2[k]? = some (pc, .invokestatic i, 3, z)) (hl : Cond.methodLink M.1.cls i M'.1 ∈ wT) (hkd : kindM M' = 1) (hC : Cl d1 0 0 M' as S r1 S1) (hd1 : d1 + 1 ≤ d) (hst : stk = as.reverse ++ st) (hlen : as.length = nPar M') (hcat : (st.map fun v => v.category).sum ≤ 8) (hn : Rn d kc ks M (k + 1) ls (r1.toList ++ st) S1 r S') : Rn d kc ks M k ls stk S r S' := by
  have := Rn.callS h hl hkd hC hd1 hst hlen hcat hn
  rwa [Nat.zero_add, Nat.zero_add] at this
theorem Rn.callSN0 (h : M.2.2.2.2.2[k]? = some (pc, .invokestatic i, 3, z)) (hl : (M.1.cls, i, M'.1) ∈ nstM) (hkd : kindM M' = 1) (hC : Cl d1 0 0 M' as S r1 S1) (hd1 : d1 + 1 ≤ d) (hst : stk = as.reverse ++ st) (hlen : as.length = nPar M') (hcat : (st.map fun v => v.category).sum ≤ 8) (hn : Rn d kc ks M (k + 1) ls (r1.toList ++ st) S1 r S') : Rn d kc ks M k ls stk S r S' := by
  have := Rn.callSN h hl hkd hC hd1 hst hlen hcat hn
  rwa [Nat.zero_add, Nat.zero_add] at this
end CALL0
