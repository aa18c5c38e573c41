/-! rules that read and write cells -/
theorem xa_new {g : Gw} {k : Nat} (h4 : 4 ≤ k) (h : k < 1000000000) : xa g k = g.1 + (k - 4) := by
  unfold xa
  rw [if_neg (by omega), if_pos h]
theorem xa_old {g : Gw} {k : Nat} (h4 : k < 4) : xa g k = g.2.2.1 k := by
  unfold xa
  rw [if_pos h4]
/-- the cells as a world of the kit -/
def xw (g : Gw) (S : Sg) : va_W := (S.drop 4).zipIdx.map (fun q => (g.1 + q.2, xe g q.1))
theorem xw_get {g : Gw} {S : Sg} {k : Nat} {c : Cel} (h4 : 4 ≤ k) (h : S[k]? = some c) : (xw g S)[k - 4]? = some (g.1 + (k - 4), xe g c) := by
  unfold xw
  rw [List.getElem?_map, List.getElem?_zipIdx, List.getElem?_drop, show 4 + (k - 4) = k by omega, h]
  simp
theorem xw_inv {g : Gw} {S : Sg} {j : Nat} {q : Nat × va_E} (h : (xw g S)[j]? = some q) : ∃ c, S[4 + j]? = some c ∧ q = (g.1 + j, xe g c) := by
  unfold xw at h
  rw [List.getElem?_map, List.getElem?_zipIdx, List.getElem?_drop] at h
  cases hc : S[4 + j]? with
  | none => rw [hc] at h; simp at h
  | some c =>
    rw [hc] at h
    simp only [Option.map_some, Nat.zero_add, Option.some.injEq] at h
    exact ⟨c, rfl, h.symm⟩
theorem xH.P {g : Gw} {S : Sg} {H : Heap} (h : xH g S H) : va_P g.2.2.2.1 vwCl (xw g S) H := by
  intro j q hq
  obtain ⟨c, hc, rfl⟩ := xw_inv hq
  have := h.2.2.2.2 (4 + j) c (by omega) hc
  rw [show 4 + j - 4 = j by omega] at this
  exact this
theorem xH.D {g : Gw} {S : Sg} : va_D (xA g) (xw g S) := by
  refine ⟨fun i j p q hp hq e => ?_, fun k q hq => ?_⟩
  · obtain ⟨_, _, rfl⟩ := xw_inv hp
    obtain ⟨_, _, rfl⟩ := xw_inv hq
    simp only at e
    omega
  · obtain ⟨_, _, rfl⟩ := xw_inv hq
    exact Nat.le_add_right _ _
theorem xH.lt {g : Gw} {S : Sg} {H : Heap} (h : xH g S H) {k : Nat} {c : Cel} (hk : S[k]? = some c) : k < 1000000000 := Nat.lt_of_lt_of_le (List.getElem?_eq_some_iff.mp hk).1 h.2.2.1
/-- one cell written -/
theorem xH.upd {g : Gw} {S : Sg} {H H1 : Heap} {k : Nat} {c c1 : Cel} (h : xH g S H) (h4 : 4 ≤ k) (hk : S[k]? = some c) (hz : H1.size = H.size) (oq : ∀ q : Nat, q ≠ g.1 + (k - 4) → H1[q]? = H[q]?) (hc : va_at g.2.2.2.1 vwCl (g.1 + (k - 4), xe g c1) H1) : xH g (S.set k c1) H1 := by
  obtain ⟨e1, e2, e3, e4, e5⟩ := h
  refine ⟨by rw [hz, e1, List.length_set], by rw [List.length_set]; exact e2, by rw [List.length_set]; exact e3, fun q hq => by rw [oq q (by omega)]; exact e4 q hq, fun j cj hj hcj => ?_⟩
  rw [List.getElem?_set] at hcj
  by_cases hkj : k = j
  · subst hkj
    rw [if_pos rfl] at hcj
    split at hcj
    · cases hcj
      exact hc
    · cases hcj
  · rw [if_neg hkj] at hcj
    exact (e5 j cj hj hcj).kept (oq _ (by simp only; omega))
/-- one cell made -/
theorem xH.push {g : Gw} {S : Sg} {H H1 : Heap} {c1 : Cel} (h : xH g S H) (hl : S.length + 1 ≤ 1000000000) (hz : H1.size = H.size + 1) (oq : ∀ q : Nat, q < H.size → H1[q]? = H[q]?) (hc : va_at g.2.2.2.1 vwCl (H.size, xe g c1) H1) : xH g (S ++ [c1]) H1 := by
  obtain ⟨e1, e2, e3, e4, e5⟩ := h
  refine ⟨by rw [hz, e1, List.length_append, List.length_singleton]; omega, by rw [List.length_append, List.length_singleton]; omega, by rw [List.length_append, List.length_singleton]; exact hl, fun q hq => by rw [oq q (by omega)]; exact e4 q hq, fun j cj hj hcj => ?_⟩
  by_cases hjl : j < S.length
  · rw [List.getElem?_append_left hjl] at hcj
    exact (e5 j cj hj hcj).kept (oq _ (by simp only; omega))
  · rw [List.getElem?_append_right (by omega)] at hcj
    have hz : j - S.length < 1 := (List.getElem?_eq_some_iff.mp hcj).1
    rw [show j - S.length = 0 by omega] at hcj
    cases hcj
    rw [show g.1 + (j - 4) = H.size by omega]
    exact hc
theorem xF.eqS {g : Gw} {S S' : Sg} {d : Nat} {M : Mt} {p : Program} {R : Room} {s : State} {m : MethodId} {args : Array Value} {meth : Method} {c : Code} (F : xF g S d M p R s m args meth c) (he : ∀ k, k < 4 → S'[k]? = S[k]?) : xF g S' d M p R s m args meth c := by
  obtain ⟨a1, a2, a3, a4, a5, a6, a7⟩ := F
  exact ⟨a1, a2, a3, a4, a5, a6.eqS he, a7⟩
theorem set_low {S : Sg} {k : Nat} {c : Cel} (h4 : 4 ≤ k) : ∀ j, j < 4 → (S.set k c)[j]? = S[j]? := fun j hj => by rw [List.getElem?_set, if_neg (by omega)]
theorem app_low {S : Sg} {c : Cel} (h4 : 4 ≤ S.length) : ∀ j, j < 4 → (S ++ [c])[j]? = S[j]? := fun j hj => List.getElem?_append_left (by omega)
/-- the classes' fields: their types, their names, their words -/
def vwTy (ci : Nat) : Nat → FieldType := match ci with
  | 0 => tyX0 | 1 => tyX1 | 2 => tyX2 | 3 => tyX3 | 4 => tyX4 | 5 => tyX5 | 6 => tyX6 | 7 => tyX7 | 8 => tyX8 | 9 => tyX9 | 10 => tyX10 | 11 => tyX11 | _ => tyX12
theorem vwTy_ok {ci : Nat} {q : vw_C} (h : vwCl[ci]? = some q) : (∀ k, k < q.2.2 → parseFieldDescriptor (q.2.1 k).2.2.1 = some (vwTy ci k)) ∧ ∀ a, a < q.2.2 → ∀ b, b < q.2.2 → a ≠ b → (q.2.1 a).2.1 ≠ (q.2.1 b).2.1 := by
  match ci, h with
  | 0, h => cases h; exact ⟨tyX0_ok, nmX0⟩
  | 1, h => cases h; exact ⟨tyX1_ok, nmX1⟩
  | 2, h => cases h; exact ⟨tyX2_ok, nmX2⟩
  | 3, h => cases h; exact ⟨tyX3_ok, nmX3⟩
  | 4, h => cases h; exact ⟨tyX4_ok, nmX4⟩
  | 5, h => cases h; exact ⟨tyX5_ok, nmX5⟩
  | 6, h => cases h; exact ⟨tyX6_ok, nmX6⟩
  | 7, h => cases h; exact ⟨tyX7_ok, nmX7⟩
  | 8, h => cases h; exact ⟨tyX8_ok, nmX8⟩
  | 9, h => cases h; exact ⟨tyX9_ok, nmX9⟩
  | 10, h => cases h; exact ⟨tyX10_ok, nmX10⟩
  | 11, h => cases h; exact ⟨tyX11_ok, nmX11⟩
  | 12, h => cases h; exact ⟨tyX12_ok, nmX12⟩
  | n + 13, h => simp [vwCl] at h
theorem wT_of {ws : List Cond} (h : ws.all (fun w => decide (w ∈ lw_tbl) && goodWord w) = true) : ∀ w ∈ ws, w ∈ wT := fun w hw => by
  have := List.all_eq_true.mp h w hw
  simp only [Bool.and_eq_true, decide_eq_true_eq] at this
  exact List.mem_filter.mpr this
theorem lay0 : ∀ w ∈ u_ws RX0 TX0 10, w ∈ wT := wT_of (by decide +kernel)
theorem lay1 : ∀ w ∈ u_ws RX1 TX1 12, w ∈ wT := wT_of (by decide +kernel)
theorem lay2 : ∀ w ∈ u_ws RX2 TX2 3, w ∈ wT := wT_of (by decide +kernel)
theorem lay3 : ∀ w ∈ u_ws RX3 TX3 4, w ∈ wT := wT_of (by decide +kernel)
theorem lay4 : ∀ w ∈ u_ws RX4 TX4 5, w ∈ wT := wT_of (by decide +kernel)
theorem lay5 : ∀ w ∈ u_ws RX5 TX5 13, w ∈ wT := wT_of (by decide +kernel)
theorem lay6 : ∀ w ∈ u_ws RX6 TX6 6, w ∈ wT := wT_of (by decide +kernel)
theorem lay7 : ∀ w ∈ u_ws RX7 TX7 2, w ∈ wT := wT_of (by decide +kernel)
theorem lay8 : ∀ w ∈ u_ws RX8 TX8 8, w ∈ wT := wT_of (by decide +kernel)
theorem lay9 : ∀ w ∈ u_ws RX9 TX9 18, w ∈ wT := wT_of (by decide +kernel)
theorem lay10 : ∀ w ∈ u_ws RX10 TX10 8, w ∈ wT := wT_of (by decide +kernel)
theorem lay11 : ∀ w ∈ u_ws RX11 TX11 15, w ∈ wT := wT_of (by decide +kernel)
theorem lay12 : ∀ w ∈ u_ws RX12 TX12 54, w ∈ wT := wT_of (by decide +kernel)
theorem lay_ok {ci : Nat} {q : vw_C} (h : vwCl[ci]? = some q) : ∀ w ∈ u_ws q.1 q.2.1 q.2.2, w ∈ wT := by
  match ci, h with
  | 0, h => cases h; exact lay0
  | 1, h => cases h; exact lay1
  | 2, h => cases h; exact lay2
  | 3, h => cases h; exact lay3
  | 4, h => cases h; exact lay4
  | 5, h => cases h; exact lay5
  | 6, h => cases h; exact lay6
  | 7, h => cases h; exact lay7
  | 8, h => cases h; exact lay8
  | 9, h => cases h; exact lay9
  | 10, h => cases h; exact lay10
  | 11, h => cases h; exact lay11
  | 12, h => cases h; exact lay12
  | n + 13, h => simp [vwCl] at h
theorem narrow_xv (g : Gw) (ty : FieldType) (v : Value) (h : narrow ty v = v) : narrow ty (xv g v) = xv g v := by
  cases v <;> first | exact h | (cases ty <;> rfl)
theorem fits_xv (g : Gw) (ty : FieldType) (v : Value) (h : fits ty v = true) : fits ty (xv g v) = true := by
  cases v <;> first | exact h | (cases ty <;> first | exact h | rfl | (simp [fits, xv] at h ⊢))
def flE (q : Nat × Nat × Nat × Nat × Nat) : Bool := match vwCl[q.2.2.1]? with
  | some c => decide (q.2.2.2.1 < c.2.2) && ckW q.2.2.2.2 (.fieldLink (clsN q.1) q.2.1 (c.2.1 q.2.2.2.1).1 (c.2.1 q.2.2.2.1).2.1 (c.2.1 q.2.2.2.1).2.2.1)
  | none => false
theorem flP0 : ((FL.drop 0).take 40).all flE = true := by decide +kernel
theorem flP1 : ((FL.drop 40).take 40).all flE = true := by decide +kernel
theorem flP2 : ((FL.drop 80).take 40).all flE = true := by decide +kernel
theorem flP3 : ((FL.drop 120).take 40).all flE = true := by decide +kernel
theorem flP4 : ((FL.drop 160).take 40).all flE = true := by decide +kernel
theorem flP5 : ((FL.drop 200).take 40).all flE = true := by decide +kernel
theorem flP6 : ((FL.drop 240).take 40).all flE = true := by decide +kernel
theorem FL_ok {j : Nat} {q : Nat × Nat × Nat × Nat × Nat} (h : FL[j]? = some q) : flE q = true := by
  have hj : j < FL.length := (List.getElem?_eq_some_iff.mp h).1
  have hl : FL.length ≤ 280 := by decide +kernel
  have go : ∀ n, ((FL.drop n).take 40).all flE = true → n ≤ j → j < n + 40 → flE q = true := by
    intro n hn h1 h2
    refine List.all_eq_true.mp hn q (List.mem_of_getElem? (i := j - n) ?_)
    rw [List.getElem?_take, if_pos (by omega), List.getElem?_drop, show n + (j - n) = j by omega]
    exact h
  rcases (show j < 40 ∨ (40 ≤ j ∧ j < 80) ∨ (80 ≤ j ∧ j < 120) ∨ (120 ≤ j ∧ j < 160) ∨ (160 ≤ j ∧ j < 200) ∨ (200 ≤ j ∧ j < 240) ∨ (240 ≤ j ∧ j < 280) by omega) with h1 | h1 | h1 | h1 | h1 | h1 | h1
  · exact go 0 flP0 (by omega) (by omega)
  · exact go 40 flP1 (by omega) (by omega)
  · exact go 80 flP2 (by omega) (by omega)
  · exact go 120 flP3 (by omega) (by omega)
  · exact go 160 flP4 (by omega) (by omega)
  · exact go 200 flP5 (by omega) (by omega)
  · exact go 240 flP6 (by omega) (by omega)
theorem FL_lt {j : Nat} {q : Nat × Nat × Nat × Nat × Nat} (h : FL[j]? = some q) : q.1 < 13 := by
  have : FL.all (fun q => decide (q.1 < 13)) = true := by decide +kernel
  exact of_decide_eq_true (List.all_eq_true.mp this q (List.mem_of_getElem? h))
theorem FL_use {M : Mt} (hM : okM M) {i ci fk j : Nat} (h : (match FL[j]? with
      | some q => q.1 == cnM M && (q.2.1 == i && (q.2.2.1 == ci && q.2.2.2.1 == fk))
      | none => false) = true) : ∃ q : vw_C, vwCl[ci]? = some q ∧ fk < q.2.2 ∧ Cond.fieldLink M.1.cls i (q.2.1 fk).1 (q.2.1 fk).2.1 (q.2.1 fk).2.2.1 ∈ wT := by
  cases hq : FL[j]? with
  | none => rw [hq] at h; cases h
  | some q =>
    rw [hq] at h
    simp only [Bool.and_eq_true, beq_iff_eq] at h
    obtain ⟨h1, rfl, rfl, rfl⟩ := h
    have h2 := FL_ok hq
    unfold flE at h2
    cases hc : vwCl[q.2.2.1]? with
    | none => rw [hc] at h2; cases h2
    | some c =>
      rw [hc] at h2
      simp only [Bool.and_eq_true, decide_eq_true_eq] at h2
      have h3 := ckW_mem h2.2
      rcases hM.1 with h99 | hcl
      · rw [← h1] at h99
        rw [h99] at h3
        exfalso
        have := FL_lt hq
        omega
      · rw [h1, hcl] at h3
        exact ⟨c, rfl, h2.1, h3⟩
