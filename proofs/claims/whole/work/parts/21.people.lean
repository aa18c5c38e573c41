/-! PEOPLE of the class: what each method means, and its contract (laid by program) -/
def l_fill (X : Pic) (v : Int32) : Nat → Nat → Pic → Pic
  | 0, k, Q => (Q)
  | n + 1, k, Q => (if 16 ≤ nI k then (Q) else l_fill X v n (k + 1)  ((pcI Q 0 (upd (Q.1 0) (nI k : Int32).toNatClampNeg v))))
set_option maxHeartbeats 4000000 in
set_option maxRecDepth 20000 in
theorem c_fill {d kc ks : Nat} {rv : Option Value} {S' : Sg} {S : Sg} {q : Nat} {X : Pic} (hX : pcAt_ rwC S q X)  (v : Int32)  (hd : 1 ≤ d) : ∀ (n k : Nat)  (Q : Pic), 16 - k < n → k ≤ 16 → (Rn d kc ks mJ7_fill_53178 14 [some (.ref (q)), some (.int (v)), none, some (.int (16))] [] (pcW rwC S q (l_fill X v n k  (Q))) rv S') → Rn d kc ks mJ7_fill_53178 5 [some (.ref (q)), some (.int (v)), some (.int (nI k)), some (.int (16))] [] (pcW rwC S q Q) rv S' := by
  intro n
  induction n with
  | zero => intro k Q h; exact absurd h (Nat.not_lt_zero _)
  | succ n ih =>
    intro k Q hm hkN  hc
    refine Rn.iload_n (k := 5) rfl rfl ?_
    refine Rn.iload_n (k := 6) rfl rfl ?_
    refine Rn.icmp_ge (k := 7) rfl (fun cl_1 => ?_) (fun cl_1 => ?_)
    · refine Rn.forget (ls' := [some (.ref (q)), some (.int (v)), none, some (.int (16))]) (by intro i v h; match i, h with | 0, h => exact h | 1, h => exact h | 2, h => (cases h) | 3, h => exact h | n + 4, h => (cases h)) ?_
      exact (by have e : l_fill X v (n + 1) k  (Q) = (Q) := (by simp only [l_fill, if_pos cl_1]); rw [e] at hc; exact hc)
    · have hltl_2 : k < 16 := Nat.lt_of_not_le (fun q => cl_1 (by exact nI_le q (by omega)))
      have hinl_3 : vp_in (nI k) 16 := vp_in_nI (by omega) (by decide)
      refine Rn.aload_n (k := 8) rfl rfl ?_
      refine Rn.iload_n (k := 9) rfl rfl ?_
      refine Rn.iload_n (k := 10) rfl rfl ?_
      refine Rn.iast (k := 11) rfl ((hX.put Q rfl).four (q := q) 0 rfl) ((hX.put Q rfl).c 0 (q := q) rfl rfl) (by first | with_reducible assumption) ?_
      obtain ⟨Pl_4, ePl_4⟩ : ∃ Q0 : Pic, Q0 = pcI Q 0 (upd (Q.1 0) (nI k : Int32).toNatClampNeg v) := ⟨_, rfl⟩
      rw [(hX.put Q rfl).w Pl_4 0 (q := q) rfl (Nat.le_of_ble_eq_true rfl) (by rw [ePl_4]; rfl), rwC_WW]
      have hPl_4 := hX.put Pl_4 rfl
      refine Rn.iinc (k := 12) (v := nI (k + 1)) rfl rfl (nI_1 k) (by decide) rfl ?_
      refine Rn.goto (k := 13) rfl ?_
      refine Rn.forget (ls' := [some (.ref (q)), some (.int (v)), some (.int (nI (k + 1))), some (.int (16))]) (by intro i v h; match i, h with | 0, h => exact h | 1, h => exact h | 2, h => exact h | 3, h => exact h | n + 4, h => (cases h)) ?_
      exact ih (k + 1)  Pl_4 (by omega) (by omega)  (by have e : l_fill X v (n + 1) k  (Q) = l_fill X v n (k + 1)  (Pl_4) := (by rw [ePl_4]; simp only [l_fill, if_neg cl_1]); rw [e] at hc; exact hc)
def w_fill (X : Pic) (v : Int32) : Pic := let P_1 : Pic := (l_fill X (v) 17 0  X); P_1
set_option maxRecDepth 20000 in
theorem rJ7_fill_53178 {S : Sg} {q : Nat} {X : Pic} (hX : pcAt_ rwC S q X) (v : Int32) : Rn 1 0 0 mJ7_fill_53178 0 [some (.ref (q)), some (.int (v)), none, none] [] S none (pcW rwC S q (w_fill X v)) := by
  refine Rn.iconst (k := 0) (v := 0) rfl (by decide) ?_
  refine Rn.istore_n (k := 1) rfl (by decide) rfl ?_
  refine Rn.aload_n (k := 2) rfl rfl ?_
  refine Rn.alen (k := 3) (v := 16) rfl (hX.four (q := q) 0 rfl) (hX.c 0 (q := q) rfl rfl) (by decide) (by decide) ?_
  refine Rn.istore_n (k := 4) rfl (by decide) rfl ?_
  refine Rn.forget (ls' := [some (.ref (q)), some (.int (v)), some (.int (nI 0)), some (.int (16))]) (by intro i v h; match i, h with | 0, h => exact h | 1, h => exact h | 2, h => exact h | 3, h => exact h | n + 4, h => (cases h)) ?_
  refine Rn.atS (hX.self) ?_
  refine c_fill hX (v)  (by first | decide | omega) 17 0  X (by omega) (Nat.zero_le _)  (?_)
  obtain ⟨P_1, eP_1⟩ : ∃ Q0 : Pic, Q0 = (l_fill X (v) 17 0  X) := ⟨_, rfl⟩
  rw [← eP_1]
  have hP_1 := hX.put P_1 rfl
  exact Rn.retw rfl rfl (by unfold w_fill; subst eP_1; rfl)
theorem kJ7_fill_53178 {S : Sg} {q : Nat} {X : Pic} (hX : pcAt_ rwC S q X) (v : Int32) : Cl 1 0 0 mJ7_fill_53178 [.ref q, .int v] S none (pcW rwC S q (w_fill X v)) := Cl.of okJ7_fill_53178 (by intro i v h; match i, h with | 0, h => exact h | 1, h => exact h | 2, h => (cases h) | 3, h => (cases h) | n + 4, h => (cases h)) (Nat.le_of_ble_eq_true rfl) rfl (rJ7_fill_53178 hX v)
/-- as a write of one cell -/
theorem kfill {S : Sg} {q : Nat} {f : Nat → Int32} (h4 : 4 ≤ q) (hq : S[q]? = some (.inl (.int, 16, .inl f))) (v : Int32) : Cl 1 0 0 mJ7_fill_53178 [.ref q, .int v] S none (S.set q (.inl (.int, 16, .inl ((w_fill (fun _ => f, fun _ _ => 0, fun _ _ => none) v).1 0)))) := by
  have hX : pcAt_ rwC S q (fun _ => f, fun _ _ => 0, fun _ _ => none) := ⟨h4, (List.getElem?_eq_some_iff.mp hq).1, fun j c hc => by
    match j, hc with
    | 0, hc => cases hc; exact hq
    | j + 1, hc => cases hc⟩
  have h := kJ7_fill_53178 hX v
  rw [← hX.w (w_fill (fun _ => f, fun _ _ => 0, fun _ _ => none) v) 0 (q := q) (c := .inl (.int, 16, .inl ((w_fill (fun _ => f, fun _ _ => 0, fun _ _ => none) v).1 0))) rfl (Nat.le_of_ble_eq_true rfl) rfl] at h
  exact h
def v_canBe  (s : Int32) (y : Int32) (v : Int32) (h : Int32) : Bool := (if s < 0 then false else (if 1 < s then false else (if y < 0 then false else (if 999 < y then false else (if v < 0 then false else (if 120 < v then false else (if h < 0 then false else (if 6 ≤ h then false else true))))))))
set_option maxRecDepth 20000 in
theorem rX5_canBe {S : Sg}  (s : Int32) (y : Int32) (v : Int32) (h : Int32)  : Rn 1 0 0 mX5_canBe 0 [some (.int (s)), some (.int (y)), some (.int (v)), some (.int (h))] [] S (some (.int (b2i (v_canBe s y v h)))) S := by
  refine Rn.iload_n (k := 0) rfl rfl ?_
  refine Rn.if_lt (k := 1) rfl (fun c_1 => ?_) (fun c_1 => ?_)
  · refine Rn.iconst (k := 22) (v := 0) rfl (by decide) ?_
    exact Rn.retz rfl rfl (by unfold v_canBe; rw [if_pos c_1]; first | done | rfl) (b2i_nar _) rfl
  · refine Rn.iload_n (k := 2) rfl rfl ?_
    refine Rn.iconst (k := 3) (v := 1) rfl (by decide) ?_
    refine Rn.icmp_gt (k := 4) rfl (fun c_2 => ?_) (fun c_2 => ?_)
    · refine Rn.iconst (k := 22) (v := 0) rfl (by decide) ?_
      exact Rn.retz rfl rfl (by unfold v_canBe; rw [if_neg c_1, if_pos c_2]; first | done | rfl) (b2i_nar _) rfl
    · refine Rn.iload_n (k := 5) rfl rfl ?_
      refine Rn.if_lt (k := 6) rfl (fun c_3 => ?_) (fun c_3 => ?_)
      · refine Rn.iconst (k := 22) (v := 0) rfl (by decide) ?_
        exact Rn.retz rfl rfl (by unfold v_canBe; rw [if_neg c_1, if_neg c_2, if_pos c_3]; first | done | rfl) (b2i_nar _) rfl
      · refine Rn.iload_n (k := 7) rfl rfl ?_
        refine Rn.sipush (k := 8) (v := 999) rfl (by decide) ?_
        refine Rn.icmp_gt (k := 9) rfl (fun c_4 => ?_) (fun c_4 => ?_)
        · refine Rn.iconst (k := 22) (v := 0) rfl (by decide) ?_
          exact Rn.retz rfl rfl (by unfold v_canBe; rw [if_neg c_1, if_neg c_2, if_neg c_3, if_pos c_4]; first | done | rfl) (b2i_nar _) rfl
        · refine Rn.iload_n (k := 10) rfl rfl ?_
          refine Rn.if_lt (k := 11) rfl (fun c_5 => ?_) (fun c_5 => ?_)
          · refine Rn.iconst (k := 22) (v := 0) rfl (by decide) ?_
            exact Rn.retz rfl rfl (by unfold v_canBe; rw [if_neg c_1, if_neg c_2, if_neg c_3, if_neg c_4, if_pos c_5]; first | done | rfl) (b2i_nar _) rfl
          · refine Rn.iload_n (k := 12) rfl rfl ?_
            refine Rn.bipush (k := 13) (v := 120) rfl (by decide) ?_
            refine Rn.icmp_gt (k := 14) rfl (fun c_6 => ?_) (fun c_6 => ?_)
            · refine Rn.iconst (k := 22) (v := 0) rfl (by decide) ?_
              exact Rn.retz rfl rfl (by unfold v_canBe; rw [if_neg c_1, if_neg c_2, if_neg c_3, if_neg c_4, if_neg c_5, if_pos c_6]; first | done | rfl) (b2i_nar _) rfl
            · refine Rn.iload_n (k := 15) rfl rfl ?_
              refine Rn.if_lt (k := 16) rfl (fun c_7 => ?_) (fun c_7 => ?_)
              · refine Rn.iconst (k := 22) (v := 0) rfl (by decide) ?_
                exact Rn.retz rfl rfl (by unfold v_canBe; rw [if_neg c_1, if_neg c_2, if_neg c_3, if_neg c_4, if_neg c_5, if_neg c_6, if_pos c_7]; first | done | rfl) (b2i_nar _) rfl
              · refine Rn.iload_n (k := 17) rfl rfl ?_
                refine Rn.bipush (k := 18) (v := 6) rfl (by decide) ?_
                refine Rn.icmp_ge (k := 19) rfl (fun c_8 => ?_) (fun c_8 => ?_)
                · refine Rn.iconst (k := 22) (v := 0) rfl (by decide) ?_
                  exact Rn.retz rfl rfl (by unfold v_canBe; rw [if_neg c_1, if_neg c_2, if_neg c_3, if_neg c_4, if_neg c_5, if_neg c_6, if_neg c_7, if_pos c_8]; first | done | rfl) (b2i_nar _) rfl
                · refine Rn.iconst (k := 20) (v := 1) rfl (by decide) ?_
                  refine Rn.goto (k := 21) rfl ?_
                  exact Rn.retz rfl rfl (by unfold v_canBe; rw [if_neg c_1, if_neg c_2, if_neg c_3, if_neg c_4, if_neg c_5, if_neg c_6, if_neg c_7, if_neg c_8]; first | done | rfl) (b2i_nar _) rfl
theorem kX5_canBe {S : Sg}  (s : Int32) (y : Int32) (v : Int32) (h : Int32)  : Cl 1 0 0 mX5_canBe [.int (s), .int (y), .int (v), .int (h)] S (some (.int (b2i (v_canBe s y v h)))) S := Cl.of okX5_canBe (by intro i v h; match i, h with | 0, h => exact h | 1, h => exact h | 2, h => exact h | 3, h => exact h | n + 4, h => (cases h)) (Nat.le_of_ble_eq_true rfl) rfl (rX5_canBe s y v h)
def v_has (P : Pic) (p : Int32) : Bool := (if p < 0 then false else (if (P.1 0 0) ≤ p then false else true))
set_option maxRecDepth 20000 in
theorem rX5_has {S : Sg} {b : Nat} {P : Pic} (hP : pcAt_ ppC S b P)  (p : Int32)  : Rn 1 0 0 mX5_has 0 [some (.ref (b)), some (.int (p))] [] S (some (.int (b2i (v_has P p)))) S := by
  refine Rn.iload_n (k := 0) rfl rfl ?_
  refine Rn.if_lt (k := 1) rfl (fun c_1 => ?_) (fun c_1 => ?_)
  · refine Rn.iconst (k := 8) (v := 0) rfl (by decide) ?_
    exact Rn.retz rfl rfl (by unfold v_has; rw [if_pos c_1]; first | done | rfl) (b2i_nar _) rfl
  · refine Rn.iload_n (k := 2) rfl rfl ?_
    refine Rn.aload_n (k := 3) rfl rfl ?_
    refine Rn.getf (k := 4) rfl (hP.four (q := b) 0 rfl) (hP.c 0 (q := b) rfl rfl) rfl ?_
    refine Rn.icmp_ge (k := 5) rfl (fun c_2 => ?_) (fun c_2 => ?_)
    · refine Rn.iconst (k := 8) (v := 0) rfl (by decide) ?_
      exact Rn.retz rfl rfl (by unfold v_has; rw [if_neg c_1, if_pos c_2]; first | done | rfl) (b2i_nar _) rfl
    · refine Rn.iconst (k := 6) (v := 1) rfl (by decide) ?_
      refine Rn.goto (k := 7) rfl ?_
      exact Rn.retz rfl rfl (by unfold v_has; rw [if_neg c_1, if_neg c_2]; first | done | rfl) (b2i_nar _) rfl
theorem kX5_has {S : Sg} {b : Nat} {P : Pic} (hP : pcAt_ ppC S b P)  (p : Int32)  : Cl 1 0 0 mX5_has [.ref b, .int (p)] S (some (.int (b2i (v_has P p)))) S := Cl.of okX5_has (by intro i v h; match i, h with | 0, h => exact h | 1, h => exact h | n + 2, h => (cases h)) (Nat.le_of_ble_eq_true rfl) rfl (rX5_has hP p)
def v_isSold (P : Pic) (p : Int32) : Bool := (if (((P.1 0 1) >>> (p &&& 31)) &&& 1) = 1 then true else false)
set_option maxRecDepth 20000 in
theorem rX5_isSold {S : Sg} {b : Nat} {P : Pic} (hP : pcAt_ ppC S b P)  (p : Int32)  : Rn 1 0 0 mX5_isSold 0 [some (.ref (b)), some (.int (p))] [] S (some (.int (b2i (v_isSold P p)))) S := by
  refine Rn.aload_n (k := 0) rfl rfl ?_
  refine Rn.getf (k := 1) rfl (hP.four (q := b) 0 rfl) (hP.c 0 (q := b) rfl rfl) rfl ?_
  refine Rn.iload_n (k := 2) rfl rfl ?_
  refine Rn.ishr (k := 3) rfl ?_
  refine Rn.iconst (k := 4) (v := 1) rfl (by decide) ?_
  refine Rn.iand (k := 5) rfl ?_
  refine Rn.iconst (k := 6) (v := 1) rfl (by decide) ?_
  refine Rn.icmp_ne (k := 7) rfl (fun c_1 => ?_) (fun c_1 => ?_)
  · refine Rn.iconst (k := 10) (v := 0) rfl (by decide) ?_
    exact Rn.retz rfl rfl (by unfold v_isSold; rw [if_neg c_1]; first | done | rfl) (b2i_nar _) rfl
  · refine Rn.iconst (k := 8) (v := 1) rfl (by decide) ?_
    refine Rn.goto (k := 9) rfl ?_
    exact Rn.retz rfl rfl (by unfold v_isSold; rw [if_pos c_1]; first | done | rfl) (b2i_nar _) rfl
theorem kX5_isSold {S : Sg} {b : Nat} {P : Pic} (hP : pcAt_ ppC S b P)  (p : Int32)  : Cl 1 0 0 mX5_isSold [.ref b, .int (p)] S (some (.int (b2i (v_isSold P p)))) S := Cl.of okX5_isSold (by intro i v h; match i, h with | 0, h => exact h | 1, h => exact h | n + 2, h => (cases h)) (Nat.le_of_ble_eq_true rfl) rfl (rX5_isSold hP p)
def v_isInLine (P : Pic) (f : Int32) (p : Int32) : Bool := (if (((P.1 10 (p).toNatClampNeg) >>> (f &&& 31)) &&& 1) = 1 then true else false)
set_option maxRecDepth 20000 in
theorem rX5_isInLine {S : Sg} {b : Nat} {P : Pic} (hP : pcAt_ ppC S b P)  (f : Int32) (p : Int32) (h_p : vp_in p 16) : Rn 1 0 0 mX5_isInLine 0 [some (.ref (b)), some (.int (f)), some (.int (p))] [] S (some (.int (b2i (v_isInLine P f p)))) S := by
  refine Rn.aload_n (k := 0) rfl rfl ?_
  refine Rn.getf (k := 1) rfl (hP.four (q := b) 0 rfl) (hP.c 0 (q := b) rfl rfl) rfl ?_
  refine Rn.iload_n (k := 2) rfl rfl ?_
  refine Rn.iald (k := 3) rfl (hP.c 10 (q := b + 10) rfl rfl) (by first | with_reducible assumption) ?_
  refine Rn.iload_n (k := 4) rfl rfl ?_
  refine Rn.ishr (k := 5) rfl ?_
  refine Rn.iconst (k := 6) (v := 1) rfl (by decide) ?_
  refine Rn.iand (k := 7) rfl ?_
  refine Rn.iconst (k := 8) (v := 1) rfl (by decide) ?_
  refine Rn.icmp_ne (k := 9) rfl (fun c_1 => ?_) (fun c_1 => ?_)
  · refine Rn.iconst (k := 12) (v := 0) rfl (by decide) ?_
    exact Rn.retz rfl rfl (by unfold v_isInLine; rw [if_neg c_1]; first | done | rfl) (b2i_nar _) rfl
  · refine Rn.iconst (k := 10) (v := 1) rfl (by decide) ?_
    refine Rn.goto (k := 11) rfl ?_
    exact Rn.retz rfl rfl (by unfold v_isInLine; rw [if_pos c_1]; first | done | rfl) (b2i_nar _) rfl
theorem kX5_isInLine {S : Sg} {b : Nat} {P : Pic} (hP : pcAt_ ppC S b P)  (f : Int32) (p : Int32) (h_p : vp_in p 16) : Cl 1 0 0 mX5_isInLine [.ref b, .int (f), .int (p)] S (some (.int (b2i (v_isInLine P f p)))) S := Cl.of okX5_isInLine (by intro i v h; match i, h with | 0, h => exact h | 1, h => exact h | 2, h => exact h | n + 3, h => (cases h)) (Nat.le_of_ble_eq_true rfl) rfl (rX5_isInLine hP f p h_p)
def v_isSelfOrInLine (P : Pic) (f : Int32) (p : Int32) : Bool := (if f = p then true else (if (((P.1 10 (p).toNatClampNeg) >>> (f &&& 31)) &&& 1) = 1 then true else false))
set_option maxRecDepth 20000 in
theorem rX5_isSelfOrInLine {S : Sg} {b : Nat} {P : Pic} (hP : pcAt_ ppC S b P)  (f : Int32) (p : Int32) (h_p : vp_in p 16) : Rn 1 0 0 mX5_isSelfOrInLine 0 [some (.ref (b)), some (.int (f)), some (.int (p))] [] S (some (.int (b2i (v_isSelfOrInLine P f p)))) S := by
  refine Rn.iload_n (k := 0) rfl rfl ?_
  refine Rn.iload_n (k := 1) rfl rfl ?_
  refine Rn.icmp_eq (k := 2) rfl (fun c_1 => ?_) (fun c_1 => ?_)
  · refine Rn.iconst (k := 13) (v := 1) rfl (by decide) ?_
    refine Rn.goto (k := 14) rfl ?_
    exact Rn.retz rfl rfl (by unfold v_isSelfOrInLine; rw [if_pos c_1]; first | done | rfl) (b2i_nar _) rfl
  · refine Rn.aload_n (k := 3) rfl rfl ?_
    refine Rn.getf (k := 4) rfl (hP.four (q := b) 0 rfl) (hP.c 0 (q := b) rfl rfl) rfl ?_
    refine Rn.iload_n (k := 5) rfl rfl ?_
    refine Rn.iald (k := 6) rfl (hP.c 10 (q := b + 10) rfl rfl) (by first | with_reducible assumption) ?_
    refine Rn.iload_n (k := 7) rfl rfl ?_
    refine Rn.ishr (k := 8) rfl ?_
    refine Rn.iconst (k := 9) (v := 1) rfl (by decide) ?_
    refine Rn.iand (k := 10) rfl ?_
    refine Rn.iconst (k := 11) (v := 1) rfl (by decide) ?_
    refine Rn.icmp_ne (k := 12) rfl (fun c_2 => ?_) (fun c_2 => ?_)
    · refine Rn.iconst (k := 15) (v := 0) rfl (by decide) ?_
      exact Rn.retz rfl rfl (by unfold v_isSelfOrInLine; rw [if_neg c_1, if_neg c_2]; first | done | rfl) (b2i_nar _) rfl
    · refine Rn.iconst (k := 13) (v := 1) rfl (by decide) ?_
      refine Rn.goto (k := 14) rfl ?_
      exact Rn.retz rfl rfl (by unfold v_isSelfOrInLine; rw [if_neg c_1, if_pos c_2]; first | done | rfl) (b2i_nar _) rfl
theorem kX5_isSelfOrInLine {S : Sg} {b : Nat} {P : Pic} (hP : pcAt_ ppC S b P)  (f : Int32) (p : Int32) (h_p : vp_in p 16) : Cl 1 0 0 mX5_isSelfOrInLine [.ref b, .int (f), .int (p)] S (some (.int (b2i (v_isSelfOrInLine P f p)))) S := Cl.of okX5_isSelfOrInLine (by intro i v h; match i, h with | 0, h => exact h | 1, h => exact h | 2, h => exact h | n + 3, h => (cases h)) (Nat.le_of_ble_eq_true rfl) rfl (rX5_isSelfOrInLine hP f p h_p)
def v_livesIn (P : Pic) (p : Int32) (y : Int32) : Bool := (if y < (P.1 2 (p).toNatClampNeg) then false else (if ((P.1 2 (p).toNatClampNeg) + (P.1 3 (p).toNatClampNeg)) ≤ y then false else true))
set_option maxRecDepth 20000 in
theorem rX5_livesIn {S : Sg} {b : Nat} {P : Pic} (hP : pcAt_ ppC S b P)  (p : Int32) (y : Int32) (h_p : vp_in p 16) : Rn 1 0 0 mX5_livesIn 0 [some (.ref (b)), some (.int (p)), some (.int (y))] [] S (some (.int (b2i (v_livesIn P p y)))) S := by
  refine Rn.iload_n (k := 0) rfl rfl ?_
  refine Rn.aload_n (k := 1) rfl rfl ?_
  refine Rn.getf (k := 2) rfl (hP.four (q := b) 0 rfl) (hP.c 0 (q := b) rfl rfl) rfl ?_
  refine Rn.iload_n (k := 3) rfl rfl ?_
  refine Rn.iald (k := 4) rfl (hP.c 2 (q := b + 2) rfl rfl) (by first | with_reducible assumption) ?_
  refine Rn.icmp_lt (k := 5) rfl (fun c_1 => ?_) (fun c_1 => ?_)
  · refine Rn.iconst (k := 19) (v := 0) rfl (by decide) ?_
    exact Rn.retz rfl rfl (by unfold v_livesIn; rw [if_pos c_1]; first | done | rfl) (b2i_nar _) rfl
  · refine Rn.iload_n (k := 6) rfl rfl ?_
    refine Rn.aload_n (k := 7) rfl rfl ?_
    refine Rn.getf (k := 8) rfl (hP.four (q := b) 0 rfl) (hP.c 0 (q := b) rfl rfl) rfl ?_
    refine Rn.iload_n (k := 9) rfl rfl ?_
    refine Rn.iald (k := 10) rfl (hP.c 2 (q := b + 2) rfl rfl) (by first | with_reducible assumption) ?_
    refine Rn.aload_n (k := 11) rfl rfl ?_
    refine Rn.getf (k := 12) rfl (hP.four (q := b) 0 rfl) (hP.c 0 (q := b) rfl rfl) rfl ?_
    refine Rn.iload_n (k := 13) rfl rfl ?_
    refine Rn.iald (k := 14) rfl (hP.c 3 (q := b + 3) rfl rfl) (by first | with_reducible assumption) ?_
    refine Rn.iadd (k := 15) rfl ?_
    refine Rn.icmp_ge (k := 16) rfl (fun c_2 => ?_) (fun c_2 => ?_)
    · refine Rn.iconst (k := 19) (v := 0) rfl (by decide) ?_
      exact Rn.retz rfl rfl (by unfold v_livesIn; rw [if_neg c_1, if_pos c_2]; first | done | rfl) (b2i_nar _) rfl
    · refine Rn.iconst (k := 17) (v := 1) rfl (by decide) ?_
      refine Rn.goto (k := 18) rfl ?_
      exact Rn.retz rfl rfl (by unfold v_livesIn; rw [if_neg c_1, if_neg c_2]; first | done | rfl) (b2i_nar _) rfl
theorem kX5_livesIn {S : Sg} {b : Nat} {P : Pic} (hP : pcAt_ ppC S b P)  (p : Int32) (y : Int32) (h_p : vp_in p 16) : Cl 1 0 0 mX5_livesIn [.ref b, .int (p), .int (y)] S (some (.int (b2i (v_livesIn P p y)))) S := Cl.of okX5_livesIn (by intro i v h; match i, h with | 0, h => exact h | 1, h => exact h | 2, h => exact h | n + 3, h => (cases h)) (Nat.le_of_ble_eq_true rfl) rfl (rX5_livesIn hP p y h_p)
def v_datesFit (P : Pic) (p : Int32) (c : Int32) (g : Int32) : Bool := (if (P.1 1 (p).toNatClampNeg) = 0 then (if ((P.1 2 (c).toNatClampNeg) - (P.1 2 (p).toNatClampNeg)) < g then false else (if (P.1 3 (p).toNatClampNeg) < ((P.1 2 (c).toNatClampNeg) - (P.1 2 (p).toNatClampNeg)) then false else true)) else (if ((P.1 2 (c).toNatClampNeg) - (P.1 2 (p).toNatClampNeg)) < g then false else (if ((P.1 3 (p).toNatClampNeg) - 1) < ((P.1 2 (c).toNatClampNeg) - (P.1 2 (p).toNatClampNeg)) then false else true)))
set_option maxRecDepth 20000 in
theorem rX5_datesFit {S : Sg} {b : Nat} {P : Pic} (hP : pcAt_ ppC S b P)  (p : Int32) (c : Int32) (g : Int32) (h_p : vp_in p 16) (h_c : vp_in c 16) : Rn 1 0 0 mX5_datesFit 0 [some (.ref (b)), some (.int (p)), some (.int (c)), some (.int (g)), none, none] [] S (some (.int (b2i (v_datesFit P p c g)))) S := by
  refine Rn.aload_n (k := 0) rfl rfl ?_
  refine Rn.getf (k := 1) rfl (hP.four (q := b) 0 rfl) (hP.c 0 (q := b) rfl rfl) rfl ?_
  refine Rn.iload_n (k := 2) rfl rfl ?_
  refine Rn.iald (k := 3) rfl (hP.c 2 (q := b + 2) rfl rfl) (by first | with_reducible assumption) ?_
  refine Rn.aload_n (k := 4) rfl rfl ?_
  refine Rn.getf (k := 5) rfl (hP.four (q := b) 0 rfl) (hP.c 0 (q := b) rfl rfl) rfl ?_
  refine Rn.iload_n (k := 6) rfl rfl ?_
  refine Rn.iald (k := 7) rfl (hP.c 2 (q := b + 2) rfl rfl) (by first | with_reducible assumption) ?_
  refine Rn.isub (k := 8) rfl ?_
  refine Rn.istore (k := 9) rfl (by decide) rfl ?_
  refine Rn.aload_n (k := 10) rfl rfl ?_
  refine Rn.getf (k := 11) rfl (hP.four (q := b) 0 rfl) (hP.c 0 (q := b) rfl rfl) rfl ?_
  refine Rn.iload_n (k := 12) rfl rfl ?_
  refine Rn.iald (k := 13) rfl (hP.c 1 (q := b + 1) rfl rfl) (by first | with_reducible assumption) ?_
  refine Rn.if_ne (k := 14) rfl (fun c_1 => ?_) (fun c_1 => ?_)
  · refine Rn.aload_n (k := 20) rfl rfl ?_
    refine Rn.getf (k := 21) rfl (hP.four (q := b) 0 rfl) (hP.c 0 (q := b) rfl rfl) rfl ?_
    refine Rn.iload_n (k := 22) rfl rfl ?_
    refine Rn.iald (k := 23) rfl (hP.c 3 (q := b + 3) rfl rfl) (by first | with_reducible assumption) ?_
    refine Rn.iconst (k := 24) (v := 1) rfl (by decide) ?_
    refine Rn.isub (k := 25) rfl ?_
    refine Rn.istore (k := 26) rfl (by decide) rfl ?_
    refine Rn.iload (k := 27) rfl rfl ?_
    refine Rn.iload_n (k := 28) rfl rfl ?_
    refine Rn.icmp_lt (k := 29) rfl (fun c_2 => ?_) (fun c_2 => ?_)
    · refine Rn.iconst (k := 35) (v := 0) rfl (by decide) ?_
      exact Rn.retz rfl rfl (by unfold v_datesFit; rw [if_neg c_1, if_pos c_2]; first | done | rfl) (b2i_nar _) rfl
    · refine Rn.iload (k := 30) rfl rfl ?_
      refine Rn.iload (k := 31) rfl rfl ?_
      refine Rn.icmp_gt (k := 32) rfl (fun c_3 => ?_) (fun c_3 => ?_)
      · refine Rn.iconst (k := 35) (v := 0) rfl (by decide) ?_
        exact Rn.retz rfl rfl (by unfold v_datesFit; rw [if_neg c_1, if_neg c_2, if_pos c_3]; first | done | rfl) (b2i_nar _) rfl
      · refine Rn.iconst (k := 33) (v := 1) rfl (by decide) ?_
        refine Rn.goto (k := 34) rfl ?_
        exact Rn.retz rfl rfl (by unfold v_datesFit; rw [if_neg c_1, if_neg c_2, if_neg c_3]; first | done | rfl) (b2i_nar _) rfl
  · refine Rn.aload_n (k := 15) rfl rfl ?_
    refine Rn.getf (k := 16) rfl (hP.four (q := b) 0 rfl) (hP.c 0 (q := b) rfl rfl) rfl ?_
    refine Rn.iload_n (k := 17) rfl rfl ?_
    refine Rn.iald (k := 18) rfl (hP.c 3 (q := b + 3) rfl rfl) (by first | with_reducible assumption) ?_
    refine Rn.goto (k := 19) rfl ?_
    refine Rn.istore (k := 26) rfl (by decide) rfl ?_
    refine Rn.iload (k := 27) rfl rfl ?_
    refine Rn.iload_n (k := 28) rfl rfl ?_
    refine Rn.icmp_lt (k := 29) rfl (fun c_4 => ?_) (fun c_4 => ?_)
    · refine Rn.iconst (k := 35) (v := 0) rfl (by decide) ?_
      exact Rn.retz rfl rfl (by unfold v_datesFit; rw [if_pos c_1, if_pos c_4]; first | done | rfl) (b2i_nar _) rfl
    · refine Rn.iload (k := 30) rfl rfl ?_
      refine Rn.iload (k := 31) rfl rfl ?_
      refine Rn.icmp_gt (k := 32) rfl (fun c_5 => ?_) (fun c_5 => ?_)
      · refine Rn.iconst (k := 35) (v := 0) rfl (by decide) ?_
        exact Rn.retz rfl rfl (by unfold v_datesFit; rw [if_pos c_1, if_neg c_4, if_pos c_5]; first | done | rfl) (b2i_nar _) rfl
      · refine Rn.iconst (k := 33) (v := 1) rfl (by decide) ?_
        refine Rn.goto (k := 34) rfl ?_
        exact Rn.retz rfl rfl (by unfold v_datesFit; rw [if_pos c_1, if_neg c_4, if_neg c_5]; first | done | rfl) (b2i_nar _) rfl
theorem kX5_datesFit {S : Sg} {b : Nat} {P : Pic} (hP : pcAt_ ppC S b P)  (p : Int32) (c : Int32) (g : Int32) (h_p : vp_in p 16) (h_c : vp_in c 16) : Cl 1 0 0 mX5_datesFit [.ref b, .int (p), .int (c), .int (g)] S (some (.int (b2i (v_datesFit P p c g)))) S := Cl.of okX5_datesFit (by intro i v h; match i, h with | 0, h => exact h | 1, h => exact h | 2, h => exact h | 3, h => exact h | 4, h => (cases h) | 5, h => (cases h) | n + 6, h => (cases h)) (Nat.le_of_ble_eq_true rfl) rfl (rX5_datesFit hP p c g h_p h_c)
def v_parentOf (P : Pic) (c : Int32) (s : Int32) : Int32 := (if s = 0 then ((P.1 8 (c).toNatClampNeg)) else ((P.1 9 (c).toNatClampNeg)))
set_option maxRecDepth 20000 in
theorem rX5_parentOf {S : Sg} {b : Nat} {P : Pic} (hP : pcAt_ ppC S b P)  (c : Int32) (s : Int32) (h_c : vp_in c 16) : Rn 1 0 0 mX5_parentOf 0 [some (.ref (b)), some (.int (c)), some (.int (s))] [] S (some (.int (v_parentOf P c s))) S := by
  refine Rn.iload_n (k := 0) rfl rfl ?_
  refine Rn.if_ne (k := 1) rfl (fun c_1 => ?_) (fun c_1 => ?_)
  · refine Rn.aload_n (k := 7) rfl rfl ?_
    refine Rn.getf (k := 8) rfl (hP.four (q := b) 0 rfl) (hP.c 0 (q := b) rfl rfl) rfl ?_
    refine Rn.iload_n (k := 9) rfl rfl ?_
    refine Rn.iald (k := 10) rfl (hP.c 9 (q := b + 9) rfl rfl) (by first | with_reducible assumption) ?_
    exact Rn.retz rfl rfl (by unfold v_parentOf; rw [if_neg c_1]; first | done | rfl | (rfl)) rfl rfl
  · refine Rn.aload_n (k := 2) rfl rfl ?_
    refine Rn.getf (k := 3) rfl (hP.four (q := b) 0 rfl) (hP.c 0 (q := b) rfl rfl) rfl ?_
    refine Rn.iload_n (k := 4) rfl rfl ?_
    refine Rn.iald (k := 5) rfl (hP.c 8 (q := b + 8) rfl rfl) (by first | with_reducible assumption) ?_
    refine Rn.goto (k := 6) rfl ?_
    exact Rn.retz rfl rfl (by unfold v_parentOf; rw [if_pos c_1]; first | done | rfl | (rfl)) rfl rfl
theorem kX5_parentOf {S : Sg} {b : Nat} {P : Pic} (hP : pcAt_ ppC S b P)  (c : Int32) (s : Int32) (h_c : vp_in c 16) : Cl 1 0 0 mX5_parentOf [.ref b, .int (c), .int (s)] S (some (.int (v_parentOf P c s))) S := Cl.of okX5_parentOf (by intro i v h; match i, h with | 0, h => exact h | 1, h => exact h | 2, h => exact h | n + 3, h => (cases h)) (Nat.le_of_ble_eq_true rfl) rfl (rX5_parentOf hP c s h_c)
def v_rankedParents (P : Pic) (p : Int32) (k : Int32) : Int32 := (if (P.1 8 (p).toNatClampNeg) = (-1) then (if (P.1 9 (p).toNatClampNeg) = (-1) then (0) else ((0 + ((k >>> ((P.1 9 (p).toNatClampNeg) &&& 31)) &&& 1)))) else (if (P.1 9 (p).toNatClampNeg) = (-1) then ((0 + ((k >>> ((P.1 8 (p).toNatClampNeg) &&& 31)) &&& 1))) else (((0 + ((k >>> ((P.1 8 (p).toNatClampNeg) &&& 31)) &&& 1)) + ((k >>> ((P.1 9 (p).toNatClampNeg) &&& 31)) &&& 1)))))
set_option maxRecDepth 20000 in
theorem rX5_rankedParents {S : Sg} {b : Nat} {P : Pic} (hP : pcAt_ ppC S b P)  (p : Int32) (k : Int32) (h_p : vp_in p 16) : Rn 1 0 0 mX5_rankedParents 0 [some (.ref (b)), some (.int (p)), some (.int (k)), none] [] S (some (.int (v_rankedParents P p k))) S := by
  refine Rn.iconst (k := 0) (v := 0) rfl (by decide) ?_
  refine Rn.istore_n (k := 1) rfl (by decide) rfl ?_
  refine Rn.aload_n (k := 2) rfl rfl ?_
  refine Rn.getf (k := 3) rfl (hP.four (q := b) 0 rfl) (hP.c 0 (q := b) rfl rfl) rfl ?_
  refine Rn.iload_n (k := 4) rfl rfl ?_
  refine Rn.iald (k := 5) rfl (hP.c 8 (q := b + 8) rfl rfl) (by first | with_reducible assumption) ?_
  refine Rn.iconst (k := 6) (v := (-1)) rfl (by decide) ?_
  refine Rn.icmp_eq (k := 7) rfl (fun c_1 => ?_) (fun c_1 => ?_)
  · refine Rn.aload_n (k := 19) rfl rfl ?_
    refine Rn.getf (k := 20) rfl (hP.four (q := b) 0 rfl) (hP.c 0 (q := b) rfl rfl) rfl ?_
    refine Rn.iload_n (k := 21) rfl rfl ?_
    refine Rn.iald (k := 22) rfl (hP.c 9 (q := b + 9) rfl rfl) (by first | with_reducible assumption) ?_
    refine Rn.iconst (k := 23) (v := (-1)) rfl (by decide) ?_
    refine Rn.icmp_eq (k := 24) rfl (fun c_2 => ?_) (fun c_2 => ?_)
    · refine Rn.iload_n (k := 36) rfl rfl ?_
      exact Rn.retz rfl rfl (by unfold v_rankedParents; rw [if_pos c_1, if_pos c_2]; first | done | rfl | (rfl)) rfl rfl
    · refine Rn.iload_n (k := 25) rfl rfl ?_
      refine Rn.iload_n (k := 26) rfl rfl ?_
      refine Rn.aload_n (k := 27) rfl rfl ?_
      refine Rn.getf (k := 28) rfl (hP.four (q := b) 0 rfl) (hP.c 0 (q := b) rfl rfl) rfl ?_
      refine Rn.iload_n (k := 29) rfl rfl ?_
      refine Rn.iald (k := 30) rfl (hP.c 9 (q := b + 9) rfl rfl) (by first | with_reducible assumption) ?_
      refine Rn.ishr (k := 31) rfl ?_
      refine Rn.iconst (k := 32) (v := 1) rfl (by decide) ?_
      refine Rn.iand (k := 33) rfl ?_
      refine Rn.iadd (k := 34) rfl ?_
      refine Rn.istore_n (k := 35) rfl (by decide) rfl ?_
      refine Rn.iload_n (k := 36) rfl rfl ?_
      exact Rn.retz rfl rfl (by unfold v_rankedParents; rw [if_pos c_1, if_neg c_2]; first | done | rfl | (rfl)) rfl rfl
  · refine Rn.iload_n (k := 8) rfl rfl ?_
    refine Rn.iload_n (k := 9) rfl rfl ?_
    refine Rn.aload_n (k := 10) rfl rfl ?_
    refine Rn.getf (k := 11) rfl (hP.four (q := b) 0 rfl) (hP.c 0 (q := b) rfl rfl) rfl ?_
    refine Rn.iload_n (k := 12) rfl rfl ?_
    refine Rn.iald (k := 13) rfl (hP.c 8 (q := b + 8) rfl rfl) (by first | with_reducible assumption) ?_
    refine Rn.ishr (k := 14) rfl ?_
    refine Rn.iconst (k := 15) (v := 1) rfl (by decide) ?_
    refine Rn.iand (k := 16) rfl ?_
    refine Rn.iadd (k := 17) rfl ?_
    refine Rn.istore_n (k := 18) rfl (by decide) rfl ?_
    refine Rn.aload_n (k := 19) rfl rfl ?_
    refine Rn.getf (k := 20) rfl (hP.four (q := b) 0 rfl) (hP.c 0 (q := b) rfl rfl) rfl ?_
    refine Rn.iload_n (k := 21) rfl rfl ?_
    refine Rn.iald (k := 22) rfl (hP.c 9 (q := b + 9) rfl rfl) (by first | with_reducible assumption) ?_
    refine Rn.iconst (k := 23) (v := (-1)) rfl (by decide) ?_
    refine Rn.icmp_eq (k := 24) rfl (fun c_3 => ?_) (fun c_3 => ?_)
    · refine Rn.iload_n (k := 36) rfl rfl ?_
      exact Rn.retz rfl rfl (by unfold v_rankedParents; rw [if_neg c_1, if_pos c_3]; first | done | rfl | (rfl)) rfl rfl
    · refine Rn.iload_n (k := 25) rfl rfl ?_
      refine Rn.iload_n (k := 26) rfl rfl ?_
      refine Rn.aload_n (k := 27) rfl rfl ?_
      refine Rn.getf (k := 28) rfl (hP.four (q := b) 0 rfl) (hP.c 0 (q := b) rfl rfl) rfl ?_
      refine Rn.iload_n (k := 29) rfl rfl ?_
      refine Rn.iald (k := 30) rfl (hP.c 9 (q := b + 9) rfl rfl) (by first | with_reducible assumption) ?_
      refine Rn.ishr (k := 31) rfl ?_
      refine Rn.iconst (k := 32) (v := 1) rfl (by decide) ?_
      refine Rn.iand (k := 33) rfl ?_
      refine Rn.iadd (k := 34) rfl ?_
      refine Rn.istore_n (k := 35) rfl (by decide) rfl ?_
      refine Rn.iload_n (k := 36) rfl rfl ?_
      exact Rn.retz rfl rfl (by unfold v_rankedParents; rw [if_neg c_1, if_neg c_3]; first | done | rfl | (rfl)) rfl rfl
theorem kX5_rankedParents {S : Sg} {b : Nat} {P : Pic} (hP : pcAt_ ppC S b P)  (p : Int32) (k : Int32) (h_p : vp_in p 16) : Cl 1 0 0 mX5_rankedParents [.ref b, .int (p), .int (k)] S (some (.int (v_rankedParents P p k))) S := Cl.of okX5_rankedParents (by intro i v h; match i, h with | 0, h => exact h | 1, h => exact h | 2, h => exact h | 3, h => (cases h) | n + 4, h => (cases h)) (Nat.le_of_ble_eq_true rfl) rfl (rX5_rankedParents hP p k h_p)
def v_hasPlaceFor (P : Pic) (p : Int32) (c : Int32) : Bool := (if (v_parentOf P (c) ((P.1 1 (p).toNatClampNeg))) = (-1) then (if (b2i (v_isSelfOrInLine P (c) (p))) = 0 then true else false) else false)
set_option maxRecDepth 20000 in
theorem rX5_hasPlaceFor {S : Sg} {b : Nat} {P : Pic} (hP : pcAt_ ppC S b P)  (p : Int32) (c : Int32) (h_p : vp_in p 16) (h_c : vp_in c 16) : Rn 2 0 0 mX5_hasPlaceFor 0 [some (.ref (b)), some (.int (p)), some (.int (c))] [] S (some (.int (b2i (v_hasPlaceFor P p c)))) S := by
  refine Rn.aload_n (k := 0) rfl rfl ?_
  refine Rn.iload_n (k := 1) rfl rfl ?_
  refine Rn.aload_n (k := 2) rfl rfl ?_
  refine Rn.getf (k := 3) rfl (hP.four (q := b) 0 rfl) (hP.c 0 (q := b) rfl rfl) rfl ?_
  refine Rn.iload_n (k := 4) rfl rfl ?_
  refine Rn.iald (k := 5) rfl (hP.c 1 (q := b + 1) rfl rfl) (by first | with_reducible assumption) ?_
  refine Rn.callV0 (k := 6) (M' := mX5_parentOf) rfl lkX5_62 rfl (hP.four (q := b) 0 rfl) (hP.c 0 (q := b) rfl rfl) rfl (kX5_parentOf hP (c) ((P.1 1 (p).toNatClampNeg)) (by first | with_reducible assumption)) (by decide) rfl rfl (Nat.le_of_ble_eq_true rfl) ?_
  refine Rn.iconst (k := 7) (v := (-1)) rfl (by decide) ?_
  refine Rn.icmp_ne (k := 8) rfl (fun c_1 => ?_) (fun c_1 => ?_)
  · refine Rn.iconst (k := 16) (v := 0) rfl (by decide) ?_
    exact Rn.retz rfl rfl (by unfold v_hasPlaceFor; rw [if_neg c_1]; first | done | rfl) (b2i_nar _) rfl
  · refine Rn.aload_n (k := 9) rfl rfl ?_
    refine Rn.iload_n (k := 10) rfl rfl ?_
    refine Rn.iload_n (k := 11) rfl rfl ?_
    refine Rn.callV0 (k := 12) (M' := mX5_isSelfOrInLine) rfl lkX5_66 rfl (hP.four (q := b) 0 rfl) (hP.c 0 (q := b) rfl rfl) rfl (kX5_isSelfOrInLine hP (c) (p) (by first | with_reducible assumption)) (by decide) rfl rfl (Nat.le_of_ble_eq_true rfl) ?_
    refine Rn.if_ne (k := 13) rfl (fun c_2 => ?_) (fun c_2 => ?_)
    · refine Rn.iconst (k := 16) (v := 0) rfl (by decide) ?_
      exact Rn.retz rfl rfl (by unfold v_hasPlaceFor; rw [if_pos c_1, if_neg c_2]; first | done | rfl) (b2i_nar _) rfl
    · refine Rn.iconst (k := 14) (v := 1) rfl (by decide) ?_
      refine Rn.goto (k := 15) rfl ?_
      exact Rn.retz rfl rfl (by unfold v_hasPlaceFor; rw [if_pos c_1, if_pos c_2]; first | done | rfl) (b2i_nar _) rfl
theorem kX5_hasPlaceFor {S : Sg} {b : Nat} {P : Pic} (hP : pcAt_ ppC S b P)  (p : Int32) (c : Int32) (h_p : vp_in p 16) (h_c : vp_in c 16) : Cl 2 0 0 mX5_hasPlaceFor [.ref b, .int (p), .int (c)] S (some (.int (b2i (v_hasPlaceFor P p c)))) S := Cl.of okX5_hasPlaceFor (by intro i v h; match i, h with | 0, h => exact h | 1, h => exact h | 2, h => exact h | n + 3, h => (cases h)) (Nat.le_of_ble_eq_true rfl) rfl (rX5_hasPlaceFor hP p c h_p h_c)
def v_couldBeBought (P : Pic) (p : Int32) (c : Int32) (g : Int32) : Bool := (if (b2i (v_isSold P (p))) = 0 then (if (b2i (v_hasPlaceFor P (p) (c))) = 0 then false else (if (b2i (v_datesFit P (p) (c) (g))) = 0 then false else true)) else false)
set_option maxRecDepth 20000 in
theorem rX5_couldBeBought {S : Sg} {b : Nat} {P : Pic} (hP : pcAt_ ppC S b P)  (p : Int32) (c : Int32) (g : Int32) (h_p : vp_in p 16) (h_c : vp_in c 16) : Rn 3 0 0 mX5_couldBeBought 0 [some (.ref (b)), some (.int (p)), some (.int (c)), some (.int (g))] [] S (some (.int (b2i (v_couldBeBought P p c g)))) S := by
  refine Rn.aload_n (k := 0) rfl rfl ?_
  refine Rn.iload_n (k := 1) rfl rfl ?_
  refine Rn.callV0 (k := 2) (M' := mX5_isSold) rfl lkX5_70 rfl (hP.four (q := b) 0 rfl) (hP.c 0 (q := b) rfl rfl) rfl (kX5_isSold hP (p) ) (by decide) rfl rfl (Nat.le_of_ble_eq_true rfl) ?_
  refine Rn.if_ne (k := 3) rfl (fun c_1 => ?_) (fun c_1 => ?_)
  · refine Rn.iconst (k := 17) (v := 0) rfl (by decide) ?_
    exact Rn.retz rfl rfl (by unfold v_couldBeBought; rw [if_neg c_1]; first | done | rfl) (b2i_nar _) rfl
  · refine Rn.aload_n (k := 4) rfl rfl ?_
    refine Rn.iload_n (k := 5) rfl rfl ?_
    refine Rn.iload_n (k := 6) rfl rfl ?_
    refine Rn.callV0 (k := 7) (M' := mX5_hasPlaceFor) rfl lkX5_74 rfl (hP.four (q := b) 0 rfl) (hP.c 0 (q := b) rfl rfl) rfl (kX5_hasPlaceFor hP (p) (c) (by first | with_reducible assumption) (by first | with_reducible assumption)) (by decide) rfl rfl (Nat.le_of_ble_eq_true rfl) ?_
    refine Rn.if_eq (k := 8) rfl (fun c_2 => ?_) (fun c_2 => ?_)
    · refine Rn.iconst (k := 17) (v := 0) rfl (by decide) ?_
      exact Rn.retz rfl rfl (by unfold v_couldBeBought; rw [if_pos c_1, if_pos c_2]; first | done | rfl) (b2i_nar _) rfl
    · refine Rn.aload_n (k := 9) rfl rfl ?_
      refine Rn.iload_n (k := 10) rfl rfl ?_
      refine Rn.iload_n (k := 11) rfl rfl ?_
      refine Rn.iload_n (k := 12) rfl rfl ?_
      refine Rn.callV0 (k := 13) (M' := mX5_datesFit) rfl lkX5_77 rfl (hP.four (q := b) 0 rfl) (hP.c 0 (q := b) rfl rfl) rfl (kX5_datesFit hP (p) (c) (g) (by first | with_reducible assumption) (by first | with_reducible assumption)) (by decide) rfl rfl (Nat.le_of_ble_eq_true rfl) ?_
      refine Rn.if_eq (k := 14) rfl (fun c_3 => ?_) (fun c_3 => ?_)
      · refine Rn.iconst (k := 17) (v := 0) rfl (by decide) ?_
        exact Rn.retz rfl rfl (by unfold v_couldBeBought; rw [if_pos c_1, if_neg c_2, if_pos c_3]; first | done | rfl) (b2i_nar _) rfl
      · refine Rn.iconst (k := 15) (v := 1) rfl (by decide) ?_
        refine Rn.goto (k := 16) rfl ?_
        exact Rn.retz rfl rfl (by unfold v_couldBeBought; rw [if_pos c_1, if_neg c_2, if_neg c_3]; first | done | rfl) (b2i_nar _) rfl
theorem kX5_couldBeBought {S : Sg} {b : Nat} {P : Pic} (hP : pcAt_ ppC S b P)  (p : Int32) (c : Int32) (g : Int32) (h_p : vp_in p 16) (h_c : vp_in c 16) : Cl 3 0 0 mX5_couldBeBought [.ref b, .int (p), .int (c), .int (g)] S (some (.int (b2i (v_couldBeBought P p c g)))) S := Cl.of okX5_couldBeBought (by intro i v h; match i, h with | 0, h => exact h | 1, h => exact h | 2, h => exact h | 3, h => exact h | n + 4, h => (cases h)) (Nat.le_of_ble_eq_true rfl) rfl (rX5_couldBeBought hP p c g h_p h_c)
def v_withLine (P : Pic) (p : Int32) : Int32 := (if p = (-1) then (0) else (((P.1 10 (p).toNatClampNeg) ||| (1 <<< (p &&& 31)))))
set_option maxRecDepth 20000 in
theorem rX5_withLine {S : Sg} {b : Nat} {P : Pic} (hP : pcAt_ ppC S b P)  (p : Int32) (h_p : ¬ p = -1 → vp_in p 16) : Rn 1 0 0 mX5_withLine 0 [some (.ref (b)), some (.int (p))] [] S (some (.int (v_withLine P p))) S := by
  refine Rn.iload_n (k := 0) rfl rfl ?_
  refine Rn.iconst (k := 1) (v := (-1)) rfl (by decide) ?_
  refine Rn.icmp_ne (k := 2) rfl (fun c_1 => ?_) (fun c_1 => ?_)
  · refine Rn.aload_n (k := 5) rfl rfl ?_
    refine Rn.getf (k := 6) rfl (hP.four (q := b) 0 rfl) (hP.c 0 (q := b) rfl rfl) rfl ?_
    refine Rn.iload_n (k := 7) rfl rfl ?_
    refine Rn.iald (k := 8) rfl (hP.c 10 (q := b + 10) rfl rfl) (by first | with_reducible assumption | with_reducible exact h_p (by assumption)) ?_
    refine Rn.iconst (k := 9) (v := 1) rfl (by decide) ?_
    refine Rn.iload_n (k := 10) rfl rfl ?_
    refine Rn.ishl (k := 11) rfl ?_
    refine Rn.ior (k := 12) rfl ?_
    exact Rn.retz rfl rfl (by unfold v_withLine; rw [if_neg c_1]; first | done | rfl | (rfl)) rfl rfl
  · refine Rn.iconst (k := 3) (v := 0) rfl (by decide) ?_
    refine Rn.goto (k := 4) rfl ?_
    exact Rn.retz rfl rfl (by unfold v_withLine; rw [if_pos c_1]; first | done | rfl | (rfl)) rfl rfl
theorem kX5_withLine {S : Sg} {b : Nat} {P : Pic} (hP : pcAt_ ppC S b P)  (p : Int32) (h_p : ¬ p = -1 → vp_in p 16) : Cl 1 0 0 mX5_withLine [.ref b, .int (p)] S (some (.int (v_withLine P p))) S := Cl.of okX5_withLine (by intro i v h; match i, h with | 0, h => exact h | 1, h => exact h | n + 2, h => (cases h)) (Nat.le_of_ble_eq_true rfl) rfl (rX5_withLine hP p h_p)
def v_isGrand (P : Pic) (p : Int32) (k : Int32) : Bool := (if ((v_withLine P ((P.1 8 (p).toNatClampNeg))) &&& k) = 0 then false else (if ((v_withLine P ((P.1 9 (p).toNatClampNeg))) &&& k) = 0 then false else true))
set_option maxRecDepth 20000 in
theorem rX5_isGrand {S : Sg} {b : Nat} {P : Pic} (hP : pcAt_ ppC S b P)  (p : Int32) (k : Int32) (h_p : vp_in p 16) (hw8 : ∀ i : Int32, vp_in i 16 → ¬ P.1 8 i.toNatClampNeg = -1 → vp_in (P.1 8 i.toNatClampNeg) 16) (hw9 : ∀ i : Int32, vp_in i 16 → ¬ P.1 9 i.toNatClampNeg = -1 → vp_in (P.1 9 i.toNatClampNeg) 16) : Rn 2 0 0 mX5_isGrand 0 [some (.ref (b)), some (.int (p)), some (.int (k))] [] S (some (.int (b2i (v_isGrand P p k)))) S := by
  refine Rn.aload_n (k := 0) rfl rfl ?_
  refine Rn.aload_n (k := 1) rfl rfl ?_
  refine Rn.getf (k := 2) rfl (hP.four (q := b) 0 rfl) (hP.c 0 (q := b) rfl rfl) rfl ?_
  refine Rn.iload_n (k := 3) rfl rfl ?_
  refine Rn.iald (k := 4) rfl (hP.c 8 (q := b + 8) rfl rfl) (by first | with_reducible assumption) ?_
  refine Rn.callV0 (k := 5) (M' := mX5_withLine) rfl lkX5_85 rfl (hP.four (q := b) 0 rfl) (hP.c 0 (q := b) rfl rfl) rfl (kX5_withLine hP ((P.1 8 (p).toNatClampNeg)) (by first | with_reducible assumption | (intro _; with_reducible assumption) | (exact hw8 _ (by with_reducible assumption)) | (exact hw9 _ (by with_reducible assumption)))) (by decide) rfl rfl (Nat.le_of_ble_eq_true rfl) ?_
  refine Rn.iload_n (k := 6) rfl rfl ?_
  refine Rn.iand (k := 7) rfl ?_
  refine Rn.if_eq (k := 8) rfl (fun c_1 => ?_) (fun c_1 => ?_)
  · refine Rn.iconst (k := 20) (v := 0) rfl (by decide) ?_
    exact Rn.retz rfl rfl (by unfold v_isGrand; rw [if_pos c_1]; first | done | rfl) (b2i_nar _) rfl
  · refine Rn.aload_n (k := 9) rfl rfl ?_
    refine Rn.aload_n (k := 10) rfl rfl ?_
    refine Rn.getf (k := 11) rfl (hP.four (q := b) 0 rfl) (hP.c 0 (q := b) rfl rfl) rfl ?_
    refine Rn.iload_n (k := 12) rfl rfl ?_
    refine Rn.iald (k := 13) rfl (hP.c 9 (q := b + 9) rfl rfl) (by first | with_reducible assumption) ?_
    refine Rn.callV0 (k := 14) (M' := mX5_withLine) rfl lkX5_85 rfl (hP.four (q := b) 0 rfl) (hP.c 0 (q := b) rfl rfl) rfl (kX5_withLine hP ((P.1 9 (p).toNatClampNeg)) (by first | with_reducible assumption | (intro _; with_reducible assumption) | (exact hw8 _ (by with_reducible assumption)) | (exact hw9 _ (by with_reducible assumption)))) (by decide) rfl rfl (Nat.le_of_ble_eq_true rfl) ?_
    refine Rn.iload_n (k := 15) rfl rfl ?_
    refine Rn.iand (k := 16) rfl ?_
    refine Rn.if_eq (k := 17) rfl (fun c_2 => ?_) (fun c_2 => ?_)
    · refine Rn.iconst (k := 20) (v := 0) rfl (by decide) ?_
      exact Rn.retz rfl rfl (by unfold v_isGrand; rw [if_neg c_1, if_pos c_2]; first | done | rfl) (b2i_nar _) rfl
    · refine Rn.iconst (k := 18) (v := 1) rfl (by decide) ?_
      refine Rn.goto (k := 19) rfl ?_
      exact Rn.retz rfl rfl (by unfold v_isGrand; rw [if_neg c_1, if_neg c_2]; first | done | rfl) (b2i_nar _) rfl
theorem kX5_isGrand {S : Sg} {b : Nat} {P : Pic} (hP : pcAt_ ppC S b P)  (p : Int32) (k : Int32) (h_p : vp_in p 16) (hw8 : ∀ i : Int32, vp_in i 16 → ¬ P.1 8 i.toNatClampNeg = -1 → vp_in (P.1 8 i.toNatClampNeg) 16) (hw9 : ∀ i : Int32, vp_in i 16 → ¬ P.1 9 i.toNatClampNeg = -1 → vp_in (P.1 9 i.toNatClampNeg) 16) : Cl 2 0 0 mX5_isGrand [.ref b, .int (p), .int (k)] S (some (.int (b2i (v_isGrand P p k)))) S := Cl.of okX5_isGrand (by intro i v h; match i, h with | 0, h => exact h | 1, h => exact h | 2, h => exact h | n + 3, h => (cases h)) (Nat.le_of_ble_eq_true rfl) rfl (rX5_isGrand hP p k h_p hw8 hw9)
def w_setParent (P : Pic) (c : Int32) (s : Int32) (p : Int32) : Pic := (if s = 0 then (let P_3 : Pic := pcI P 8 (upd (P.1 8) (c : Int32).toNatClampNeg p); P_3) else (let P_2 : Pic := pcI P 9 (upd (P.1 9) (c : Int32).toNatClampNeg p); P_2))
set_option maxRecDepth 20000 in
theorem rX5_setParent {S : Sg} {b : Nat} {P : Pic} (hP : pcAt_ ppC S b P)  (c : Int32) (s : Int32) (p : Int32) (h_c : vp_in c 16) : Rn 1 0 0 mX5_setParent 0 [some (.ref (b)), some (.int (c)), some (.int (s)), some (.int (p))] [] S none (pcW ppC S b (w_setParent P c s p)) := by
  refine Rn.iload_n (k := 0) rfl rfl ?_
  refine Rn.if_ne (k := 1) rfl (fun c_1 => ?_) (fun c_1 => ?_)
  · refine Rn.aload_n (k := 8) rfl rfl ?_
    refine Rn.getf (k := 9) rfl (hP.four (q := b) 0 rfl) (hP.c 0 (q := b) rfl rfl) rfl ?_
    refine Rn.iload_n (k := 10) rfl rfl ?_
    refine Rn.iload_n (k := 11) rfl rfl ?_
    refine Rn.iast (k := 12) rfl (hP.four (q := b + 9) 9 rfl) (hP.c 9 (q := b + 9) rfl rfl) (by first | with_reducible assumption) ?_
    obtain ⟨P_2, eP_2⟩ : ∃ Q0 : Pic, Q0 = pcI P 9 (upd (P.1 9) (c : Int32).toNatClampNeg p) := ⟨_, rfl⟩
    rw [hP.w P_2 9 (q := b + 9) rfl (Nat.le_of_ble_eq_true rfl) (by rw [eP_2]; rfl)]
    have hP_2 := hP.put P_2 rfl
    exact Rn.retw rfl rfl (by unfold w_setParent; rw [if_neg c_1]; first | done | rfl | (subst eP_2; rfl))
  · refine Rn.aload_n (k := 2) rfl rfl ?_
    refine Rn.getf (k := 3) rfl (hP.four (q := b) 0 rfl) (hP.c 0 (q := b) rfl rfl) rfl ?_
    refine Rn.iload_n (k := 4) rfl rfl ?_
    refine Rn.iload_n (k := 5) rfl rfl ?_
    refine Rn.iast (k := 6) rfl (hP.four (q := b + 8) 8 rfl) (hP.c 8 (q := b + 8) rfl rfl) (by first | with_reducible assumption) ?_
    obtain ⟨P_3, eP_3⟩ : ∃ Q0 : Pic, Q0 = pcI P 8 (upd (P.1 8) (c : Int32).toNatClampNeg p) := ⟨_, rfl⟩
    rw [hP.w P_3 8 (q := b + 8) rfl (Nat.le_of_ble_eq_true rfl) (by rw [eP_3]; rfl)]
    have hP_3 := hP.put P_3 rfl
    refine Rn.goto (k := 7) rfl ?_
    exact Rn.retw rfl rfl (by unfold w_setParent; rw [if_pos c_1]; first | done | rfl | (subst eP_3; rfl))
theorem kX5_setParent {S : Sg} {b : Nat} {P : Pic} (hP : pcAt_ ppC S b P)  (c : Int32) (s : Int32) (p : Int32) (h_c : vp_in c 16) : Cl 1 0 0 mX5_setParent [.ref b, .int (c), .int (s), .int (p)] S none (pcW ppC S b (w_setParent P c s p)) := Cl.of okX5_setParent (by intro i v h; match i, h with | 0, h => exact h | 1, h => exact h | 2, h => exact h | 3, h => exact h | n + 4, h => (cases h)) (Nat.le_of_ble_eq_true rfl) rfl (rX5_setParent hP c s p h_c)
def w_settle (P : Pic) (s : Int32) (y : Int32) (v : Int32) (h : Int32) : Pic := (if (P.1 0 0) < 16 then (let P_2 : Pic := pcI P 1 (upd (P.1 1) ((P.1 0 0) : Int32).toNatClampNeg s); let P_3 : Pic := pcI P_2 2 (upd (P_2.1 2) ((P.1 0 0) : Int32).toNatClampNeg y); let P_4 : Pic := pcI P_3 3 (upd (P_3.1 3) ((P.1 0 0) : Int32).toNatClampNeg v); let P_5 : Pic := pcI P_4 6 (upd (P_4.1 6) ((P.1 0 0) : Int32).toNatClampNeg h); let P_6 : Pic := pcI P_5 4 (upd (P_5.1 4) ((P.1 0 0) : Int32).toNatClampNeg 0); let P_7 : Pic := pcI P_6 5 (upd (P_6.1 5) ((P.1 0 0) : Int32).toNatClampNeg 0); let P_8 : Pic := pcI P_7 7 (upd (P_7.1 7) ((P.1 0 0) : Int32).toNatClampNeg 0); let P_9 : Pic := pcI P_8 8 (upd (P_8.1 8) ((P.1 0 0) : Int32).toNatClampNeg (-1)); let P_10 : Pic := pcI P_9 9 (upd (P_9.1 9) ((P.1 0 0) : Int32).toNatClampNeg (-1)); let P_11 : Pic := pcI P_10 10 (upd (P_10.1 10) ((P.1 0 0) : Int32).toNatClampNeg 0); let P_12 : Pic := pcI P_11 0 (upd (P_11.1 0) 0 ((P.1 0 0) + 1)); P_12) else P)
def v_settle (P : Pic) (s : Int32) (y : Int32) (v : Int32) (h : Int32) : Int32 := (if (P.1 0 0) < 16 then (let P_2 : Pic := pcI P 1 (upd (P.1 1) ((P.1 0 0) : Int32).toNatClampNeg s); let P_3 : Pic := pcI P_2 2 (upd (P_2.1 2) ((P.1 0 0) : Int32).toNatClampNeg y); let P_4 : Pic := pcI P_3 3 (upd (P_3.1 3) ((P.1 0 0) : Int32).toNatClampNeg v); let P_5 : Pic := pcI P_4 6 (upd (P_4.1 6) ((P.1 0 0) : Int32).toNatClampNeg h); let P_6 : Pic := pcI P_5 4 (upd (P_5.1 4) ((P.1 0 0) : Int32).toNatClampNeg 0); let P_7 : Pic := pcI P_6 5 (upd (P_6.1 5) ((P.1 0 0) : Int32).toNatClampNeg 0); let P_8 : Pic := pcI P_7 7 (upd (P_7.1 7) ((P.1 0 0) : Int32).toNatClampNeg 0); let P_9 : Pic := pcI P_8 8 (upd (P_8.1 8) ((P.1 0 0) : Int32).toNatClampNeg (-1)); let P_10 : Pic := pcI P_9 9 (upd (P_9.1 9) ((P.1 0 0) : Int32).toNatClampNeg (-1)); let P_11 : Pic := pcI P_10 10 (upd (P_10.1 10) ((P.1 0 0) : Int32).toNatClampNeg 0); let P_12 : Pic := pcI P_11 0 (upd (P_11.1 0) 0 ((P.1 0 0) + 1)); (P.1 0 0)) else ((-1)))
set_option maxRecDepth 20000 in
theorem rX5_settle {S : Sg} {b : Nat} {P : Pic} (hP : pcAt_ ppC S b P)  (s : Int32) (y : Int32) (v : Int32) (h : Int32) (h16 : (P.1 0 0) < 16 → vp_in (P.1 0 0) 16) : Rn 1 0 0 mX5_settle 0 [some (.ref (b)), some (.int (s)), some (.int (y)), some (.int (v)), some (.int (h)), none] [] S (some (.int (v_settle P s y v h))) (pcW ppC S b (w_settle P s y v h)) := by
  refine Rn.aload_n (k := 0) rfl rfl ?_
  refine Rn.getf (k := 1) rfl (hP.four (q := b) 0 rfl) (hP.c 0 (q := b) rfl rfl) rfl ?_
  refine Rn.bipush (k := 2) (v := 16) rfl (by decide) ?_
  refine Rn.icmp_lt (k := 3) rfl (fun c_1 => ?_) (fun c_1 => ?_)
  · refine Rn.aload_n (k := 6) rfl rfl ?_
    refine Rn.getf (k := 7) rfl (hP.four (q := b) 0 rfl) (hP.c 0 (q := b) rfl rfl) rfl ?_
    refine Rn.istore (k := 8) rfl (by decide) rfl ?_
    refine Rn.aload_n (k := 9) rfl rfl ?_
    refine Rn.getf (k := 10) rfl (hP.four (q := b) 0 rfl) (hP.c 0 (q := b) rfl rfl) rfl ?_
    refine Rn.iload (k := 11) rfl rfl ?_
    refine Rn.iload_n (k := 12) rfl rfl ?_
    refine Rn.iast (k := 13) rfl (hP.four (q := b + 1) 1 rfl) (hP.c 1 (q := b + 1) rfl rfl) (by first | with_reducible assumption | with_reducible exact h16 (by assumption)) ?_
    obtain ⟨P_2, eP_2⟩ : ∃ Q0 : Pic, Q0 = pcI P 1 (upd (P.1 1) ((P.1 0 0) : Int32).toNatClampNeg s) := ⟨_, rfl⟩
    rw [hP.w P_2 1 (q := b + 1) rfl (Nat.le_of_ble_eq_true rfl) (by rw [eP_2]; rfl)]
    have hP_2 := hP.put P_2 rfl
    refine Rn.aload_n (k := 14) rfl rfl ?_
    refine Rn.getf (k := 15) rfl (hP_2.four (q := b) 0 rfl) (hP_2.c 0 (q := b) rfl rfl) rfl ?_
    refine Rn.iload (k := 16) rfl rfl ?_
    refine Rn.iload_n (k := 17) rfl rfl ?_
    refine Rn.iast (k := 18) rfl (hP_2.four (q := b + 2) 2 rfl) (hP_2.c 2 (q := b + 2) rfl rfl) (by first | with_reducible assumption | with_reducible exact h16 (by assumption)) ?_
    obtain ⟨P_3, eP_3⟩ : ∃ Q0 : Pic, Q0 = pcI P_2 2 (upd (P_2.1 2) ((P.1 0 0) : Int32).toNatClampNeg y) := ⟨_, rfl⟩
    rw [hP_2.w P_3 2 (q := b + 2) rfl (Nat.le_of_ble_eq_true rfl) (by rw [eP_3]; rfl), ppC_WW]
    have hP_3 := hP.put P_3 rfl
    refine Rn.aload_n (k := 19) rfl rfl ?_
    refine Rn.getf (k := 20) rfl (hP_3.four (q := b) 0 rfl) (hP_3.c 0 (q := b) rfl rfl) rfl ?_
    refine Rn.iload (k := 21) rfl rfl ?_
    refine Rn.iload_n (k := 22) rfl rfl ?_
    refine Rn.iast (k := 23) rfl (hP_3.four (q := b + 3) 3 rfl) (hP_3.c 3 (q := b + 3) rfl rfl) (by first | with_reducible assumption | with_reducible exact h16 (by assumption)) ?_
    obtain ⟨P_4, eP_4⟩ : ∃ Q0 : Pic, Q0 = pcI P_3 3 (upd (P_3.1 3) ((P.1 0 0) : Int32).toNatClampNeg v) := ⟨_, rfl⟩
    rw [hP_3.w P_4 3 (q := b + 3) rfl (Nat.le_of_ble_eq_true rfl) (by rw [eP_4]; rfl), ppC_WW]
    have hP_4 := hP.put P_4 rfl
    refine Rn.aload_n (k := 24) rfl rfl ?_
    refine Rn.getf (k := 25) rfl (hP_4.four (q := b) 0 rfl) (hP_4.c 0 (q := b) rfl rfl) rfl ?_
    refine Rn.iload (k := 26) rfl rfl ?_
    refine Rn.iload (k := 27) rfl rfl ?_
    refine Rn.iast (k := 28) rfl (hP_4.four (q := b + 6) 6 rfl) (hP_4.c 6 (q := b + 6) rfl rfl) (by first | with_reducible assumption | with_reducible exact h16 (by assumption)) ?_
    obtain ⟨P_5, eP_5⟩ : ∃ Q0 : Pic, Q0 = pcI P_4 6 (upd (P_4.1 6) ((P.1 0 0) : Int32).toNatClampNeg h) := ⟨_, rfl⟩
    rw [hP_4.w P_5 6 (q := b + 6) rfl (Nat.le_of_ble_eq_true rfl) (by rw [eP_5]; rfl), ppC_WW]
    have hP_5 := hP.put P_5 rfl
    refine Rn.aload_n (k := 29) rfl rfl ?_
    refine Rn.getf (k := 30) rfl (hP_5.four (q := b) 0 rfl) (hP_5.c 0 (q := b) rfl rfl) rfl ?_
    refine Rn.iload (k := 31) rfl rfl ?_
    refine Rn.iconst (k := 32) (v := 0) rfl (by decide) ?_
    refine Rn.iast (k := 33) rfl (hP_5.four (q := b + 4) 4 rfl) (hP_5.c 4 (q := b + 4) rfl rfl) (by first | with_reducible assumption | with_reducible exact h16 (by assumption)) ?_
    obtain ⟨P_6, eP_6⟩ : ∃ Q0 : Pic, Q0 = pcI P_5 4 (upd (P_5.1 4) ((P.1 0 0) : Int32).toNatClampNeg 0) := ⟨_, rfl⟩
    rw [hP_5.w P_6 4 (q := b + 4) rfl (Nat.le_of_ble_eq_true rfl) (by rw [eP_6]; rfl), ppC_WW]
    have hP_6 := hP.put P_6 rfl
    refine Rn.aload_n (k := 34) rfl rfl ?_
    refine Rn.getf (k := 35) rfl (hP_6.four (q := b) 0 rfl) (hP_6.c 0 (q := b) rfl rfl) rfl ?_
    refine Rn.iload (k := 36) rfl rfl ?_
    refine Rn.iconst (k := 37) (v := 0) rfl (by decide) ?_
    refine Rn.iast (k := 38) rfl (hP_6.four (q := b + 5) 5 rfl) (hP_6.c 5 (q := b + 5) rfl rfl) (by first | with_reducible assumption | with_reducible exact h16 (by assumption)) ?_
    obtain ⟨P_7, eP_7⟩ : ∃ Q0 : Pic, Q0 = pcI P_6 5 (upd (P_6.1 5) ((P.1 0 0) : Int32).toNatClampNeg 0) := ⟨_, rfl⟩
    rw [hP_6.w P_7 5 (q := b + 5) rfl (Nat.le_of_ble_eq_true rfl) (by rw [eP_7]; rfl), ppC_WW]
    have hP_7 := hP.put P_7 rfl
    refine Rn.aload_n (k := 39) rfl rfl ?_
    refine Rn.getf (k := 40) rfl (hP_7.four (q := b) 0 rfl) (hP_7.c 0 (q := b) rfl rfl) rfl ?_
    refine Rn.iload (k := 41) rfl rfl ?_
    refine Rn.iconst (k := 42) (v := 0) rfl (by decide) ?_
    refine Rn.iast (k := 43) rfl (hP_7.four (q := b + 7) 7 rfl) (hP_7.c 7 (q := b + 7) rfl rfl) (by first | with_reducible assumption | with_reducible exact h16 (by assumption)) ?_
    obtain ⟨P_8, eP_8⟩ : ∃ Q0 : Pic, Q0 = pcI P_7 7 (upd (P_7.1 7) ((P.1 0 0) : Int32).toNatClampNeg 0) := ⟨_, rfl⟩
    rw [hP_7.w P_8 7 (q := b + 7) rfl (Nat.le_of_ble_eq_true rfl) (by rw [eP_8]; rfl), ppC_WW]
    have hP_8 := hP.put P_8 rfl
    refine Rn.aload_n (k := 44) rfl rfl ?_
    refine Rn.getf (k := 45) rfl (hP_8.four (q := b) 0 rfl) (hP_8.c 0 (q := b) rfl rfl) rfl ?_
    refine Rn.iload (k := 46) rfl rfl ?_
    refine Rn.iconst (k := 47) (v := (-1)) rfl (by decide) ?_
    refine Rn.iast (k := 48) rfl (hP_8.four (q := b + 8) 8 rfl) (hP_8.c 8 (q := b + 8) rfl rfl) (by first | with_reducible assumption | with_reducible exact h16 (by assumption)) ?_
    obtain ⟨P_9, eP_9⟩ : ∃ Q0 : Pic, Q0 = pcI P_8 8 (upd (P_8.1 8) ((P.1 0 0) : Int32).toNatClampNeg (-1)) := ⟨_, rfl⟩
    rw [hP_8.w P_9 8 (q := b + 8) rfl (Nat.le_of_ble_eq_true rfl) (by rw [eP_9]; rfl), ppC_WW]
    have hP_9 := hP.put P_9 rfl
    refine Rn.aload_n (k := 49) rfl rfl ?_
    refine Rn.getf (k := 50) rfl (hP_9.four (q := b) 0 rfl) (hP_9.c 0 (q := b) rfl rfl) rfl ?_
    refine Rn.iload (k := 51) rfl rfl ?_
    refine Rn.iconst (k := 52) (v := (-1)) rfl (by decide) ?_
    refine Rn.iast (k := 53) rfl (hP_9.four (q := b + 9) 9 rfl) (hP_9.c 9 (q := b + 9) rfl rfl) (by first | with_reducible assumption | with_reducible exact h16 (by assumption)) ?_
    obtain ⟨P_10, eP_10⟩ : ∃ Q0 : Pic, Q0 = pcI P_9 9 (upd (P_9.1 9) ((P.1 0 0) : Int32).toNatClampNeg (-1)) := ⟨_, rfl⟩
    rw [hP_9.w P_10 9 (q := b + 9) rfl (Nat.le_of_ble_eq_true rfl) (by rw [eP_10]; rfl), ppC_WW]
    have hP_10 := hP.put P_10 rfl
    refine Rn.aload_n (k := 54) rfl rfl ?_
    refine Rn.getf (k := 55) rfl (hP_10.four (q := b) 0 rfl) (hP_10.c 0 (q := b) rfl rfl) rfl ?_
    refine Rn.iload (k := 56) rfl rfl ?_
    refine Rn.iconst (k := 57) (v := 0) rfl (by decide) ?_
    refine Rn.iast (k := 58) rfl (hP_10.four (q := b + 10) 10 rfl) (hP_10.c 10 (q := b + 10) rfl rfl) (by first | with_reducible assumption | with_reducible exact h16 (by assumption)) ?_
    obtain ⟨P_11, eP_11⟩ : ∃ Q0 : Pic, Q0 = pcI P_10 10 (upd (P_10.1 10) ((P.1 0 0) : Int32).toNatClampNeg 0) := ⟨_, rfl⟩
    rw [hP_10.w P_11 10 (q := b + 10) rfl (Nat.le_of_ble_eq_true rfl) (by rw [eP_11]; rfl), ppC_WW]
    have hP_11 := hP.put P_11 rfl
    refine Rn.aload_n (k := 59) rfl rfl ?_
    refine Rn.iload (k := 60) rfl rfl ?_
    refine Rn.iconst (k := 61) (v := 1) rfl (by decide) ?_
    refine Rn.iadd (k := 62) rfl ?_
    refine Rn.putf (k := 63) rfl (hP_11.four (q := b) 0 rfl) (hP_11.c 0 (q := b) rfl rfl) (fun q hq => by cases hq; rfl) (Nat.le_of_ble_eq_true rfl) (by first | rfl | exact b2i_nar _) (by first | rfl | exact b2i_fit _) ?_
    obtain ⟨P_12, eP_12⟩ : ∃ Q0 : Pic, Q0 = pcI P_11 0 (upd (P_11.1 0) 0 ((P.1 0 0) + 1)) := ⟨_, rfl⟩
    rw [hP_11.w P_12 0 (q := b) rfl (Nat.le_of_ble_eq_true rfl) (by rw [eP_12]; rfl), ppC_WW]
    have hP_12 := hP.put P_12 rfl
    refine Rn.iload (k := 64) rfl rfl ?_
    exact Rn.retz rfl rfl (by unfold v_settle; rw [if_pos c_1]; first | done | rfl | (subst eP_2; subst eP_3; subst eP_4; subst eP_5; subst eP_6; subst eP_7; subst eP_8; subst eP_9; subst eP_10; subst eP_11; subst eP_12; rfl)) rfl (by unfold w_settle; rw [if_pos c_1]; first | done | rfl | (subst eP_2; subst eP_3; subst eP_4; subst eP_5; subst eP_6; subst eP_7; subst eP_8; subst eP_9; subst eP_10; subst eP_11; subst eP_12; rfl))
  · refine Rn.iconst (k := 4) (v := (-1)) rfl (by decide) ?_
    exact Rn.retz rfl rfl (by unfold v_settle; rw [if_neg c_1]; first | done | rfl | (rfl)) rfl (by unfold w_settle; rw [if_neg c_1]; exact hP.self.symm)
theorem kX5_settle {S : Sg} {b : Nat} {P : Pic} (hP : pcAt_ ppC S b P)  (s : Int32) (y : Int32) (v : Int32) (h : Int32) (h16 : (P.1 0 0) < 16 → vp_in (P.1 0 0) 16) : Cl 1 0 0 mX5_settle [.ref b, .int (s), .int (y), .int (v), .int (h)] S (some (.int (v_settle P s y v h))) (pcW ppC S b (w_settle P s y v h)) := Cl.of okX5_settle (by intro i v h; match i, h with | 0, h => exact h | 1, h => exact h | 2, h => exact h | 3, h => exact h | 4, h => exact h | 5, h => (cases h) | n + 6, h => (cases h)) (Nat.le_of_ble_eq_true rfl) rfl (rX5_settle hP s y v h h16)
def w_unsell (P : Pic) (p : Int32) (c : Int32) : Pic := (let P_1 : Pic := w_setParent P (c) ((P.1 1 (p).toNatClampNeg)) ((-1)); let P_2 : Pic := pcI P_1 0 (upd (P_1.1 0) 1 ((P_1.1 0 1) &&& ((1 <<< (p &&& 31)) ^^^ (-1)))); P_2)
set_option maxRecDepth 20000 in
theorem rX5_unsell {S : Sg} {b : Nat} {P : Pic} (hP : pcAt_ ppC S b P)  (p : Int32) (c : Int32) (h_p : vp_in p 16) (h_c : vp_in c 16) : Rn 2 0 0 mX5_unsell 0 [some (.ref (b)), some (.int (p)), some (.int (c))] [] S none (pcW ppC S b (w_unsell P p c)) := by
  refine Rn.aload_n (k := 0) rfl rfl ?_
  refine Rn.iload_n (k := 1) rfl rfl ?_
  refine Rn.aload_n (k := 2) rfl rfl ?_
  refine Rn.getf (k := 3) rfl (hP.four (q := b) 0 rfl) (hP.c 0 (q := b) rfl rfl) rfl ?_
  refine Rn.iload_n (k := 4) rfl rfl ?_
  refine Rn.iald (k := 5) rfl (hP.c 1 (q := b + 1) rfl rfl) (by first | with_reducible assumption) ?_
  refine Rn.iconst (k := 6) (v := (-1)) rfl (by decide) ?_
  refine Rn.callV0 (k := 7) (M' := mX5_setParent) rfl lkX5_81 rfl (hP.four (q := b) 0 rfl) (hP.c 0 (q := b) rfl rfl) rfl (kX5_setParent hP (c) ((P.1 1 (p).toNatClampNeg)) ((-1)) (by first | with_reducible assumption)) (by decide) rfl rfl (Nat.le_of_ble_eq_true rfl) ?_
  obtain ⟨P_1, eP_1⟩ : ∃ Q0 : Pic, Q0 = w_setParent P (c) ((P.1 1 (p).toNatClampNeg)) ((-1)) := ⟨_, rfl⟩
  rw [← eP_1]
  have hP_1 := hP.put P_1 rfl
  refine Rn.aload_n (k := 8) rfl rfl ?_
  refine Rn.dup (k := 9) rfl rfl ?_
  refine Rn.getf (k := 10) rfl (hP_1.four (q := b) 0 rfl) (hP_1.c 0 (q := b) rfl rfl) rfl ?_
  refine Rn.iconst (k := 11) (v := 1) rfl (by decide) ?_
  refine Rn.iload_n (k := 12) rfl rfl ?_
  refine Rn.ishl (k := 13) rfl ?_
  refine Rn.iconst (k := 14) (v := (-1)) rfl (by decide) ?_
  refine Rn.ixor (k := 15) rfl ?_
  refine Rn.iand (k := 16) rfl ?_
  refine Rn.putf (k := 17) rfl (hP_1.four (q := b) 0 rfl) (hP_1.c 0 (q := b) rfl rfl) (fun q hq => by cases hq; rfl) (Nat.le_of_ble_eq_true rfl) (by first | rfl | exact b2i_nar _) (by first | rfl | exact b2i_fit _) ?_
  obtain ⟨P_2, eP_2⟩ : ∃ Q0 : Pic, Q0 = pcI P_1 0 (upd (P_1.1 0) 1 ((P_1.1 0 1) &&& ((1 <<< (p &&& 31)) ^^^ (-1)))) := ⟨_, rfl⟩
  rw [hP_1.w P_2 0 (q := b) rfl (Nat.le_of_ble_eq_true rfl) (by rw [eP_2]; rfl), ppC_WW]
  have hP_2 := hP.put P_2 rfl
  exact Rn.retw rfl rfl (by unfold w_unsell; first | done | rfl | (subst eP_1; subst eP_2; rfl))
theorem kX5_unsell {S : Sg} {b : Nat} {P : Pic} (hP : pcAt_ ppC S b P)  (p : Int32) (c : Int32) (h_p : vp_in p 16) (h_c : vp_in c 16) : Cl 2 0 0 mX5_unsell [.ref b, .int (p), .int (c)] S none (pcW ppC S b (w_unsell P p c)) := Cl.of okX5_unsell (by intro i v h; match i, h with | 0, h => exact h | 1, h => exact h | 2, h => exact h | n + 3, h => (cases h)) (Nat.le_of_ble_eq_true rfl) rfl (rX5_unsell hP p c h_p h_c)
def l_desc (P : Pic) (p : Int32) : Nat → Nat → Int32 → Int32
  | 0, k, v => (v)
  | n + 1, k, v => (if (P.1 0 0) ≤ nI k then (v) else (if (b2i (v_isInLine P (p) (nI k))) = 0 then l_desc P p n (k + 1) (v) else l_desc P p n (k + 1) ((v ||| (1 <<< (nI k &&& 31))))))
set_option maxHeartbeats 4000000 in
set_option maxRecDepth 20000 in
theorem c_desc {d kc ks : Nat} {rv : Option Value} {S' : Sg} {S : Sg} {b : Nat} {P : Pic} (hP : pcAt_ ppC S b P) {N : Nat} (p : Int32) (hN : P.1 0 0 = nI N) (h16 : N ≤ 16) (hd : 2 ≤ d) : ∀ (n k : Nat) (v : Int32) , N - k < n → k ≤ N → (Rn d kc ks mX5_descendants 21 [some (.ref (b)), some (.int (p)), some (.int ((l_desc P p n k (v)))), none] [] S rv S') → Rn d kc ks mX5_descendants 4 [some (.ref (b)), some (.int (p)), some (.int (v)), some (.int (nI k))] [] S rv S' := by
  intro n
  induction n with
  | zero => intro k v h; exact absurd h (Nat.not_lt_zero _)
  | succ n ih =>
    intro k v hm hkN  hc
    refine Rn.iload_n (k := 4) rfl rfl ?_
    refine Rn.aload_n (k := 5) rfl rfl ?_
    refine Rn.getf (k := 6) rfl (hP.four (q := b) 0 rfl) (hP.c 0 (q := b) rfl rfl) rfl ?_
    refine Rn.icmp_ge (k := 7) rfl (fun cl_1 => ?_) (fun cl_1 => ?_)
    · refine Rn.forget (ls' := [some (.ref (b)), some (.int (p)), some (.int (v)), none]) (by intro i v h; match i, h with | 0, h => exact h | 1, h => exact h | 2, h => exact h | 3, h => (cases h) | n + 4, h => (cases h)) ?_
      exact (by have e : l_desc P p (n + 1) k (v) = (v) := (by simp only [l_desc, if_pos cl_1]); rw [e] at hc; exact hc)
    · have hltl_2 : k < N := Nat.lt_of_not_le (fun q => cl_1 (by rw [hN]; exact nI_le q (by omega)))
      have hinl_3 : vp_in (nI k) 16 := vp_in_nI (by omega) (by decide)
      refine Rn.aload_n (k := 8) rfl rfl ?_
      refine Rn.iload_n (k := 9) rfl rfl ?_
      refine Rn.iload_n (k := 10) rfl rfl ?_
      refine Rn.callV0 (k := 11) (M' := mX5_isInLine) rfl lkX5_102 rfl (hP.four (q := b) 0 rfl) (hP.c 0 (q := b) rfl rfl) rfl (kX5_isInLine hP (p) (nI k) (by first | with_reducible assumption)) (by omega) rfl rfl (Nat.le_of_ble_eq_true rfl) ?_
      refine Rn.if_eq (k := 12) rfl (fun cl_4 => ?_) (fun cl_4 => ?_)
      · refine Rn.iinc (k := 19) (v := nI (k + 1)) rfl rfl (nI_1 k) (by decide) rfl ?_
        refine Rn.goto (k := 20) rfl ?_
        refine Rn.forget (ls' := [some (.ref (b)), some (.int (p)), some (.int (v)), some (.int (nI (k + 1)))]) (by intro i v h; match i, h with | 0, h => exact h | 1, h => exact h | 2, h => exact h | 3, h => exact h | n + 4, h => (cases h)) ?_
        exact ih (k + 1) (v) (by omega) (by omega)  (by have e : l_desc P p (n + 1) k (v) = l_desc P p n (k + 1) (v) := (by simp only [l_desc, if_neg cl_1, if_pos cl_4]); rw [e] at hc; exact hc)
      · refine Rn.iload_n (k := 13) rfl rfl ?_
        refine Rn.iconst (k := 14) (v := 1) rfl (by decide) ?_
        refine Rn.iload_n (k := 15) rfl rfl ?_
        refine Rn.ishl (k := 16) rfl ?_
        refine Rn.ior (k := 17) rfl ?_
        refine Rn.istore_n (k := 18) rfl (by decide) rfl ?_
        refine Rn.iinc (k := 19) (v := nI (k + 1)) rfl rfl (nI_1 k) (by decide) rfl ?_
        refine Rn.goto (k := 20) rfl ?_
        refine Rn.forget (ls' := [some (.ref (b)), some (.int (p)), some (.int ((v ||| (1 <<< (nI k &&& 31))))), some (.int (nI (k + 1)))]) (by intro i v h; match i, h with | 0, h => exact h | 1, h => exact h | 2, h => exact h | 3, h => exact h | n + 4, h => (cases h)) ?_
        exact ih (k + 1) ((v ||| (1 <<< (nI k &&& 31)))) (by omega) (by omega)  (by have e : l_desc P p (n + 1) k (v) = l_desc P p n (k + 1) ((v ||| (1 <<< (nI k &&& 31)))) := (by simp only [l_desc, if_neg cl_1, if_neg cl_4]); rw [e] at hc; exact hc)
def v_descendants (P : Pic) (p : Int32) : Int32 := ((l_desc P (p) 17 0 (0)))
set_option maxRecDepth 20000 in
theorem rX5_descendants {S : Sg} {b : Nat} {P : Pic} (hP : pcAt_ ppC S b P) {N : Nat} (p : Int32) (hN : P.1 0 0 = nI N) (h16 : N ≤ 16) : Rn 2 0 0 mX5_descendants 0 [some (.ref (b)), some (.int (p)), none, none] [] S (some (.int (v_descendants P p))) S := by
  refine Rn.iconst (k := 0) (v := 0) rfl (by decide) ?_
  refine Rn.istore_n (k := 1) rfl (by decide) rfl ?_
  refine Rn.iconst (k := 2) (v := 0) rfl (by decide) ?_
  refine Rn.istore_n (k := 3) rfl (by decide) rfl ?_
  refine Rn.forget (ls' := [some (.ref (b)), some (.int (p)), some (.int (0)), some (.int (nI 0))]) (by intro i v h; match i, h with | 0, h => exact h | 1, h => exact h | 2, h => exact h | 3, h => exact h | n + 4, h => (cases h)) ?_
  refine c_desc hP (p) hN h16 (by first | decide | omega) 17 0 (0) (by omega) (Nat.zero_le _)  (?_)
  refine Rn.iload_n (k := 21) rfl rfl ?_
  exact Rn.retz rfl rfl (by unfold v_descendants; first | done | rfl | (rfl)) rfl rfl
theorem kX5_descendants {S : Sg} {b : Nat} {P : Pic} (hP : pcAt_ ppC S b P) {N : Nat} (p : Int32) (hN : P.1 0 0 = nI N) (h16 : N ≤ 16) : Cl 2 0 0 mX5_descendants [.ref b, .int (p)] S (some (.int (v_descendants P p))) S := Cl.of okX5_descendants (by intro i v h; match i, h with | 0, h => exact h | 1, h => exact h | 2, h => (cases h) | 3, h => (cases h) | n + 4, h => (cases h)) (Nat.le_of_ble_eq_true rfl) rfl (rX5_descendants hP p hN h16)
def l_debts (P : Pic) (p : Int32) : Nat → Nat → Int32 → Int32
  | 0, k, v => (v)
  | n + 1, k, v => (if (P.1 0 0) ≤ nI k then (v) else (if (b2i (v_isSelfOrInLine P (nI k) (p))) = 0 then l_debts P p n (k + 1) (v) else l_debts P p n (k + 1) ((v + (P.1 5 (nI k).toNatClampNeg)))))
set_option maxHeartbeats 4000000 in
set_option maxRecDepth 20000 in
theorem c_debts {d kc ks : Nat} {rv : Option Value} {S' : Sg} {S : Sg} {b : Nat} {P : Pic} (hP : pcAt_ ppC S b P) {N : Nat} (p : Int32) (h_p : vp_in p 16) (hN : P.1 0 0 = nI N) (h16 : N ≤ 16) (hd : 2 ≤ d) : ∀ (n k : Nat) (v : Int32) , N - k < n → k ≤ N → (Rn d kc ks mX5_debtsOf 22 [some (.ref (b)), some (.int (p)), some (.int ((l_debts P p n k (v)))), none] [] S rv S') → Rn d kc ks mX5_debtsOf 4 [some (.ref (b)), some (.int (p)), some (.int (v)), some (.int (nI k))] [] S rv S' := by
  intro n
  induction n with
  | zero => intro k v h; exact absurd h (Nat.not_lt_zero _)
  | succ n ih =>
    intro k v hm hkN  hc
    refine Rn.iload_n (k := 4) rfl rfl ?_
    refine Rn.aload_n (k := 5) rfl rfl ?_
    refine Rn.getf (k := 6) rfl (hP.four (q := b) 0 rfl) (hP.c 0 (q := b) rfl rfl) rfl ?_
    refine Rn.icmp_ge (k := 7) rfl (fun cl_1 => ?_) (fun cl_1 => ?_)
    · refine Rn.forget (ls' := [some (.ref (b)), some (.int (p)), some (.int (v)), none]) (by intro i v h; match i, h with | 0, h => exact h | 1, h => exact h | 2, h => exact h | 3, h => (cases h) | n + 4, h => (cases h)) ?_
      exact (by have e : l_debts P p (n + 1) k (v) = (v) := (by simp only [l_debts, if_pos cl_1]); rw [e] at hc; exact hc)
    · have hltl_2 : k < N := Nat.lt_of_not_le (fun q => cl_1 (by rw [hN]; exact nI_le q (by omega)))
      have hinl_3 : vp_in (nI k) 16 := vp_in_nI (by omega) (by decide)
      refine Rn.aload_n (k := 8) rfl rfl ?_
      refine Rn.iload_n (k := 9) rfl rfl ?_
      refine Rn.iload_n (k := 10) rfl rfl ?_
      refine Rn.callV0 (k := 11) (M' := mX5_isSelfOrInLine) rfl lkX5_66 rfl (hP.four (q := b) 0 rfl) (hP.c 0 (q := b) rfl rfl) rfl (kX5_isSelfOrInLine hP (nI k) (p) (by first | with_reducible assumption)) (by omega) rfl rfl (Nat.le_of_ble_eq_true rfl) ?_
      refine Rn.if_eq (k := 12) rfl (fun cl_4 => ?_) (fun cl_4 => ?_)
      · refine Rn.iinc (k := 20) (v := nI (k + 1)) rfl rfl (nI_1 k) (by decide) rfl ?_
        refine Rn.goto (k := 21) rfl ?_
        refine Rn.forget (ls' := [some (.ref (b)), some (.int (p)), some (.int (v)), some (.int (nI (k + 1)))]) (by intro i v h; match i, h with | 0, h => exact h | 1, h => exact h | 2, h => exact h | 3, h => exact h | n + 4, h => (cases h)) ?_
        exact ih (k + 1) (v) (by omega) (by omega)  (by have e : l_debts P p (n + 1) k (v) = l_debts P p n (k + 1) (v) := (by simp only [l_debts, if_neg cl_1, if_pos cl_4]); rw [e] at hc; exact hc)
      · refine Rn.iload_n (k := 13) rfl rfl ?_
        refine Rn.aload_n (k := 14) rfl rfl ?_
        refine Rn.getf (k := 15) rfl (hP.four (q := b) 0 rfl) (hP.c 0 (q := b) rfl rfl) rfl ?_
        refine Rn.iload_n (k := 16) rfl rfl ?_
        refine Rn.iald (k := 17) rfl (hP.c 5 (q := b + 5) rfl rfl) (by first | with_reducible assumption) ?_
        refine Rn.iadd (k := 18) rfl ?_
        refine Rn.istore_n (k := 19) rfl (by decide) rfl ?_
        refine Rn.iinc (k := 20) (v := nI (k + 1)) rfl rfl (nI_1 k) (by decide) rfl ?_
        refine Rn.goto (k := 21) rfl ?_
        refine Rn.forget (ls' := [some (.ref (b)), some (.int (p)), some (.int ((v + (P.1 5 (nI k).toNatClampNeg)))), some (.int (nI (k + 1)))]) (by intro i v h; match i, h with | 0, h => exact h | 1, h => exact h | 2, h => exact h | 3, h => exact h | n + 4, h => (cases h)) ?_
        exact ih (k + 1) ((v + (P.1 5 (nI k).toNatClampNeg))) (by omega) (by omega)  (by have e : l_debts P p (n + 1) k (v) = l_debts P p n (k + 1) ((v + (P.1 5 (nI k).toNatClampNeg))) := (by simp only [l_debts, if_neg cl_1, if_neg cl_4]); rw [e] at hc; exact hc)
def v_debtsOf (P : Pic) (p : Int32) : Int32 := ((l_debts P (p) 17 0 (0)))
set_option maxRecDepth 20000 in
theorem rX5_debtsOf {S : Sg} {b : Nat} {P : Pic} (hP : pcAt_ ppC S b P) {N : Nat} (p : Int32) (h_p : vp_in p 16) (hN : P.1 0 0 = nI N) (h16 : N ≤ 16) : Rn 2 0 0 mX5_debtsOf 0 [some (.ref (b)), some (.int (p)), none, none] [] S (some (.int (v_debtsOf P p))) S := by
  refine Rn.iconst (k := 0) (v := 0) rfl (by decide) ?_
  refine Rn.istore_n (k := 1) rfl (by decide) rfl ?_
  refine Rn.iconst (k := 2) (v := 0) rfl (by decide) ?_
  refine Rn.istore_n (k := 3) rfl (by decide) rfl ?_
  refine Rn.forget (ls' := [some (.ref (b)), some (.int (p)), some (.int (0)), some (.int (nI 0))]) (by intro i v h; match i, h with | 0, h => exact h | 1, h => exact h | 2, h => exact h | 3, h => exact h | n + 4, h => (cases h)) ?_
  refine c_debts hP (p) h_p hN h16 (by first | decide | omega) 17 0 (0) (by omega) (Nat.zero_le _)  (?_)
  refine Rn.iload_n (k := 22) rfl rfl ?_
  exact Rn.retz rfl rfl (by unfold v_debtsOf; first | done | rfl | (rfl)) rfl rfl
theorem kX5_debtsOf {S : Sg} {b : Nat} {P : Pic} (hP : pcAt_ ppC S b P) {N : Nat} (p : Int32) (h_p : vp_in p 16) (hN : P.1 0 0 = nI N) (h16 : N ≤ 16) : Cl 2 0 0 mX5_debtsOf [.ref b, .int (p)] S (some (.int (v_debtsOf P p))) S := Cl.of okX5_debtsOf (by intro i v h; match i, h with | 0, h => exact h | 1, h => exact h | 2, h => (cases h) | 3, h => (cases h) | n + 4, h => (cases h)) (Nat.le_of_ble_eq_true rfl) rfl (rX5_debtsOf hP p h_p hN h16)
def l_forged (P : Pic) (g : Int32) : Nat → Nat → Int32 → Int32
  | 0, k, v => (v)
  | n + 1, k, v => (if (P.1 0 0) ≤ nI k then (v) else (if (P.1 8 (nI k).toNatClampNeg) = (-1) then (if (P.1 9 (nI k).toNatClampNeg) = (-1) then l_forged P g n (k + 1) (v) else (if (b2i (v_datesFit P ((P.1 9 (nI k).toNatClampNeg)) (nI k) (g))) = 0 then l_forged P g n (k + 1) ((v ||| (1 <<< (nI k &&& 31)))) else l_forged P g n (k + 1) (v))) else (if (b2i (v_datesFit P ((P.1 8 (nI k).toNatClampNeg)) (nI k) (g))) = 0 then (if (P.1 9 (nI k).toNatClampNeg) = (-1) then l_forged P g n (k + 1) ((v ||| (1 <<< (nI k &&& 31)))) else (if (b2i (v_datesFit P ((P.1 9 (nI k).toNatClampNeg)) (nI k) (g))) = 0 then l_forged P g n (k + 1) ((v ||| (1 <<< (nI k &&& 31)))) else l_forged P g n (k + 1) ((v ||| (1 <<< (nI k &&& 31)))))) else (if (P.1 9 (nI k).toNatClampNeg) = (-1) then l_forged P g n (k + 1) (v) else (if (b2i (v_datesFit P ((P.1 9 (nI k).toNatClampNeg)) (nI k) (g))) = 0 then l_forged P g n (k + 1) ((v ||| (1 <<< (nI k &&& 31)))) else l_forged P g n (k + 1) (v))))))
set_option maxHeartbeats 4000000 in
set_option maxRecDepth 20000 in
theorem c_forged {d kc ks : Nat} {rv : Option Value} {S' : Sg} {S : Sg} {b : Nat} {P : Pic} (hP : pcAt_ ppC S b P) {N : Nat} (g : Int32) (hw8 : ∀ i : Int32, vp_in i 16 → ¬ P.1 8 i.toNatClampNeg = -1 → vp_in (P.1 8 i.toNatClampNeg) 16) (hw9 : ∀ i : Int32, vp_in i 16 → ¬ P.1 9 i.toNatClampNeg = -1 → vp_in (P.1 9 i.toNatClampNeg) 16) (hN : P.1 0 0 = nI N) (h16 : N ≤ 16) (hd : 2 ≤ d) : ∀ (n k : Nat) (v : Int32) , N - k < n → k ≤ N → (Rn d kc ks mX5_forgedChildren 58 [some (.ref (b)), some (.int (g)), some (.int ((l_forged P g n k (v)))), none, none, none] [] S rv S') → Rn d kc ks mX5_forgedChildren 4 [some (.ref (b)), some (.int (g)), some (.int (v)), some (.int (nI k)), none, none] [] S rv S' := by
  intro n
  induction n with
  | zero => intro k v h; exact absurd h (Nat.not_lt_zero _)
  | succ n ih =>
    intro k v hm hkN  hc
    refine Rn.iload_n (k := 4) rfl rfl ?_
    refine Rn.aload_n (k := 5) rfl rfl ?_
    refine Rn.getf (k := 6) rfl (hP.four (q := b) 0 rfl) (hP.c 0 (q := b) rfl rfl) rfl ?_
    refine Rn.icmp_ge (k := 7) rfl (fun cl_1 => ?_) (fun cl_1 => ?_)
    · refine Rn.forget (ls' := [some (.ref (b)), some (.int (g)), some (.int (v)), none, none, none]) (by intro i v h; match i, h with | 0, h => exact h | 1, h => exact h | 2, h => exact h | 3, h => (cases h) | 4, h => (cases h) | 5, h => (cases h) | n + 6, h => (cases h)) ?_
      exact (by have e : l_forged P g (n + 1) k (v) = (v) := (by simp only [l_forged, if_pos cl_1]); rw [e] at hc; exact hc)
    · have hltl_2 : k < N := Nat.lt_of_not_le (fun q => cl_1 (by rw [hN]; exact nI_le q (by omega)))
      have hinl_3 : vp_in (nI k) 16 := vp_in_nI (by omega) (by decide)
      refine Rn.aload_n (k := 8) rfl rfl ?_
      refine Rn.getf (k := 9) rfl (hP.four (q := b) 0 rfl) (hP.c 0 (q := b) rfl rfl) rfl ?_
      refine Rn.iload_n (k := 10) rfl rfl ?_
      refine Rn.iald (k := 11) rfl (hP.c 8 (q := b + 8) rfl rfl) (by first | with_reducible assumption | with_reducible exact hw8 _ (by with_reducible assumption) (by with_reducible assumption) | with_reducible exact hw9 _ (by with_reducible assumption) (by with_reducible assumption)) ?_
      refine Rn.iconst (k := 12) (v := (-1)) rfl (by decide) ?_
      refine Rn.icmp_eq (k := 13) rfl (fun cl_4 => ?_) (fun cl_4 => ?_)
      · refine Rn.iconst (k := 23) (v := 1) rfl (by decide) ?_
        refine Rn.goto (k := 24) rfl ?_
        refine Rn.istore (k := 26) rfl (by decide) rfl ?_
        refine Rn.aload_n (k := 27) rfl rfl ?_
        refine Rn.getf (k := 28) rfl (hP.four (q := b) 0 rfl) (hP.c 0 (q := b) rfl rfl) rfl ?_
        refine Rn.iload_n (k := 29) rfl rfl ?_
        refine Rn.iald (k := 30) rfl (hP.c 9 (q := b + 9) rfl rfl) (by first | with_reducible assumption | with_reducible exact hw8 _ (by with_reducible assumption) (by with_reducible assumption) | with_reducible exact hw9 _ (by with_reducible assumption) (by with_reducible assumption)) ?_
        refine Rn.iconst (k := 31) (v := (-1)) rfl (by decide) ?_
        refine Rn.icmp_eq (k := 32) rfl (fun cl_5 => ?_) (fun cl_5 => ?_)
        · refine Rn.iconst (k := 42) (v := 1) rfl (by decide) ?_
          refine Rn.goto (k := 43) rfl ?_
          refine Rn.istore (k := 45) rfl (by decide) rfl ?_
          refine Rn.iload (k := 46) rfl rfl ?_
          refine Rn.if_eq (k := 47) rfl (fun cl_6 => absurd cl_6 (by decide)) (fun _ => ?_)
          refine Rn.iload (k := 48) rfl rfl ?_
          refine Rn.if_ne (k := 49) rfl (fun _ => ?_) (fun cl_7 => absurd cl_7 (by decide))
          refine Rn.iinc (k := 56) (v := nI (k + 1)) rfl rfl (nI_1 k) (by decide) rfl ?_
          refine Rn.goto (k := 57) rfl ?_
          refine Rn.forget (ls' := [some (.ref (b)), some (.int (g)), some (.int (v)), some (.int (nI (k + 1))), none, none]) (by intro i v h; match i, h with | 0, h => exact h | 1, h => exact h | 2, h => exact h | 3, h => exact h | 4, h => (cases h) | 5, h => (cases h) | n + 6, h => (cases h)) ?_
          exact ih (k + 1) (v) (by omega) (by omega)  (by have e : l_forged P g (n + 1) k (v) = l_forged P g n (k + 1) (v) := (by simp only [l_forged, if_neg cl_1, if_pos cl_4, if_pos cl_5]); rw [e] at hc; exact hc)
        · refine Rn.aload_n (k := 33) rfl rfl ?_
          refine Rn.aload_n (k := 34) rfl rfl ?_
          refine Rn.getf (k := 35) rfl (hP.four (q := b) 0 rfl) (hP.c 0 (q := b) rfl rfl) rfl ?_
          refine Rn.iload_n (k := 36) rfl rfl ?_
          refine Rn.iald (k := 37) rfl (hP.c 9 (q := b + 9) rfl rfl) (by first | with_reducible assumption | with_reducible exact hw8 _ (by with_reducible assumption) (by with_reducible assumption) | with_reducible exact hw9 _ (by with_reducible assumption) (by with_reducible assumption)) ?_
          refine Rn.iload_n (k := 38) rfl rfl ?_
          refine Rn.iload_n (k := 39) rfl rfl ?_
          refine Rn.callV0 (k := 40) (M' := mX5_datesFit) rfl lkX5_77 rfl (hP.four (q := b) 0 rfl) (hP.c 0 (q := b) rfl rfl) rfl (kX5_datesFit hP ((P.1 9 (nI k).toNatClampNeg)) (nI k) (g) (by first | with_reducible assumption | with_reducible exact hw8 _ (by with_reducible assumption) (by with_reducible assumption) | with_reducible exact hw9 _ (by with_reducible assumption) (by with_reducible assumption)) (by first | with_reducible assumption | with_reducible exact hw8 _ (by with_reducible assumption) (by with_reducible assumption) | with_reducible exact hw9 _ (by with_reducible assumption) (by with_reducible assumption))) (by omega) rfl rfl (Nat.le_of_ble_eq_true rfl) ?_
          refine Rn.if_eq (k := 41) rfl (fun cl_8 => ?_) (fun cl_8 => ?_)
          · refine Rn.iconst (k := 44) (v := 0) rfl (by decide) ?_
            refine Rn.istore (k := 45) rfl (by decide) rfl ?_
            refine Rn.iload (k := 46) rfl rfl ?_
            refine Rn.if_eq (k := 47) rfl (fun cl_9 => absurd cl_9 (by decide)) (fun _ => ?_)
            refine Rn.iload (k := 48) rfl rfl ?_
            refine Rn.if_ne (k := 49) rfl (fun cl_10 => absurd cl_10 (by decide)) (fun _ => ?_)
            refine Rn.iload_n (k := 50) rfl rfl ?_
            refine Rn.iconst (k := 51) (v := 1) rfl (by decide) ?_
            refine Rn.iload_n (k := 52) rfl rfl ?_
            refine Rn.ishl (k := 53) rfl ?_
            refine Rn.ior (k := 54) rfl ?_
            refine Rn.istore_n (k := 55) rfl (by decide) rfl ?_
            refine Rn.iinc (k := 56) (v := nI (k + 1)) rfl rfl (nI_1 k) (by decide) rfl ?_
            refine Rn.goto (k := 57) rfl ?_
            refine Rn.forget (ls' := [some (.ref (b)), some (.int (g)), some (.int ((v ||| (1 <<< (nI k &&& 31))))), some (.int (nI (k + 1))), none, none]) (by intro i v h; match i, h with | 0, h => exact h | 1, h => exact h | 2, h => exact h | 3, h => exact h | 4, h => (cases h) | 5, h => (cases h) | n + 6, h => (cases h)) ?_
            exact ih (k + 1) ((v ||| (1 <<< (nI k &&& 31)))) (by omega) (by omega)  (by have e : l_forged P g (n + 1) k (v) = l_forged P g n (k + 1) ((v ||| (1 <<< (nI k &&& 31)))) := (by simp only [l_forged, if_neg cl_1, if_pos cl_4, if_neg cl_5, if_pos cl_8]); rw [e] at hc; exact hc)
          · refine Rn.iconst (k := 42) (v := 1) rfl (by decide) ?_
            refine Rn.goto (k := 43) rfl ?_
            refine Rn.istore (k := 45) rfl (by decide) rfl ?_
            refine Rn.iload (k := 46) rfl rfl ?_
            refine Rn.if_eq (k := 47) rfl (fun cl_11 => absurd cl_11 (by decide)) (fun _ => ?_)
            refine Rn.iload (k := 48) rfl rfl ?_
            refine Rn.if_ne (k := 49) rfl (fun _ => ?_) (fun cl_12 => absurd cl_12 (by decide))
            refine Rn.iinc (k := 56) (v := nI (k + 1)) rfl rfl (nI_1 k) (by decide) rfl ?_
            refine Rn.goto (k := 57) rfl ?_
            refine Rn.forget (ls' := [some (.ref (b)), some (.int (g)), some (.int (v)), some (.int (nI (k + 1))), none, none]) (by intro i v h; match i, h with | 0, h => exact h | 1, h => exact h | 2, h => exact h | 3, h => exact h | 4, h => (cases h) | 5, h => (cases h) | n + 6, h => (cases h)) ?_
            exact ih (k + 1) (v) (by omega) (by omega)  (by have e : l_forged P g (n + 1) k (v) = l_forged P g n (k + 1) (v) := (by simp only [l_forged, if_neg cl_1, if_pos cl_4, if_neg cl_5, if_neg cl_8]); rw [e] at hc; exact hc)
      · refine Rn.aload_n (k := 14) rfl rfl ?_
        refine Rn.aload_n (k := 15) rfl rfl ?_
        refine Rn.getf (k := 16) rfl (hP.four (q := b) 0 rfl) (hP.c 0 (q := b) rfl rfl) rfl ?_
        refine Rn.iload_n (k := 17) rfl rfl ?_
        refine Rn.iald (k := 18) rfl (hP.c 8 (q := b + 8) rfl rfl) (by first | with_reducible assumption | with_reducible exact hw8 _ (by with_reducible assumption) (by with_reducible assumption) | with_reducible exact hw9 _ (by with_reducible assumption) (by with_reducible assumption)) ?_
        refine Rn.iload_n (k := 19) rfl rfl ?_
        refine Rn.iload_n (k := 20) rfl rfl ?_
        refine Rn.callV0 (k := 21) (M' := mX5_datesFit) rfl lkX5_77 rfl (hP.four (q := b) 0 rfl) (hP.c 0 (q := b) rfl rfl) rfl (kX5_datesFit hP ((P.1 8 (nI k).toNatClampNeg)) (nI k) (g) (by first | with_reducible assumption | with_reducible exact hw8 _ (by with_reducible assumption) (by with_reducible assumption) | with_reducible exact hw9 _ (by with_reducible assumption) (by with_reducible assumption)) (by first | with_reducible assumption | with_reducible exact hw8 _ (by with_reducible assumption) (by with_reducible assumption) | with_reducible exact hw9 _ (by with_reducible assumption) (by with_reducible assumption))) (by omega) rfl rfl (Nat.le_of_ble_eq_true rfl) ?_
        refine Rn.if_eq (k := 22) rfl (fun cl_13 => ?_) (fun cl_13 => ?_)
        · refine Rn.iconst (k := 25) (v := 0) rfl (by decide) ?_
          refine Rn.istore (k := 26) rfl (by decide) rfl ?_
          refine Rn.aload_n (k := 27) rfl rfl ?_
          refine Rn.getf (k := 28) rfl (hP.four (q := b) 0 rfl) (hP.c 0 (q := b) rfl rfl) rfl ?_
          refine Rn.iload_n (k := 29) rfl rfl ?_
          refine Rn.iald (k := 30) rfl (hP.c 9 (q := b + 9) rfl rfl) (by first | with_reducible assumption | with_reducible exact hw8 _ (by with_reducible assumption) (by with_reducible assumption) | with_reducible exact hw9 _ (by with_reducible assumption) (by with_reducible assumption)) ?_
          refine Rn.iconst (k := 31) (v := (-1)) rfl (by decide) ?_
          refine Rn.icmp_eq (k := 32) rfl (fun cl_14 => ?_) (fun cl_14 => ?_)
          · refine Rn.iconst (k := 42) (v := 1) rfl (by decide) ?_
            refine Rn.goto (k := 43) rfl ?_
            refine Rn.istore (k := 45) rfl (by decide) rfl ?_
            refine Rn.iload (k := 46) rfl rfl ?_
            refine Rn.if_eq (k := 47) rfl (fun _ => ?_) (fun cl_15 => absurd cl_15 (by decide))
            refine Rn.iload_n (k := 50) rfl rfl ?_
            refine Rn.iconst (k := 51) (v := 1) rfl (by decide) ?_
            refine Rn.iload_n (k := 52) rfl rfl ?_
            refine Rn.ishl (k := 53) rfl ?_
            refine Rn.ior (k := 54) rfl ?_
            refine Rn.istore_n (k := 55) rfl (by decide) rfl ?_
            refine Rn.iinc (k := 56) (v := nI (k + 1)) rfl rfl (nI_1 k) (by decide) rfl ?_
            refine Rn.goto (k := 57) rfl ?_
            refine Rn.forget (ls' := [some (.ref (b)), some (.int (g)), some (.int ((v ||| (1 <<< (nI k &&& 31))))), some (.int (nI (k + 1))), none, none]) (by intro i v h; match i, h with | 0, h => exact h | 1, h => exact h | 2, h => exact h | 3, h => exact h | 4, h => (cases h) | 5, h => (cases h) | n + 6, h => (cases h)) ?_
            exact ih (k + 1) ((v ||| (1 <<< (nI k &&& 31)))) (by omega) (by omega)  (by have e : l_forged P g (n + 1) k (v) = l_forged P g n (k + 1) ((v ||| (1 <<< (nI k &&& 31)))) := (by simp only [l_forged, if_neg cl_1, if_neg cl_4, if_pos cl_13, if_pos cl_14]); rw [e] at hc; exact hc)
          · refine Rn.aload_n (k := 33) rfl rfl ?_
            refine Rn.aload_n (k := 34) rfl rfl ?_
            refine Rn.getf (k := 35) rfl (hP.four (q := b) 0 rfl) (hP.c 0 (q := b) rfl rfl) rfl ?_
            refine Rn.iload_n (k := 36) rfl rfl ?_
            refine Rn.iald (k := 37) rfl (hP.c 9 (q := b + 9) rfl rfl) (by first | with_reducible assumption | with_reducible exact hw8 _ (by with_reducible assumption) (by with_reducible assumption) | with_reducible exact hw9 _ (by with_reducible assumption) (by with_reducible assumption)) ?_
            refine Rn.iload_n (k := 38) rfl rfl ?_
            refine Rn.iload_n (k := 39) rfl rfl ?_
            refine Rn.callV0 (k := 40) (M' := mX5_datesFit) rfl lkX5_77 rfl (hP.four (q := b) 0 rfl) (hP.c 0 (q := b) rfl rfl) rfl (kX5_datesFit hP ((P.1 9 (nI k).toNatClampNeg)) (nI k) (g) (by first | with_reducible assumption | with_reducible exact hw8 _ (by with_reducible assumption) (by with_reducible assumption) | with_reducible exact hw9 _ (by with_reducible assumption) (by with_reducible assumption)) (by first | with_reducible assumption | with_reducible exact hw8 _ (by with_reducible assumption) (by with_reducible assumption) | with_reducible exact hw9 _ (by with_reducible assumption) (by with_reducible assumption))) (by omega) rfl rfl (Nat.le_of_ble_eq_true rfl) ?_
            refine Rn.if_eq (k := 41) rfl (fun cl_16 => ?_) (fun cl_16 => ?_)
            · refine Rn.iconst (k := 44) (v := 0) rfl (by decide) ?_
              refine Rn.istore (k := 45) rfl (by decide) rfl ?_
              refine Rn.iload (k := 46) rfl rfl ?_
              refine Rn.if_eq (k := 47) rfl (fun _ => ?_) (fun cl_17 => absurd cl_17 (by decide))
              refine Rn.iload_n (k := 50) rfl rfl ?_
              refine Rn.iconst (k := 51) (v := 1) rfl (by decide) ?_
              refine Rn.iload_n (k := 52) rfl rfl ?_
              refine Rn.ishl (k := 53) rfl ?_
              refine Rn.ior (k := 54) rfl ?_
              refine Rn.istore_n (k := 55) rfl (by decide) rfl ?_
              refine Rn.iinc (k := 56) (v := nI (k + 1)) rfl rfl (nI_1 k) (by decide) rfl ?_
              refine Rn.goto (k := 57) rfl ?_
              refine Rn.forget (ls' := [some (.ref (b)), some (.int (g)), some (.int ((v ||| (1 <<< (nI k &&& 31))))), some (.int (nI (k + 1))), none, none]) (by intro i v h; match i, h with | 0, h => exact h | 1, h => exact h | 2, h => exact h | 3, h => exact h | 4, h => (cases h) | 5, h => (cases h) | n + 6, h => (cases h)) ?_
              exact ih (k + 1) ((v ||| (1 <<< (nI k &&& 31)))) (by omega) (by omega)  (by have e : l_forged P g (n + 1) k (v) = l_forged P g n (k + 1) ((v ||| (1 <<< (nI k &&& 31)))) := (by simp only [l_forged, if_neg cl_1, if_neg cl_4, if_pos cl_13, if_neg cl_14, if_pos cl_16]); rw [e] at hc; exact hc)
            · refine Rn.iconst (k := 42) (v := 1) rfl (by decide) ?_
              refine Rn.goto (k := 43) rfl ?_
              refine Rn.istore (k := 45) rfl (by decide) rfl ?_
              refine Rn.iload (k := 46) rfl rfl ?_
              refine Rn.if_eq (k := 47) rfl (fun _ => ?_) (fun cl_18 => absurd cl_18 (by decide))
              refine Rn.iload_n (k := 50) rfl rfl ?_
              refine Rn.iconst (k := 51) (v := 1) rfl (by decide) ?_
              refine Rn.iload_n (k := 52) rfl rfl ?_
              refine Rn.ishl (k := 53) rfl ?_
              refine Rn.ior (k := 54) rfl ?_
              refine Rn.istore_n (k := 55) rfl (by decide) rfl ?_
              refine Rn.iinc (k := 56) (v := nI (k + 1)) rfl rfl (nI_1 k) (by decide) rfl ?_
              refine Rn.goto (k := 57) rfl ?_
              refine Rn.forget (ls' := [some (.ref (b)), some (.int (g)), some (.int ((v ||| (1 <<< (nI k &&& 31))))), some (.int (nI (k + 1))), none, none]) (by intro i v h; match i, h with | 0, h => exact h | 1, h => exact h | 2, h => exact h | 3, h => exact h | 4, h => (cases h) | 5, h => (cases h) | n + 6, h => (cases h)) ?_
              exact ih (k + 1) ((v ||| (1 <<< (nI k &&& 31)))) (by omega) (by omega)  (by have e : l_forged P g (n + 1) k (v) = l_forged P g n (k + 1) ((v ||| (1 <<< (nI k &&& 31)))) := (by simp only [l_forged, if_neg cl_1, if_neg cl_4, if_pos cl_13, if_neg cl_14, if_neg cl_16]); rw [e] at hc; exact hc)
        · refine Rn.iconst (k := 23) (v := 1) rfl (by decide) ?_
          refine Rn.goto (k := 24) rfl ?_
          refine Rn.istore (k := 26) rfl (by decide) rfl ?_
          refine Rn.aload_n (k := 27) rfl rfl ?_
          refine Rn.getf (k := 28) rfl (hP.four (q := b) 0 rfl) (hP.c 0 (q := b) rfl rfl) rfl ?_
          refine Rn.iload_n (k := 29) rfl rfl ?_
          refine Rn.iald (k := 30) rfl (hP.c 9 (q := b + 9) rfl rfl) (by first | with_reducible assumption | with_reducible exact hw8 _ (by with_reducible assumption) (by with_reducible assumption) | with_reducible exact hw9 _ (by with_reducible assumption) (by with_reducible assumption)) ?_
          refine Rn.iconst (k := 31) (v := (-1)) rfl (by decide) ?_
          refine Rn.icmp_eq (k := 32) rfl (fun cl_19 => ?_) (fun cl_19 => ?_)
          · refine Rn.iconst (k := 42) (v := 1) rfl (by decide) ?_
            refine Rn.goto (k := 43) rfl ?_
            refine Rn.istore (k := 45) rfl (by decide) rfl ?_
            refine Rn.iload (k := 46) rfl rfl ?_
            refine Rn.if_eq (k := 47) rfl (fun cl_20 => absurd cl_20 (by decide)) (fun _ => ?_)
            refine Rn.iload (k := 48) rfl rfl ?_
            refine Rn.if_ne (k := 49) rfl (fun _ => ?_) (fun cl_21 => absurd cl_21 (by decide))
            refine Rn.iinc (k := 56) (v := nI (k + 1)) rfl rfl (nI_1 k) (by decide) rfl ?_
            refine Rn.goto (k := 57) rfl ?_
            refine Rn.forget (ls' := [some (.ref (b)), some (.int (g)), some (.int (v)), some (.int (nI (k + 1))), none, none]) (by intro i v h; match i, h with | 0, h => exact h | 1, h => exact h | 2, h => exact h | 3, h => exact h | 4, h => (cases h) | 5, h => (cases h) | n + 6, h => (cases h)) ?_
            exact ih (k + 1) (v) (by omega) (by omega)  (by have e : l_forged P g (n + 1) k (v) = l_forged P g n (k + 1) (v) := (by simp only [l_forged, if_neg cl_1, if_neg cl_4, if_neg cl_13, if_pos cl_19]); rw [e] at hc; exact hc)
          · refine Rn.aload_n (k := 33) rfl rfl ?_
            refine Rn.aload_n (k := 34) rfl rfl ?_
            refine Rn.getf (k := 35) rfl (hP.four (q := b) 0 rfl) (hP.c 0 (q := b) rfl rfl) rfl ?_
            refine Rn.iload_n (k := 36) rfl rfl ?_
            refine Rn.iald (k := 37) rfl (hP.c 9 (q := b + 9) rfl rfl) (by first | with_reducible assumption | with_reducible exact hw8 _ (by with_reducible assumption) (by with_reducible assumption) | with_reducible exact hw9 _ (by with_reducible assumption) (by with_reducible assumption)) ?_
            refine Rn.iload_n (k := 38) rfl rfl ?_
            refine Rn.iload_n (k := 39) rfl rfl ?_
            refine Rn.callV0 (k := 40) (M' := mX5_datesFit) rfl lkX5_77 rfl (hP.four (q := b) 0 rfl) (hP.c 0 (q := b) rfl rfl) rfl (kX5_datesFit hP ((P.1 9 (nI k).toNatClampNeg)) (nI k) (g) (by first | with_reducible assumption | with_reducible exact hw8 _ (by with_reducible assumption) (by with_reducible assumption) | with_reducible exact hw9 _ (by with_reducible assumption) (by with_reducible assumption)) (by first | with_reducible assumption | with_reducible exact hw8 _ (by with_reducible assumption) (by with_reducible assumption) | with_reducible exact hw9 _ (by with_reducible assumption) (by with_reducible assumption))) (by omega) rfl rfl (Nat.le_of_ble_eq_true rfl) ?_
            refine Rn.if_eq (k := 41) rfl (fun cl_22 => ?_) (fun cl_22 => ?_)
            · refine Rn.iconst (k := 44) (v := 0) rfl (by decide) ?_
              refine Rn.istore (k := 45) rfl (by decide) rfl ?_
              refine Rn.iload (k := 46) rfl rfl ?_
              refine Rn.if_eq (k := 47) rfl (fun cl_23 => absurd cl_23 (by decide)) (fun _ => ?_)
              refine Rn.iload (k := 48) rfl rfl ?_
              refine Rn.if_ne (k := 49) rfl (fun cl_24 => absurd cl_24 (by decide)) (fun _ => ?_)
              refine Rn.iload_n (k := 50) rfl rfl ?_
              refine Rn.iconst (k := 51) (v := 1) rfl (by decide) ?_
              refine Rn.iload_n (k := 52) rfl rfl ?_
              refine Rn.ishl (k := 53) rfl ?_
              refine Rn.ior (k := 54) rfl ?_
              refine Rn.istore_n (k := 55) rfl (by decide) rfl ?_
              refine Rn.iinc (k := 56) (v := nI (k + 1)) rfl rfl (nI_1 k) (by decide) rfl ?_
              refine Rn.goto (k := 57) rfl ?_
              refine Rn.forget (ls' := [some (.ref (b)), some (.int (g)), some (.int ((v ||| (1 <<< (nI k &&& 31))))), some (.int (nI (k + 1))), none, none]) (by intro i v h; match i, h with | 0, h => exact h | 1, h => exact h | 2, h => exact h | 3, h => exact h | 4, h => (cases h) | 5, h => (cases h) | n + 6, h => (cases h)) ?_
              exact ih (k + 1) ((v ||| (1 <<< (nI k &&& 31)))) (by omega) (by omega)  (by have e : l_forged P g (n + 1) k (v) = l_forged P g n (k + 1) ((v ||| (1 <<< (nI k &&& 31)))) := (by simp only [l_forged, if_neg cl_1, if_neg cl_4, if_neg cl_13, if_neg cl_19, if_pos cl_22]); rw [e] at hc; exact hc)
            · refine Rn.iconst (k := 42) (v := 1) rfl (by decide) ?_
              refine Rn.goto (k := 43) rfl ?_
              refine Rn.istore (k := 45) rfl (by decide) rfl ?_
              refine Rn.iload (k := 46) rfl rfl ?_
              refine Rn.if_eq (k := 47) rfl (fun cl_25 => absurd cl_25 (by decide)) (fun _ => ?_)
              refine Rn.iload (k := 48) rfl rfl ?_
              refine Rn.if_ne (k := 49) rfl (fun _ => ?_) (fun cl_26 => absurd cl_26 (by decide))
              refine Rn.iinc (k := 56) (v := nI (k + 1)) rfl rfl (nI_1 k) (by decide) rfl ?_
              refine Rn.goto (k := 57) rfl ?_
              refine Rn.forget (ls' := [some (.ref (b)), some (.int (g)), some (.int (v)), some (.int (nI (k + 1))), none, none]) (by intro i v h; match i, h with | 0, h => exact h | 1, h => exact h | 2, h => exact h | 3, h => exact h | 4, h => (cases h) | 5, h => (cases h) | n + 6, h => (cases h)) ?_
              exact ih (k + 1) (v) (by omega) (by omega)  (by have e : l_forged P g (n + 1) k (v) = l_forged P g n (k + 1) (v) := (by simp only [l_forged, if_neg cl_1, if_neg cl_4, if_neg cl_13, if_neg cl_19, if_neg cl_22]); rw [e] at hc; exact hc)
def v_forgedChildren (P : Pic) (g : Int32) : Int32 := ((l_forged P (g) 17 0 (0)))
set_option maxRecDepth 20000 in
theorem rX5_forgedChildren {S : Sg} {b : Nat} {P : Pic} (hP : pcAt_ ppC S b P) {N : Nat} (g : Int32) (hw8 : ∀ i : Int32, vp_in i 16 → ¬ P.1 8 i.toNatClampNeg = -1 → vp_in (P.1 8 i.toNatClampNeg) 16) (hw9 : ∀ i : Int32, vp_in i 16 → ¬ P.1 9 i.toNatClampNeg = -1 → vp_in (P.1 9 i.toNatClampNeg) 16) (hN : P.1 0 0 = nI N) (h16 : N ≤ 16) : Rn 2 0 0 mX5_forgedChildren 0 [some (.ref (b)), some (.int (g)), none, none, none, none] [] S (some (.int (v_forgedChildren P g))) S := by
  refine Rn.iconst (k := 0) (v := 0) rfl (by decide) ?_
  refine Rn.istore_n (k := 1) rfl (by decide) rfl ?_
  refine Rn.iconst (k := 2) (v := 0) rfl (by decide) ?_
  refine Rn.istore_n (k := 3) rfl (by decide) rfl ?_
  refine Rn.forget (ls' := [some (.ref (b)), some (.int (g)), some (.int (0)), some (.int (nI 0)), none, none]) (by intro i v h; match i, h with | 0, h => exact h | 1, h => exact h | 2, h => exact h | 3, h => exact h | 4, h => (cases h) | 5, h => (cases h) | n + 6, h => (cases h)) ?_
  refine c_forged hP (g) hw8 hw9 hN h16 (by first | decide | omega) 17 0 (0) (by omega) (Nat.zero_le _)  (?_)
  refine Rn.iload_n (k := 58) rfl rfl ?_
  exact Rn.retz rfl rfl (by unfold v_forgedChildren; first | done | rfl | (rfl)) rfl rfl
theorem kX5_forgedChildren {S : Sg} {b : Nat} {P : Pic} (hP : pcAt_ ppC S b P) {N : Nat} (g : Int32) (hw8 : ∀ i : Int32, vp_in i 16 → ¬ P.1 8 i.toNatClampNeg = -1 → vp_in (P.1 8 i.toNatClampNeg) 16) (hw9 : ∀ i : Int32, vp_in i 16 → ¬ P.1 9 i.toNatClampNeg = -1 → vp_in (P.1 9 i.toNatClampNeg) 16) (hN : P.1 0 0 = nI N) (h16 : N ≤ 16) : Cl 2 0 0 mX5_forgedChildren [.ref b, .int (g)] S (some (.int (v_forgedChildren P g))) S := Cl.of okX5_forgedChildren (by intro i v h; match i, h with | 0, h => exact h | 1, h => exact h | 2, h => (cases h) | 3, h => (cases h) | 4, h => (cases h) | 5, h => (cases h) | n + 6, h => (cases h)) (Nat.le_of_ble_eq_true rfl) rfl (rX5_forgedChildren hP g hw8 hw9 hN h16)
def l_quart (P : Pic) (q : Int32) (r : Int32) : Nat → Nat → Int32 → Int32
  | 0, k, v => (v)
  | n + 1, k, v => (if 2 ≤ nI k then (v) else (if (v_parentOf P (q) (nI k)) = (-1) then l_quart P q r n (k + 1) (v) else l_quart P q r n (k + 1) ((v + (((r >>> ((v_parentOf P (q) (nI k)) &&& 31)) &&& 1) + (v_rankedParents P ((v_parentOf P (q) (nI k))) (r)))))))
set_option maxHeartbeats 4000000 in
set_option maxRecDepth 20000 in
theorem c_quart {d kc ks : Nat} {rv : Option Value} {S' : Sg} {S : Sg} {b : Nat} {P : Pic} (hP : pcAt_ ppC S b P)  (q : Int32) (r : Int32) (h_q : vp_in q 16) (hpo : ∀ i : Int32, ¬ v_parentOf P q i = -1 → vp_in (v_parentOf P q i) 16) (hd : 2 ≤ d) : ∀ (n k : Nat) (v : Int32) , 2 - k < n → k ≤ 2 → (Rn d kc ks mX5_quarters 30 [some (.ref (b)), some (.int (q)), some (.int (r)), some (.int ((l_quart P q r n k (v)))), none, none] [] S rv S') → Rn d kc ks mX5_quarters 4 [some (.ref (b)), some (.int (q)), some (.int (r)), some (.int (v)), some (.int (nI k)), none] [] S rv S' := by
  intro n
  induction n with
  | zero => intro k v h; exact absurd h (Nat.not_lt_zero _)
  | succ n ih =>
    intro k v hm hkN  hc
    refine Rn.iload (k := 4) rfl rfl ?_
    refine Rn.iconst (k := 5) (v := 2) rfl (by decide) ?_
    refine Rn.icmp_ge (k := 6) rfl (fun cl_1 => ?_) (fun cl_1 => ?_)
    · refine Rn.forget (ls' := [some (.ref (b)), some (.int (q)), some (.int (r)), some (.int (v)), none, none]) (by intro i v h; match i, h with | 0, h => exact h | 1, h => exact h | 2, h => exact h | 3, h => exact h | 4, h => (cases h) | 5, h => (cases h) | n + 6, h => (cases h)) ?_
      exact (by have e : l_quart P q r (n + 1) k (v) = (v) := (by simp only [l_quart, if_pos cl_1]); rw [e] at hc; exact hc)
    · have hltl_2 : k < 2 := Nat.lt_of_not_le (fun q => cl_1 (by exact nI_le q (by omega)))
      have hinl_3 : vp_in (nI k) 16 := vp_in_nI (by omega) (by decide)
      refine Rn.aload_n (k := 7) rfl rfl ?_
      refine Rn.iload_n (k := 8) rfl rfl ?_
      refine Rn.iload (k := 9) rfl rfl ?_
      refine Rn.callV0 (k := 10) (M' := mX5_parentOf) rfl lkX5_62 rfl (hP.four (q := b) 0 rfl) (hP.c 0 (q := b) rfl rfl) rfl (kX5_parentOf hP (q) (nI k) (by first | with_reducible assumption | with_reducible exact hpo _ (by assumption))) (by omega) rfl rfl (Nat.le_of_ble_eq_true rfl) ?_
      refine Rn.istore (k := 11) rfl (by decide) rfl ?_
      refine Rn.iload (k := 12) rfl rfl ?_
      refine Rn.iconst (k := 13) (v := (-1)) rfl (by decide) ?_
      refine Rn.icmp_eq (k := 14) rfl (fun cl_4 => ?_) (fun cl_4 => ?_)
      · refine Rn.iinc (k := 28) (v := nI (k + 1)) rfl rfl (nI_1 k) (by decide) rfl ?_
        refine Rn.goto (k := 29) rfl ?_
        refine Rn.forget (ls' := [some (.ref (b)), some (.int (q)), some (.int (r)), some (.int (v)), some (.int (nI (k + 1))), none]) (by intro i v h; match i, h with | 0, h => exact h | 1, h => exact h | 2, h => exact h | 3, h => exact h | 4, h => exact h | 5, h => (cases h) | n + 6, h => (cases h)) ?_
        exact ih (k + 1) (v) (by omega) (by omega)  (by have e : l_quart P q r (n + 1) k (v) = l_quart P q r n (k + 1) (v) := (by simp only [l_quart, if_neg cl_1, if_pos cl_4]); rw [e] at hc; exact hc)
      · refine Rn.iload_n (k := 15) rfl rfl ?_
        refine Rn.iload_n (k := 16) rfl rfl ?_
        refine Rn.iload (k := 17) rfl rfl ?_
        refine Rn.ishr (k := 18) rfl ?_
        refine Rn.iconst (k := 19) (v := 1) rfl (by decide) ?_
        refine Rn.iand (k := 20) rfl ?_
        refine Rn.aload_n (k := 21) rfl rfl ?_
        refine Rn.iload (k := 22) rfl rfl ?_
        refine Rn.iload_n (k := 23) rfl rfl ?_
        refine Rn.callV0 (k := 24) (M' := mX5_rankedParents) rfl lkX5_105 rfl (hP.four (q := b) 0 rfl) (hP.c 0 (q := b) rfl rfl) rfl (kX5_rankedParents hP ((v_parentOf P (q) (nI k))) (r) (by first | with_reducible assumption | with_reducible exact hpo _ (by assumption))) (by omega) rfl rfl (Nat.le_of_ble_eq_true rfl) ?_
        refine Rn.iadd (k := 25) rfl ?_
        refine Rn.iadd (k := 26) rfl ?_
        refine Rn.istore_n (k := 27) rfl (by decide) rfl ?_
        refine Rn.iinc (k := 28) (v := nI (k + 1)) rfl rfl (nI_1 k) (by decide) rfl ?_
        refine Rn.goto (k := 29) rfl ?_
        refine Rn.forget (ls' := [some (.ref (b)), some (.int (q)), some (.int (r)), some (.int ((v + (((r >>> ((v_parentOf P (q) (nI k)) &&& 31)) &&& 1) + (v_rankedParents P ((v_parentOf P (q) (nI k))) (r)))))), some (.int (nI (k + 1))), none]) (by intro i v h; match i, h with | 0, h => exact h | 1, h => exact h | 2, h => exact h | 3, h => exact h | 4, h => exact h | 5, h => (cases h) | n + 6, h => (cases h)) ?_
        exact ih (k + 1) ((v + (((r >>> ((v_parentOf P (q) (nI k)) &&& 31)) &&& 1) + (v_rankedParents P ((v_parentOf P (q) (nI k))) (r))))) (by omega) (by omega)  (by have e : l_quart P q r (n + 1) k (v) = l_quart P q r n (k + 1) ((v + (((r >>> ((v_parentOf P (q) (nI k)) &&& 31)) &&& 1) + (v_rankedParents P ((v_parentOf P (q) (nI k))) (r))))) := (by simp only [l_quart, if_neg cl_1, if_neg cl_4]); rw [e] at hc; exact hc)
def v_quarters (P : Pic) (q : Int32) (r : Int32) : Int32 := ((l_quart P (q) (r) 17 0 (0)))
set_option maxRecDepth 20000 in
theorem rX5_quarters {S : Sg} {b : Nat} {P : Pic} (hP : pcAt_ ppC S b P)  (q : Int32) (r : Int32) (h_q : vp_in q 16) (hpo : ∀ i : Int32, ¬ v_parentOf P q i = -1 → vp_in (v_parentOf P q i) 16) : Rn 2 0 0 mX5_quarters 0 [some (.ref (b)), some (.int (q)), some (.int (r)), none, none, none] [] S (some (.int (v_quarters P q r))) S := by
  refine Rn.iconst (k := 0) (v := 0) rfl (by decide) ?_
  refine Rn.istore_n (k := 1) rfl (by decide) rfl ?_
  refine Rn.iconst (k := 2) (v := 0) rfl (by decide) ?_
  refine Rn.istore (k := 3) rfl (by decide) rfl ?_
  refine Rn.forget (ls' := [some (.ref (b)), some (.int (q)), some (.int (r)), some (.int (0)), some (.int (nI 0)), none]) (by intro i v h; match i, h with | 0, h => exact h | 1, h => exact h | 2, h => exact h | 3, h => exact h | 4, h => exact h | 5, h => (cases h) | n + 6, h => (cases h)) ?_
  refine c_quart hP (q) (r) h_q hpo (by first | decide | omega) 17 0 (0) (by omega) (Nat.zero_le _)  (?_)
  refine Rn.iload_n (k := 30) rfl rfl ?_
  exact Rn.retz rfl rfl (by unfold v_quarters; first | done | rfl | (rfl)) rfl rfl
theorem kX5_quarters {S : Sg} {b : Nat} {P : Pic} (hP : pcAt_ ppC S b P)  (q : Int32) (r : Int32) (h_q : vp_in q 16) (hpo : ∀ i : Int32, ¬ v_parentOf P q i = -1 → vp_in (v_parentOf P q i) 16) : Cl 2 0 0 mX5_quarters [.ref b, .int (q), .int (r)] S (some (.int (v_quarters P q r))) S := Cl.of okX5_quarters (by intro i v h; match i, h with | 0, h => exact h | 1, h => exact h | 2, h => exact h | 3, h => (cases h) | 4, h => (cases h) | 5, h => (cases h) | n + 6, h => (cases h)) (Nat.le_of_ble_eq_true rfl) rfl (rX5_quarters hP q r h_q hpo)
def l_tie (P : Pic) (p : Int32) (c : Int32) (a : Int32) : Nat → Nat → Pic → Pic
  | 0, k, Q => (Q)
  | n + 1, k, Q => (if (Q.1 0 0) ≤ nI k then (Q) else (if (b2i (v_isSelfOrInLine Q (c) (nI k))) = 0 then l_tie P p c a n (k + 1)  (Q) else l_tie P p c a n (k + 1)  ((pcI Q 10 (upd (Q.1 10) (nI k : Int32).toNatClampNeg ((Q.1 10 (nI k).toNatClampNeg) ||| a))))))
set_option maxHeartbeats 4000000 in
set_option maxRecDepth 20000 in
theorem c_tie {d kc ks : Nat} {rv : Option Value} {S' : Sg} {S : Sg} {b : Nat} {P : Pic} (hP : pcAt_ ppC S b P) {N : Nat} (p : Int32) (c : Int32) (a : Int32) (h_p : vp_in p 16) (h_c : vp_in c 16) (h16 : N ≤ 16) (hd : 2 ≤ d) : ∀ (n k : Nat)  (Q : Pic), N - k < n → k ≤ N → (Q.1 0 0 = nI N) → (((l_tie P p c a n k  (Q)).1 0 0 = nI N) → Rn d kc ks mX5_tie 33 [some (.ref (b)), some (.int (p)), some (.int (c)), some (.int (a)), none] [] (pcW ppC S b (l_tie P p c a n k  (Q))) rv S') → Rn d kc ks mX5_tie 14 [some (.ref (b)), some (.int (p)), some (.int (c)), some (.int (a)), some (.int (nI k))] [] (pcW ppC S b Q) rv S' := by
  intro n
  induction n with
  | zero => intro k Q h; exact absurd h (Nat.not_lt_zero _)
  | succ n ih =>
    intro k Q hm hkN hQ1 hc
    refine Rn.iload (k := 14) rfl rfl ?_
    refine Rn.aload_n (k := 15) rfl rfl ?_
    refine Rn.getf (k := 16) rfl ((hP.put Q rfl).four (q := b) 0 rfl) ((hP.put Q rfl).c 0 (q := b) rfl rfl) rfl ?_
    refine Rn.icmp_ge (k := 17) rfl (fun cl_1 => ?_) (fun cl_1 => ?_)
    · refine Rn.forget (ls' := [some (.ref (b)), some (.int (p)), some (.int (c)), some (.int (a)), none]) (by intro i v h; match i, h with | 0, h => exact h | 1, h => exact h | 2, h => exact h | 3, h => exact h | 4, h => (cases h) | n + 5, h => (cases h)) ?_
      exact (by have e : l_tie P p c a (n + 1) k  (Q) = (Q) := (by simp only [l_tie, if_pos cl_1]); rw [e] at hc; exact hc (by exact hQ1))
    · have hltl_2 : k < N := Nat.lt_of_not_le (fun q => cl_1 (by rw [hQ1]; exact nI_le q (by omega)))
      have hinl_3 : vp_in (nI k) 16 := vp_in_nI (by omega) (by decide)
      refine Rn.aload_n (k := 18) rfl rfl ?_
      refine Rn.iload_n (k := 19) rfl rfl ?_
      refine Rn.iload (k := 20) rfl rfl ?_
      refine Rn.callV0 (k := 21) (M' := mX5_isSelfOrInLine) rfl lkX5_66 rfl ((hP.put Q rfl).four (q := b) 0 rfl) ((hP.put Q rfl).c 0 (q := b) rfl rfl) rfl (kX5_isSelfOrInLine (hP.put Q rfl) (c) (nI k) (by first | with_reducible assumption)) (by omega) rfl rfl (Nat.le_of_ble_eq_true rfl) ?_
      refine Rn.if_eq (k := 22) rfl (fun cl_4 => ?_) (fun cl_4 => ?_)
      · refine Rn.iinc (k := 31) (v := nI (k + 1)) rfl rfl (nI_1 k) (by decide) rfl ?_
        refine Rn.goto (k := 32) rfl ?_
        refine Rn.forget (ls' := [some (.ref (b)), some (.int (p)), some (.int (c)), some (.int (a)), some (.int (nI (k + 1)))]) (by intro i v h; match i, h with | 0, h => exact h | 1, h => exact h | 2, h => exact h | 3, h => exact h | 4, h => exact h | n + 5, h => (cases h)) ?_
        exact ih (k + 1)  Q (by omega) (by omega) (by exact hQ1) (by have e : l_tie P p c a (n + 1) k  (Q) = l_tie P p c a n (k + 1)  (Q) := (by simp only [l_tie, if_neg cl_1, if_pos cl_4]); rw [e] at hc; exact hc)
      · refine Rn.aload_n (k := 23) rfl rfl ?_
        refine Rn.getf (k := 24) rfl ((hP.put Q rfl).four (q := b) 0 rfl) ((hP.put Q rfl).c 0 (q := b) rfl rfl) rfl ?_
        refine Rn.iload (k := 25) rfl rfl ?_
        refine Rn.dup2 (k := 26) rfl rfl rfl ?_
        refine Rn.iald (k := 27) rfl ((hP.put Q rfl).c 10 (q := b + 10) rfl rfl) (by first | with_reducible assumption) ?_
        refine Rn.iload_n (k := 28) rfl rfl ?_
        refine Rn.ior (k := 29) rfl ?_
        refine Rn.iast (k := 30) rfl ((hP.put Q rfl).four (q := b + 10) 10 rfl) ((hP.put Q rfl).c 10 (q := b + 10) rfl rfl) (by first | with_reducible assumption) ?_
        obtain ⟨Pl_5, ePl_5⟩ : ∃ Q0 : Pic, Q0 = pcI Q 10 (upd (Q.1 10) (nI k : Int32).toNatClampNeg ((Q.1 10 (nI k).toNatClampNeg) ||| a)) := ⟨_, rfl⟩
        rw [(hP.put Q rfl).w Pl_5 10 (q := b + 10) rfl (Nat.le_of_ble_eq_true rfl) (by rw [ePl_5]; rfl), ppC_WW]
        have hPl_5 := hP.put Pl_5 rfl
        refine Rn.iinc (k := 31) (v := nI (k + 1)) rfl rfl (nI_1 k) (by decide) rfl ?_
        refine Rn.goto (k := 32) rfl ?_
        refine Rn.forget (ls' := [some (.ref (b)), some (.int (p)), some (.int (c)), some (.int (a)), some (.int (nI (k + 1)))]) (by intro i v h; match i, h with | 0, h => exact h | 1, h => exact h | 2, h => exact h | 3, h => exact h | 4, h => exact h | n + 5, h => (cases h)) ?_
        exact ih (k + 1)  Pl_5 (by omega) (by omega) (by rw [ePl_5]; exact hQ1) (by have e : l_tie P p c a (n + 1) k  (Q) = l_tie P p c a n (k + 1)  (Pl_5) := (by rw [ePl_5]; simp only [l_tie, if_neg cl_1, if_neg cl_4]); rw [e] at hc; exact hc)
def w_tie (P : Pic) (p : Int32) (c : Int32) : Pic := (let P_1 : Pic := w_setParent P (c) ((P.1 1 (p).toNatClampNeg)) (p); let P_3 : Pic := (l_tie P (p) (c) ((v_withLine P_1 (p))) 17 0  P_1); P_3)
set_option maxRecDepth 20000 in
theorem rX5_tie {S : Sg} {b : Nat} {P : Pic} (hP : pcAt_ ppC S b P) {N : Nat} (p : Int32) (c : Int32) (h_p : vp_in p 16) (h_c : vp_in c 16) (hN : P.1 0 0 = nI N) (h16 : N ≤ 16) : Rn 2 0 0 mX5_tie 0 [some (.ref (b)), some (.int (p)), some (.int (c)), none, none] [] S none (pcW ppC S b (w_tie P p c)) := by
  refine Rn.aload_n (k := 0) rfl rfl ?_
  refine Rn.iload_n (k := 1) rfl rfl ?_
  refine Rn.aload_n (k := 2) rfl rfl ?_
  refine Rn.getf (k := 3) rfl (hP.four (q := b) 0 rfl) (hP.c 0 (q := b) rfl rfl) rfl ?_
  refine Rn.iload_n (k := 4) rfl rfl ?_
  refine Rn.iald (k := 5) rfl (hP.c 1 (q := b + 1) rfl rfl) (by first | with_reducible assumption) ?_
  refine Rn.iload_n (k := 6) rfl rfl ?_
  refine Rn.callV0 (k := 7) (M' := mX5_setParent) rfl lkX5_81 rfl (hP.four (q := b) 0 rfl) (hP.c 0 (q := b) rfl rfl) rfl (kX5_setParent hP (c) ((P.1 1 (p).toNatClampNeg)) (p) (by first | with_reducible assumption)) (by decide) rfl rfl (Nat.le_of_ble_eq_true rfl) ?_
  obtain ⟨P_1, eP_1⟩ : ∃ Q0 : Pic, Q0 = w_setParent P (c) ((P.1 1 (p).toNatClampNeg)) (p) := ⟨_, rfl⟩
  rw [← eP_1]
  have hP_1 := hP.put P_1 rfl
  refine Rn.aload_n (k := 8) rfl rfl ?_
  refine Rn.iload_n (k := 9) rfl rfl ?_
  refine Rn.callV0 (k := 10) (M' := mX5_withLine) rfl lkX5_85 rfl (hP_1.four (q := b) 0 rfl) (hP_1.c 0 (q := b) rfl rfl) rfl (kX5_withLine hP_1 (p) (by first | with_reducible assumption | (intro _; with_reducible assumption) | (exact hw8 _ (by with_reducible assumption)) | (exact hw9 _ (by with_reducible assumption)))) (by decide) rfl rfl (Nat.le_of_ble_eq_true rfl) ?_
  refine Rn.istore_n (k := 11) rfl (by decide) rfl ?_
  refine Rn.iconst (k := 12) (v := 0) rfl (by decide) ?_
  refine Rn.istore (k := 13) rfl (by decide) rfl ?_
  refine Rn.forget (ls' := [some (.ref (b)), some (.int (p)), some (.int (c)), some (.int ((v_withLine P_1 (p)))), some (.int (nI 0))]) (by intro i v h; match i, h with | 0, h => exact h | 1, h => exact h | 2, h => exact h | 3, h => exact h | 4, h => exact h | n + 5, h => (cases h)) ?_
  refine c_tie hP (p) (c) ((v_withLine P_1 (p))) h_p h_c h16 (by first | decide | omega) 17 0  P_1 (by omega) (Nat.zero_le _) (by rw [eP_1]; first | exact hN | (unfold w_setParent; split <;> exact hN)) (fun hI_2 => ?_)
  obtain ⟨P_3, eP_3⟩ : ∃ Q0 : Pic, Q0 = (l_tie P (p) (c) ((v_withLine P_1 (p))) 17 0  P_1) := ⟨_, rfl⟩
  rw [← eP_3]
  have hP_3 := hP.put P_3 rfl
  (try rw [← eP_3] at hI_2)
  exact Rn.retw rfl rfl (by unfold w_tie; first | done | rfl | (subst eP_1; subst eP_3; rfl))
theorem kX5_tie {S : Sg} {b : Nat} {P : Pic} (hP : pcAt_ ppC S b P) {N : Nat} (p : Int32) (c : Int32) (h_p : vp_in p 16) (h_c : vp_in c 16) (hN : P.1 0 0 = nI N) (h16 : N ≤ 16) : Cl 2 0 0 mX5_tie [.ref b, .int (p), .int (c)] S none (pcW ppC S b (w_tie P p c)) := Cl.of okX5_tie (by intro i v h; match i, h with | 0, h => exact h | 1, h => exact h | 2, h => exact h | 3, h => (cases h) | 4, h => (cases h) | n + 5, h => (cases h)) (Nat.le_of_ble_eq_true rfl) rfl (rX5_tie hP p c h_p h_c hN h16)
def w_sell (P : Pic) (p : Int32) (c : Int32) : Pic := (let P_1 : Pic := w_tie P (p) (c); let P_2 : Pic := pcI P_1 0 (upd (P_1.1 0) 1 ((P_1.1 0 1) ||| (1 <<< (p &&& 31)))); P_2)
set_option maxRecDepth 20000 in
theorem rX5_sell {S : Sg} {b : Nat} {P : Pic} (hP : pcAt_ ppC S b P) {N : Nat} (p : Int32) (c : Int32) (h_p : vp_in p 16) (h_c : vp_in c 16) (hN : P.1 0 0 = nI N) (h16 : N ≤ 16) : Rn 3 0 0 mX5_sell 0 [some (.ref (b)), some (.int (p)), some (.int (c))] [] S none (pcW ppC S b (w_sell P p c)) := by
  refine Rn.aload_n (k := 0) rfl rfl ?_
  refine Rn.iload_n (k := 1) rfl rfl ?_
  refine Rn.iload_n (k := 2) rfl rfl ?_
  refine Rn.callV0 (k := 3) (M' := mX5_tie) rfl lkX5_89 rfl (hP.four (q := b) 0 rfl) (hP.c 0 (q := b) rfl rfl) rfl (kX5_tie hP (p) (c) (by first | with_reducible assumption) (by first | with_reducible assumption) (by first | with_reducible assumption) (by first | with_reducible assumption)) (by decide) rfl rfl (Nat.le_of_ble_eq_true rfl) ?_
  obtain ⟨P_1, eP_1⟩ : ∃ Q0 : Pic, Q0 = w_tie P (p) (c) := ⟨_, rfl⟩
  rw [← eP_1]
  have hP_1 := hP.put P_1 rfl
  refine Rn.aload_n (k := 4) rfl rfl ?_
  refine Rn.dup (k := 5) rfl rfl ?_
  refine Rn.getf (k := 6) rfl (hP_1.four (q := b) 0 rfl) (hP_1.c 0 (q := b) rfl rfl) rfl ?_
  refine Rn.iconst (k := 7) (v := 1) rfl (by decide) ?_
  refine Rn.iload_n (k := 8) rfl rfl ?_
  refine Rn.ishl (k := 9) rfl ?_
  refine Rn.ior (k := 10) rfl ?_
  refine Rn.putf (k := 11) rfl (hP_1.four (q := b) 0 rfl) (hP_1.c 0 (q := b) rfl rfl) (fun q hq => by cases hq; rfl) (Nat.le_of_ble_eq_true rfl) (by first | rfl | exact b2i_nar _) (by first | rfl | exact b2i_fit _) ?_
  obtain ⟨P_2, eP_2⟩ : ∃ Q0 : Pic, Q0 = pcI P_1 0 (upd (P_1.1 0) 1 ((P_1.1 0 1) ||| (1 <<< (p &&& 31)))) := ⟨_, rfl⟩
  rw [hP_1.w P_2 0 (q := b) rfl (Nat.le_of_ble_eq_true rfl) (by rw [eP_2]; rfl), ppC_WW]
  have hP_2 := hP.put P_2 rfl
  exact Rn.retw rfl rfl (by unfold w_sell; first | done | rfl | (subst eP_1; subst eP_2; rfl))
theorem kX5_sell {S : Sg} {b : Nat} {P : Pic} (hP : pcAt_ ppC S b P) {N : Nat} (p : Int32) (c : Int32) (h_p : vp_in p 16) (h_c : vp_in c 16) (hN : P.1 0 0 = nI N) (h16 : N ≤ 16) : Cl 3 0 0 mX5_sell [.ref b, .int (p), .int (c)] S none (pcW ppC S b (w_sell P p c)) := Cl.of okX5_sell (by intro i v h; match i, h with | 0, h => exact h | 1, h => exact h | 2, h => exact h | n + 3, h => (cases h)) (Nat.le_of_ble_eq_true rfl) rfl (rX5_sell hP p c h_p h_c hN h16)
def w_copyTiesFrom (P : Pic) (Q : Pic)  : Pic := (let P_1 : Pic := pcI P 0 (upd (P.1 0) 1 (Q.1 0 1)); let P_3 : Pic := pcI P_1 8 (va_cpy (Q.1 8) (P_1.1 8) (0 : Int32).toNatClampNeg (0 : Int32).toNatClampNeg (16 : Int32).toNatClampNeg); let P_5 : Pic := pcI P_3 9 (va_cpy (Q.1 9) (P_3.1 9) (0 : Int32).toNatClampNeg (0 : Int32).toNatClampNeg (16 : Int32).toNatClampNeg); let P_7 : Pic := pcI P_5 10 (va_cpy (Q.1 10) (P_5.1 10) (0 : Int32).toNatClampNeg (0 : Int32).toNatClampNeg (16 : Int32).toNatClampNeg); P_7)
set_option maxRecDepth 20000 in
theorem rX5_copyTiesFrom {S : Sg} {b : Nat} {b2 : Nat} {P : Pic} {Q : Pic} (hP : pcAt_ ppC S b P) (hQ : pcAt_ ppC S b2 Q)   (hdis : b + 12 ≤ b2 ∨ b2 + 12 ≤ b) : Rn 1 0 0 mX5_copyTiesFrom 0 [some (.ref (b)), some (.ref (b2))] [] S none (pcW ppC S b (w_copyTiesFrom P Q)) := by
  refine Rn.aload_n (k := 0) rfl rfl ?_
  refine Rn.aload_n (k := 1) rfl rfl ?_
  refine Rn.getf (k := 2) rfl (hQ.four (q := b2) 0 rfl) (hQ.c 0 (q := b2) rfl rfl) rfl ?_
  refine Rn.putf (k := 3) rfl (hP.four (q := b) 0 rfl) (hP.c 0 (q := b) rfl rfl) (fun q hq => by cases hq; rfl) (Nat.le_of_ble_eq_true rfl) (by first | rfl | exact b2i_nar _) (by first | rfl | exact b2i_fit _) ?_
  obtain ⟨P_1, eP_1⟩ : ∃ Q0 : Pic, Q0 = pcI P 0 (upd (P.1 0) 1 (Q.1 0 1)) := ⟨_, rfl⟩
  rw [hP.w P_1 0 (q := b) rfl (Nat.le_of_ble_eq_true rfl) (by rw [eP_1]; rfl)]
  have hP_1 := hP.put P_1 rfl
  have hO_2 := hQ.off (C := ppC) (b := b) (X := P_1) (by first | exact hdis | exact Or.symm hdis | omega)
  refine Rn.aload_n (k := 4) rfl rfl ?_
  refine Rn.getf (k := 5) rfl (hO_2.four (q := b2) 0 rfl) (hO_2.c 0 (q := b2) rfl rfl) rfl ?_
  refine Rn.iconst (k := 6) (v := 0) rfl (by decide) ?_
  refine Rn.aload_n (k := 7) rfl rfl ?_
  refine Rn.getf (k := 8) rfl (hP_1.four (q := b) 0 rfl) (hP_1.c 0 (q := b) rfl rfl) rfl ?_
  refine Rn.iconst (k := 9) (v := 0) rfl (by decide) ?_
  refine Rn.bipush (k := 10) (v := 16) rfl (by decide) ?_
  refine Rn.acopy (k := 11) rfl ⟨lkX5_49, w_an, w_as, w_ai⟩ (by decide) (by decide) (hO_2.four (q := b2 + 8) 8 rfl) (hP_1.four (q := b + 8) 8 rfl) (hO_2.c 8 (q := b2 + 8) rfl rfl) (hP_1.c 8 (q := b + 8) rfl rfl) (by decide) (by decide) (by decide) (by decide) (by decide) ?_
  obtain ⟨P_3, eP_3⟩ : ∃ Q0 : Pic, Q0 = pcI P_1 8 (va_cpy (Q.1 8) (P_1.1 8) (0 : Int32).toNatClampNeg (0 : Int32).toNatClampNeg (16 : Int32).toNatClampNeg) := ⟨_, rfl⟩
  rw [hP_1.w P_3 8 (q := b + 8) rfl (Nat.le_of_ble_eq_true rfl) (by rw [eP_3]; rfl), ppC_WW]
  have hP_3 := hP.put P_3 rfl
  have hO_4 := hQ.off (C := ppC) (b := b) (X := P_3) (by first | exact hdis | exact Or.symm hdis | omega)
  refine Rn.aload_n (k := 12) rfl rfl ?_
  refine Rn.getf (k := 13) rfl (hO_4.four (q := b2) 0 rfl) (hO_4.c 0 (q := b2) rfl rfl) rfl ?_
  refine Rn.iconst (k := 14) (v := 0) rfl (by decide) ?_
  refine Rn.aload_n (k := 15) rfl rfl ?_
  refine Rn.getf (k := 16) rfl (hP_3.four (q := b) 0 rfl) (hP_3.c 0 (q := b) rfl rfl) rfl ?_
  refine Rn.iconst (k := 17) (v := 0) rfl (by decide) ?_
  refine Rn.bipush (k := 18) (v := 16) rfl (by decide) ?_
  refine Rn.acopy (k := 19) rfl ⟨lkX5_49, w_an, w_as, w_ai⟩ (by decide) (by decide) (hO_4.four (q := b2 + 9) 9 rfl) (hP_3.four (q := b + 9) 9 rfl) (hO_4.c 9 (q := b2 + 9) rfl rfl) (hP_3.c 9 (q := b + 9) rfl rfl) (by decide) (by decide) (by decide) (by decide) (by decide) ?_
  obtain ⟨P_5, eP_5⟩ : ∃ Q0 : Pic, Q0 = pcI P_3 9 (va_cpy (Q.1 9) (P_3.1 9) (0 : Int32).toNatClampNeg (0 : Int32).toNatClampNeg (16 : Int32).toNatClampNeg) := ⟨_, rfl⟩
  rw [hP_3.w P_5 9 (q := b + 9) rfl (Nat.le_of_ble_eq_true rfl) (by rw [eP_5]; rfl), ppC_WW]
  have hP_5 := hP.put P_5 rfl
  have hO_6 := hQ.off (C := ppC) (b := b) (X := P_5) (by first | exact hdis | exact Or.symm hdis | omega)
  refine Rn.aload_n (k := 20) rfl rfl ?_
  refine Rn.getf (k := 21) rfl (hO_6.four (q := b2) 0 rfl) (hO_6.c 0 (q := b2) rfl rfl) rfl ?_
  refine Rn.iconst (k := 22) (v := 0) rfl (by decide) ?_
  refine Rn.aload_n (k := 23) rfl rfl ?_
  refine Rn.getf (k := 24) rfl (hP_5.four (q := b) 0 rfl) (hP_5.c 0 (q := b) rfl rfl) rfl ?_
  refine Rn.iconst (k := 25) (v := 0) rfl (by decide) ?_
  refine Rn.bipush (k := 26) (v := 16) rfl (by decide) ?_
  refine Rn.acopy (k := 27) rfl ⟨lkX5_49, w_an, w_as, w_ai⟩ (by decide) (by decide) (hO_6.four (q := b2 + 10) 10 rfl) (hP_5.four (q := b + 10) 10 rfl) (hO_6.c 10 (q := b2 + 10) rfl rfl) (hP_5.c 10 (q := b + 10) rfl rfl) (by decide) (by decide) (by decide) (by decide) (by decide) ?_
  obtain ⟨P_7, eP_7⟩ : ∃ Q0 : Pic, Q0 = pcI P_5 10 (va_cpy (Q.1 10) (P_5.1 10) (0 : Int32).toNatClampNeg (0 : Int32).toNatClampNeg (16 : Int32).toNatClampNeg) := ⟨_, rfl⟩
  rw [hP_5.w P_7 10 (q := b + 10) rfl (Nat.le_of_ble_eq_true rfl) (by rw [eP_7]; rfl), ppC_WW]
  have hP_7 := hP.put P_7 rfl
  have hO_8 := hQ.off (C := ppC) (b := b) (X := P_7) (by first | exact hdis | exact Or.symm hdis | omega)
  exact Rn.retw rfl rfl (by unfold w_copyTiesFrom; first | done | rfl | (subst eP_1; subst eP_3; subst eP_5; subst eP_7; rfl))
theorem kX5_copyTiesFrom {S : Sg} {b : Nat} {b2 : Nat} {P : Pic} {Q : Pic} (hP : pcAt_ ppC S b P) (hQ : pcAt_ ppC S b2 Q)   (hdis : b + 12 ≤ b2 ∨ b2 + 12 ≤ b) : Cl 1 0 0 mX5_copyTiesFrom [.ref b, .ref (b2)] S none (pcW ppC S b (w_copyTiesFrom P Q)) := Cl.of okX5_copyTiesFrom (by intro i v h; match i, h with | 0, h => exact h | 1, h => exact h | n + 2, h => (cases h)) (Nat.le_of_ble_eq_true rfl) rfl (rX5_copyTiesFrom hP hQ hdis)
def w_copyFrom (P : Pic) (Q : Pic)  : Pic := (let P_1 : Pic := pcI P 0 (upd (P.1 0) 0 (Q.1 0 0)); let P_3 : Pic := pcI P_1 1 (va_cpy (Q.1 1) (P_1.1 1) (0 : Int32).toNatClampNeg (0 : Int32).toNatClampNeg (16 : Int32).toNatClampNeg); let P_5 : Pic := pcI P_3 2 (va_cpy (Q.1 2) (P_3.1 2) (0 : Int32).toNatClampNeg (0 : Int32).toNatClampNeg (16 : Int32).toNatClampNeg); let P_7 : Pic := pcI P_5 3 (va_cpy (Q.1 3) (P_5.1 3) (0 : Int32).toNatClampNeg (0 : Int32).toNatClampNeg (16 : Int32).toNatClampNeg); let P_9 : Pic := pcI P_7 4 (va_cpy (Q.1 4) (P_7.1 4) (0 : Int32).toNatClampNeg (0 : Int32).toNatClampNeg (16 : Int32).toNatClampNeg); let P_11 : Pic := pcI P_9 5 (va_cpy (Q.1 5) (P_9.1 5) (0 : Int32).toNatClampNeg (0 : Int32).toNatClampNeg (16 : Int32).toNatClampNeg); let P_13 : Pic := pcI P_11 6 (va_cpy (Q.1 6) (P_11.1 6) (0 : Int32).toNatClampNeg (0 : Int32).toNatClampNeg (16 : Int32).toNatClampNeg); let P_15 : Pic := pcI P_13 7 (va_cpy (Q.1 7) (P_13.1 7) (0 : Int32).toNatClampNeg (0 : Int32).toNatClampNeg (16 : Int32).toNatClampNeg); let P_17 : Pic := pcI P_15 11 (va_cpy (Q.1 11) (P_15.1 11) (0 : Int32).toNatClampNeg (0 : Int32).toNatClampNeg (6 : Int32).toNatClampNeg); let P_19 : Pic := w_copyTiesFrom P_17 Q; P_19)
set_option maxRecDepth 20000 in
theorem rX5_copyFrom {S : Sg} {b : Nat} {b2 : Nat} {P : Pic} {Q : Pic} (hP : pcAt_ ppC S b P) (hQ : pcAt_ ppC S b2 Q)   (hdis : b + 12 ≤ b2 ∨ b2 + 12 ≤ b) : Rn 2 0 0 mX5_copyFrom 0 [some (.ref (b)), some (.ref (b2))] [] S none (pcW ppC S b (w_copyFrom P Q)) := by
  refine Rn.aload_n (k := 0) rfl rfl ?_
  refine Rn.aload_n (k := 1) rfl rfl ?_
  refine Rn.getf (k := 2) rfl (hQ.four (q := b2) 0 rfl) (hQ.c 0 (q := b2) rfl rfl) rfl ?_
  refine Rn.putf (k := 3) rfl (hP.four (q := b) 0 rfl) (hP.c 0 (q := b) rfl rfl) (fun q hq => by cases hq; rfl) (Nat.le_of_ble_eq_true rfl) (by first | rfl | exact b2i_nar _) (by first | rfl | exact b2i_fit _) ?_
  obtain ⟨P_1, eP_1⟩ : ∃ Q0 : Pic, Q0 = pcI P 0 (upd (P.1 0) 0 (Q.1 0 0)) := ⟨_, rfl⟩
  rw [hP.w P_1 0 (q := b) rfl (Nat.le_of_ble_eq_true rfl) (by rw [eP_1]; rfl)]
  have hP_1 := hP.put P_1 rfl
  have hO_2 := hQ.off (C := ppC) (b := b) (X := P_1) (by first | exact hdis | exact Or.symm hdis | omega)
  refine Rn.aload_n (k := 4) rfl rfl ?_
  refine Rn.getf (k := 5) rfl (hO_2.four (q := b2) 0 rfl) (hO_2.c 0 (q := b2) rfl rfl) rfl ?_
  refine Rn.iconst (k := 6) (v := 0) rfl (by decide) ?_
  refine Rn.aload_n (k := 7) rfl rfl ?_
  refine Rn.getf (k := 8) rfl (hP_1.four (q := b) 0 rfl) (hP_1.c 0 (q := b) rfl rfl) rfl ?_
  refine Rn.iconst (k := 9) (v := 0) rfl (by decide) ?_
  refine Rn.bipush (k := 10) (v := 16) rfl (by decide) ?_
  refine Rn.acopy (k := 11) rfl ⟨lkX5_49, w_an, w_as, w_ai⟩ (by decide) (by decide) (hO_2.four (q := b2 + 1) 1 rfl) (hP_1.four (q := b + 1) 1 rfl) (hO_2.c 1 (q := b2 + 1) rfl rfl) (hP_1.c 1 (q := b + 1) rfl rfl) (by decide) (by decide) (by decide) (by decide) (by decide) ?_
  obtain ⟨P_3, eP_3⟩ : ∃ Q0 : Pic, Q0 = pcI P_1 1 (va_cpy (Q.1 1) (P_1.1 1) (0 : Int32).toNatClampNeg (0 : Int32).toNatClampNeg (16 : Int32).toNatClampNeg) := ⟨_, rfl⟩
  rw [hP_1.w P_3 1 (q := b + 1) rfl (Nat.le_of_ble_eq_true rfl) (by rw [eP_3]; rfl), ppC_WW]
  have hP_3 := hP.put P_3 rfl
  have hO_4 := hQ.off (C := ppC) (b := b) (X := P_3) (by first | exact hdis | exact Or.symm hdis | omega)
  refine Rn.aload_n (k := 12) rfl rfl ?_
  refine Rn.getf (k := 13) rfl (hO_4.four (q := b2) 0 rfl) (hO_4.c 0 (q := b2) rfl rfl) rfl ?_
  refine Rn.iconst (k := 14) (v := 0) rfl (by decide) ?_
  refine Rn.aload_n (k := 15) rfl rfl ?_
  refine Rn.getf (k := 16) rfl (hP_3.four (q := b) 0 rfl) (hP_3.c 0 (q := b) rfl rfl) rfl ?_
  refine Rn.iconst (k := 17) (v := 0) rfl (by decide) ?_
  refine Rn.bipush (k := 18) (v := 16) rfl (by decide) ?_
  refine Rn.acopy (k := 19) rfl ⟨lkX5_49, w_an, w_as, w_ai⟩ (by decide) (by decide) (hO_4.four (q := b2 + 2) 2 rfl) (hP_3.four (q := b + 2) 2 rfl) (hO_4.c 2 (q := b2 + 2) rfl rfl) (hP_3.c 2 (q := b + 2) rfl rfl) (by decide) (by decide) (by decide) (by decide) (by decide) ?_
  obtain ⟨P_5, eP_5⟩ : ∃ Q0 : Pic, Q0 = pcI P_3 2 (va_cpy (Q.1 2) (P_3.1 2) (0 : Int32).toNatClampNeg (0 : Int32).toNatClampNeg (16 : Int32).toNatClampNeg) := ⟨_, rfl⟩
  rw [hP_3.w P_5 2 (q := b + 2) rfl (Nat.le_of_ble_eq_true rfl) (by rw [eP_5]; rfl), ppC_WW]
  have hP_5 := hP.put P_5 rfl
  have hO_6 := hQ.off (C := ppC) (b := b) (X := P_5) (by first | exact hdis | exact Or.symm hdis | omega)
  refine Rn.aload_n (k := 20) rfl rfl ?_
  refine Rn.getf (k := 21) rfl (hO_6.four (q := b2) 0 rfl) (hO_6.c 0 (q := b2) rfl rfl) rfl ?_
  refine Rn.iconst (k := 22) (v := 0) rfl (by decide) ?_
  refine Rn.aload_n (k := 23) rfl rfl ?_
  refine Rn.getf (k := 24) rfl (hP_5.four (q := b) 0 rfl) (hP_5.c 0 (q := b) rfl rfl) rfl ?_
  refine Rn.iconst (k := 25) (v := 0) rfl (by decide) ?_
  refine Rn.bipush (k := 26) (v := 16) rfl (by decide) ?_
  refine Rn.acopy (k := 27) rfl ⟨lkX5_49, w_an, w_as, w_ai⟩ (by decide) (by decide) (hO_6.four (q := b2 + 3) 3 rfl) (hP_5.four (q := b + 3) 3 rfl) (hO_6.c 3 (q := b2 + 3) rfl rfl) (hP_5.c 3 (q := b + 3) rfl rfl) (by decide) (by decide) (by decide) (by decide) (by decide) ?_
  obtain ⟨P_7, eP_7⟩ : ∃ Q0 : Pic, Q0 = pcI P_5 3 (va_cpy (Q.1 3) (P_5.1 3) (0 : Int32).toNatClampNeg (0 : Int32).toNatClampNeg (16 : Int32).toNatClampNeg) := ⟨_, rfl⟩
  rw [hP_5.w P_7 3 (q := b + 3) rfl (Nat.le_of_ble_eq_true rfl) (by rw [eP_7]; rfl), ppC_WW]
  have hP_7 := hP.put P_7 rfl
  have hO_8 := hQ.off (C := ppC) (b := b) (X := P_7) (by first | exact hdis | exact Or.symm hdis | omega)
  refine Rn.aload_n (k := 28) rfl rfl ?_
  refine Rn.getf (k := 29) rfl (hO_8.four (q := b2) 0 rfl) (hO_8.c 0 (q := b2) rfl rfl) rfl ?_
  refine Rn.iconst (k := 30) (v := 0) rfl (by decide) ?_
  refine Rn.aload_n (k := 31) rfl rfl ?_
  refine Rn.getf (k := 32) rfl (hP_7.four (q := b) 0 rfl) (hP_7.c 0 (q := b) rfl rfl) rfl ?_
  refine Rn.iconst (k := 33) (v := 0) rfl (by decide) ?_
  refine Rn.bipush (k := 34) (v := 16) rfl (by decide) ?_
  refine Rn.acopy (k := 35) rfl ⟨lkX5_49, w_an, w_as, w_ai⟩ (by decide) (by decide) (hO_8.four (q := b2 + 4) 4 rfl) (hP_7.four (q := b + 4) 4 rfl) (hO_8.c 4 (q := b2 + 4) rfl rfl) (hP_7.c 4 (q := b + 4) rfl rfl) (by decide) (by decide) (by decide) (by decide) (by decide) ?_
  obtain ⟨P_9, eP_9⟩ : ∃ Q0 : Pic, Q0 = pcI P_7 4 (va_cpy (Q.1 4) (P_7.1 4) (0 : Int32).toNatClampNeg (0 : Int32).toNatClampNeg (16 : Int32).toNatClampNeg) := ⟨_, rfl⟩
  rw [hP_7.w P_9 4 (q := b + 4) rfl (Nat.le_of_ble_eq_true rfl) (by rw [eP_9]; rfl), ppC_WW]
  have hP_9 := hP.put P_9 rfl
  have hO_10 := hQ.off (C := ppC) (b := b) (X := P_9) (by first | exact hdis | exact Or.symm hdis | omega)
  refine Rn.aload_n (k := 36) rfl rfl ?_
  refine Rn.getf (k := 37) rfl (hO_10.four (q := b2) 0 rfl) (hO_10.c 0 (q := b2) rfl rfl) rfl ?_
  refine Rn.iconst (k := 38) (v := 0) rfl (by decide) ?_
  refine Rn.aload_n (k := 39) rfl rfl ?_
  refine Rn.getf (k := 40) rfl (hP_9.four (q := b) 0 rfl) (hP_9.c 0 (q := b) rfl rfl) rfl ?_
  refine Rn.iconst (k := 41) (v := 0) rfl (by decide) ?_
  refine Rn.bipush (k := 42) (v := 16) rfl (by decide) ?_
  refine Rn.acopy (k := 43) rfl ⟨lkX5_49, w_an, w_as, w_ai⟩ (by decide) (by decide) (hO_10.four (q := b2 + 5) 5 rfl) (hP_9.four (q := b + 5) 5 rfl) (hO_10.c 5 (q := b2 + 5) rfl rfl) (hP_9.c 5 (q := b + 5) rfl rfl) (by decide) (by decide) (by decide) (by decide) (by decide) ?_
  obtain ⟨P_11, eP_11⟩ : ∃ Q0 : Pic, Q0 = pcI P_9 5 (va_cpy (Q.1 5) (P_9.1 5) (0 : Int32).toNatClampNeg (0 : Int32).toNatClampNeg (16 : Int32).toNatClampNeg) := ⟨_, rfl⟩
  rw [hP_9.w P_11 5 (q := b + 5) rfl (Nat.le_of_ble_eq_true rfl) (by rw [eP_11]; rfl), ppC_WW]
  have hP_11 := hP.put P_11 rfl
  have hO_12 := hQ.off (C := ppC) (b := b) (X := P_11) (by first | exact hdis | exact Or.symm hdis | omega)
  refine Rn.aload_n (k := 44) rfl rfl ?_
  refine Rn.getf (k := 45) rfl (hO_12.four (q := b2) 0 rfl) (hO_12.c 0 (q := b2) rfl rfl) rfl ?_
  refine Rn.iconst (k := 46) (v := 0) rfl (by decide) ?_
  refine Rn.aload_n (k := 47) rfl rfl ?_
  refine Rn.getf (k := 48) rfl (hP_11.four (q := b) 0 rfl) (hP_11.c 0 (q := b) rfl rfl) rfl ?_
  refine Rn.iconst (k := 49) (v := 0) rfl (by decide) ?_
  refine Rn.bipush (k := 50) (v := 16) rfl (by decide) ?_
  refine Rn.acopy (k := 51) rfl ⟨lkX5_49, w_an, w_as, w_ai⟩ (by decide) (by decide) (hO_12.four (q := b2 + 6) 6 rfl) (hP_11.four (q := b + 6) 6 rfl) (hO_12.c 6 (q := b2 + 6) rfl rfl) (hP_11.c 6 (q := b + 6) rfl rfl) (by decide) (by decide) (by decide) (by decide) (by decide) ?_
  obtain ⟨P_13, eP_13⟩ : ∃ Q0 : Pic, Q0 = pcI P_11 6 (va_cpy (Q.1 6) (P_11.1 6) (0 : Int32).toNatClampNeg (0 : Int32).toNatClampNeg (16 : Int32).toNatClampNeg) := ⟨_, rfl⟩
  rw [hP_11.w P_13 6 (q := b + 6) rfl (Nat.le_of_ble_eq_true rfl) (by rw [eP_13]; rfl), ppC_WW]
  have hP_13 := hP.put P_13 rfl
  have hO_14 := hQ.off (C := ppC) (b := b) (X := P_13) (by first | exact hdis | exact Or.symm hdis | omega)
  refine Rn.aload_n (k := 52) rfl rfl ?_
  refine Rn.getf (k := 53) rfl (hO_14.four (q := b2) 0 rfl) (hO_14.c 0 (q := b2) rfl rfl) rfl ?_
  refine Rn.iconst (k := 54) (v := 0) rfl (by decide) ?_
  refine Rn.aload_n (k := 55) rfl rfl ?_
  refine Rn.getf (k := 56) rfl (hP_13.four (q := b) 0 rfl) (hP_13.c 0 (q := b) rfl rfl) rfl ?_
  refine Rn.iconst (k := 57) (v := 0) rfl (by decide) ?_
  refine Rn.bipush (k := 58) (v := 16) rfl (by decide) ?_
  refine Rn.acopy (k := 59) rfl ⟨lkX5_49, w_an, w_as, w_ai⟩ (by decide) (by decide) (hO_14.four (q := b2 + 7) 7 rfl) (hP_13.four (q := b + 7) 7 rfl) (hO_14.c 7 (q := b2 + 7) rfl rfl) (hP_13.c 7 (q := b + 7) rfl rfl) (by decide) (by decide) (by decide) (by decide) (by decide) ?_
  obtain ⟨P_15, eP_15⟩ : ∃ Q0 : Pic, Q0 = pcI P_13 7 (va_cpy (Q.1 7) (P_13.1 7) (0 : Int32).toNatClampNeg (0 : Int32).toNatClampNeg (16 : Int32).toNatClampNeg) := ⟨_, rfl⟩
  rw [hP_13.w P_15 7 (q := b + 7) rfl (Nat.le_of_ble_eq_true rfl) (by rw [eP_15]; rfl), ppC_WW]
  have hP_15 := hP.put P_15 rfl
  have hO_16 := hQ.off (C := ppC) (b := b) (X := P_15) (by first | exact hdis | exact Or.symm hdis | omega)
  refine Rn.aload_n (k := 60) rfl rfl ?_
  refine Rn.getf (k := 61) rfl (hO_16.four (q := b2) 0 rfl) (hO_16.c 0 (q := b2) rfl rfl) rfl ?_
  refine Rn.iconst (k := 62) (v := 0) rfl (by decide) ?_
  refine Rn.aload_n (k := 63) rfl rfl ?_
  refine Rn.getf (k := 64) rfl (hP_15.four (q := b) 0 rfl) (hP_15.c 0 (q := b) rfl rfl) rfl ?_
  refine Rn.iconst (k := 65) (v := 0) rfl (by decide) ?_
  refine Rn.bipush (k := 66) (v := 6) rfl (by decide) ?_
  refine Rn.acopy (k := 67) rfl ⟨lkX5_49, w_an, w_as, w_ai⟩ (by decide) (by decide) (hO_16.four (q := b2 + 11) 11 rfl) (hP_15.four (q := b + 11) 11 rfl) (hO_16.c 11 (q := b2 + 11) rfl rfl) (hP_15.c 11 (q := b + 11) rfl rfl) (by decide) (by decide) (by decide) (by decide) (by decide) ?_
  obtain ⟨P_17, eP_17⟩ : ∃ Q0 : Pic, Q0 = pcI P_15 11 (va_cpy (Q.1 11) (P_15.1 11) (0 : Int32).toNatClampNeg (0 : Int32).toNatClampNeg (6 : Int32).toNatClampNeg) := ⟨_, rfl⟩
  rw [hP_15.w P_17 11 (q := b + 11) rfl (Nat.le_of_ble_eq_true rfl) (by rw [eP_17]; rfl), ppC_WW]
  have hP_17 := hP.put P_17 rfl
  have hO_18 := hQ.off (C := ppC) (b := b) (X := P_17) (by first | exact hdis | exact Or.symm hdis | omega)
  refine Rn.aload_n (k := 68) rfl rfl ?_
  refine Rn.aload_n (k := 69) rfl rfl ?_
  refine Rn.callV0 (k := 70) (M' := mX5_copyTiesFrom) rfl lkX5_55 rfl (hP_17.four (q := b) 0 rfl) (hP_17.c 0 (q := b) rfl rfl) rfl (kX5_copyTiesFrom hP_17 hO_18  (by first | with_reducible assumption)) (by decide) rfl rfl (Nat.le_of_ble_eq_true rfl) ?_
  obtain ⟨P_19, eP_19⟩ : ∃ Q0 : Pic, Q0 = w_copyTiesFrom P_17 Q := ⟨_, rfl⟩
  rw [← eP_19, ppC_WW]
  have hP_19 := hP.put P_19 rfl
  have hO_20 := hQ.off (C := ppC) (b := b) (X := P_19) (by first | exact hdis | exact Or.symm hdis | omega)
  exact Rn.retw rfl rfl (by unfold w_copyFrom; first | done | rfl | (subst eP_1; subst eP_3; subst eP_5; subst eP_7; subst eP_9; subst eP_11; subst eP_13; subst eP_15; subst eP_17; subst eP_19; rfl))
theorem kX5_copyFrom {S : Sg} {b : Nat} {b2 : Nat} {P : Pic} {Q : Pic} (hP : pcAt_ ppC S b P) (hQ : pcAt_ ppC S b2 Q)   (hdis : b + 12 ≤ b2 ∨ b2 + 12 ≤ b) : Cl 2 0 0 mX5_copyFrom [.ref b, .ref (b2)] S none (pcW ppC S b (w_copyFrom P Q)) := Cl.of okX5_copyFrom (by intro i v h; match i, h with | 0, h => exact h | 1, h => exact h | n + 2, h => (cases h)) (Nat.le_of_ble_eq_true rfl) rfl (rX5_copyFrom hP hQ hdis)
def l_reckon1 (P : Pic) (o : Int32) : Nat → Nat → Int32 → Pic → Int32 × Pic
  | 0, k, g, Q => (g, Q)
  | n + 1, k, g, Q => (if (Q.1 0 0) ≤ nI k then (g, Q) else (if ((v_withLine Q ((Q.1 8 (nI k).toNatClampNeg))) ||| (v_withLine Q ((Q.1 9 (nI k).toNatClampNeg)))) = (Q.1 10 (nI k).toNatClampNeg) then l_reckon1 P o n (k + 1) ((g ||| 0)) ((pcI Q 10 (upd (Q.1 10) (nI k : Int32).toNatClampNeg ((v_withLine Q ((Q.1 8 (nI k).toNatClampNeg))) ||| (v_withLine Q ((Q.1 9 (nI k).toNatClampNeg))))))) else l_reckon1 P o n (k + 1) ((g ||| 1)) ((pcI Q 10 (upd (Q.1 10) (nI k : Int32).toNatClampNeg ((v_withLine Q ((Q.1 8 (nI k).toNatClampNeg))) ||| (v_withLine Q ((Q.1 9 (nI k).toNatClampNeg)))))))))
set_option maxHeartbeats 4000000 in
set_option maxRecDepth 20000 in
theorem c_reckon1 {d kc ks : Nat} {rv : Option Value} {S' : Sg} {S : Sg} {b : Nat} {P : Pic} (hP : pcAt_ ppC S b P) {N : Nat} (o : Int32) (hw8 : ∀ i : Nat, i < 16 → ¬ P.1 8 i = -1 → vp_in (P.1 8 i) 16) (hw9 : ∀ i : Nat, i < 16 → ¬ P.1 9 i = -1 → vp_in (P.1 9 i) 16) (h16 : N ≤ 16) (hd : 2 ≤ d) : ∀ (n k : Nat) (g : Int32) (Q : Pic), N - k < n → k ≤ N → (Q.1 0 0 = nI N) → (Q.1 8 = P.1 8) → (Q.1 9 = P.1 9) → (((l_reckon1 P o n k (g) (Q)).2.1 0 0 = nI N) → ((l_reckon1 P o n k (g) (Q)).2.1 8 = P.1 8) → ((l_reckon1 P o n k (g) (Q)).2.1 9 = P.1 9) → Rn d kc ks mX5_reckonLines 55 [some (.ref (b)), some (.int ((l_reckon1 P o n k (g) (Q)).1)), some (.int (o)), none, none] [] (pcW ppC S b (l_reckon1 P o n k (g) (Q)).2) rv S') → Rn d kc ks mX5_reckonLines 18 [some (.ref (b)), some (.int (g)), some (.int (o)), some (.int (nI k)), none] [] (pcW ppC S b Q) rv S' := by
  intro n
  induction n with
  | zero => intro k g Q h; exact absurd h (Nat.not_lt_zero _)
  | succ n ih =>
    intro k g Q hm hkN hQ1 hQ8 hQ9 hc
    refine Rn.iload_n (k := 18) rfl rfl ?_
    refine Rn.aload_n (k := 19) rfl rfl ?_
    refine Rn.getf (k := 20) rfl ((hP.put Q rfl).four (q := b) 0 rfl) ((hP.put Q rfl).c 0 (q := b) rfl rfl) rfl ?_
    refine Rn.icmp_ge (k := 21) rfl (fun cl_1 => ?_) (fun cl_1 => ?_)
    · refine Rn.forget (ls' := [some (.ref (b)), some (.int (g)), some (.int (o)), none, none]) (by intro i v h; match i, h with | 0, h => exact h | 1, h => exact h | 2, h => exact h | 3, h => (cases h) | 4, h => (cases h) | n + 5, h => (cases h)) ?_
      exact (by have e : l_reckon1 P o (n + 1) k (g) (Q) = (g, Q) := (by simp only [l_reckon1, if_pos cl_1]); rw [e] at hc; exact hc (by exact hQ1) (by exact hQ8) (by exact hQ9))
    · have hltl_2 : k < N := Nat.lt_of_not_le (fun q => cl_1 (by rw [hQ1]; exact nI_le q (by omega)))
      have hinl_3 : vp_in (nI k) 16 := vp_in_nI (by omega) (by decide)
      refine Rn.aload_n (k := 22) rfl rfl ?_
      refine Rn.aload_n (k := 23) rfl rfl ?_
      refine Rn.getf (k := 24) rfl ((hP.put Q rfl).four (q := b) 0 rfl) ((hP.put Q rfl).c 0 (q := b) rfl rfl) rfl ?_
      refine Rn.iload_n (k := 25) rfl rfl ?_
      refine Rn.iald (k := 26) rfl ((hP.put Q rfl).c 8 (q := b + 8) rfl rfl) (by first | with_reducible assumption) ?_
      refine Rn.callV0 (k := 27) (M' := mX5_withLine) rfl lkX5_85 rfl ((hP.put Q rfl).four (q := b) 0 rfl) ((hP.put Q rfl).c 0 (q := b) rfl rfl) rfl (kX5_withLine (hP.put Q rfl) ((Q.1 8 (nI k).toNatClampNeg)) (by first | (rw [hQ8]; exact hw8 _ (in_lt (by with_reducible assumption))) | (rw [hQ9]; exact hw9 _ (in_lt (by with_reducible assumption))) | with_reducible assumption)) (by omega) rfl rfl (Nat.le_of_ble_eq_true rfl) ?_
      refine Rn.aload_n (k := 28) rfl rfl ?_
      refine Rn.aload_n (k := 29) rfl rfl ?_
      refine Rn.getf (k := 30) rfl ((hP.put Q rfl).four (q := b) 0 rfl) ((hP.put Q rfl).c 0 (q := b) rfl rfl) rfl ?_
      refine Rn.iload_n (k := 31) rfl rfl ?_
      refine Rn.iald (k := 32) rfl ((hP.put Q rfl).c 9 (q := b + 9) rfl rfl) (by first | with_reducible assumption) ?_
      refine Rn.callV0 (k := 33) (M' := mX5_withLine) rfl lkX5_85 rfl ((hP.put Q rfl).four (q := b) 0 rfl) ((hP.put Q rfl).c 0 (q := b) rfl rfl) rfl (kX5_withLine (hP.put Q rfl) ((Q.1 9 (nI k).toNatClampNeg)) (by first | (rw [hQ8]; exact hw8 _ (in_lt (by with_reducible assumption))) | (rw [hQ9]; exact hw9 _ (in_lt (by with_reducible assumption))) | with_reducible assumption)) (by omega) rfl rfl (Nat.le_of_ble_eq_true rfl) ?_
      refine Rn.ior (k := 34) rfl ?_
      refine Rn.istore (k := 35) rfl (by decide) rfl ?_
      refine Rn.iload_n (k := 36) rfl rfl ?_
      refine Rn.iload (k := 37) rfl rfl ?_
      refine Rn.aload_n (k := 38) rfl rfl ?_
      refine Rn.getf (k := 39) rfl ((hP.put Q rfl).four (q := b) 0 rfl) ((hP.put Q rfl).c 0 (q := b) rfl rfl) rfl ?_
      refine Rn.iload_n (k := 40) rfl rfl ?_
      refine Rn.iald (k := 41) rfl ((hP.put Q rfl).c 10 (q := b + 10) rfl rfl) (by first | with_reducible assumption) ?_
      refine Rn.icmp_eq (k := 42) rfl (fun cl_4 => ?_) (fun cl_4 => ?_)
      · refine Rn.iconst (k := 45) (v := 0) rfl (by decide) ?_
        refine Rn.ior (k := 46) rfl ?_
        refine Rn.istore_n (k := 47) rfl (by decide) rfl ?_
        refine Rn.aload_n (k := 48) rfl rfl ?_
        refine Rn.getf (k := 49) rfl ((hP.put Q rfl).four (q := b) 0 rfl) ((hP.put Q rfl).c 0 (q := b) rfl rfl) rfl ?_
        refine Rn.iload_n (k := 50) rfl rfl ?_
        refine Rn.iload (k := 51) rfl rfl ?_
        refine Rn.iast (k := 52) rfl ((hP.put Q rfl).four (q := b + 10) 10 rfl) ((hP.put Q rfl).c 10 (q := b + 10) rfl rfl) (by first | with_reducible assumption) ?_
        obtain ⟨Pl_5, ePl_5⟩ : ∃ Q0 : Pic, Q0 = pcI Q 10 (upd (Q.1 10) (nI k : Int32).toNatClampNeg ((v_withLine Q ((Q.1 8 (nI k).toNatClampNeg))) ||| (v_withLine Q ((Q.1 9 (nI k).toNatClampNeg))))) := ⟨_, rfl⟩
        rw [(hP.put Q rfl).w Pl_5 10 (q := b + 10) rfl (Nat.le_of_ble_eq_true rfl) (by rw [ePl_5]; rfl), ppC_WW]
        have hPl_5 := hP.put Pl_5 rfl
        refine Rn.iinc (k := 53) (v := nI (k + 1)) rfl rfl (nI_1 k) (by decide) rfl ?_
        refine Rn.goto (k := 54) rfl ?_
        refine Rn.forget (ls' := [some (.ref (b)), some (.int ((g ||| 0))), some (.int (o)), some (.int (nI (k + 1))), none]) (by intro i v h; match i, h with | 0, h => exact h | 1, h => exact h | 2, h => exact h | 3, h => exact h | 4, h => (cases h) | n + 5, h => (cases h)) ?_
        exact ih (k + 1) ((g ||| 0)) Pl_5 (by omega) (by omega) (by rw [ePl_5]; exact hQ1) (by rw [ePl_5]; exact hQ8) (by rw [ePl_5]; exact hQ9) (by have e : l_reckon1 P o (n + 1) k (g) (Q) = l_reckon1 P o n (k + 1) ((g ||| 0)) (Pl_5) := (by rw [ePl_5]; simp only [l_reckon1, if_neg cl_1, if_pos cl_4]); rw [e] at hc; exact hc)
      · refine Rn.iconst (k := 43) (v := 1) rfl (by decide) ?_
        refine Rn.goto (k := 44) rfl ?_
        refine Rn.ior (k := 46) rfl ?_
        refine Rn.istore_n (k := 47) rfl (by decide) rfl ?_
        refine Rn.aload_n (k := 48) rfl rfl ?_
        refine Rn.getf (k := 49) rfl ((hP.put Q rfl).four (q := b) 0 rfl) ((hP.put Q rfl).c 0 (q := b) rfl rfl) rfl ?_
        refine Rn.iload_n (k := 50) rfl rfl ?_
        refine Rn.iload (k := 51) rfl rfl ?_
        refine Rn.iast (k := 52) rfl ((hP.put Q rfl).four (q := b + 10) 10 rfl) ((hP.put Q rfl).c 10 (q := b + 10) rfl rfl) (by first | with_reducible assumption) ?_
        obtain ⟨Pl_6, ePl_6⟩ : ∃ Q0 : Pic, Q0 = pcI Q 10 (upd (Q.1 10) (nI k : Int32).toNatClampNeg ((v_withLine Q ((Q.1 8 (nI k).toNatClampNeg))) ||| (v_withLine Q ((Q.1 9 (nI k).toNatClampNeg))))) := ⟨_, rfl⟩
        rw [(hP.put Q rfl).w Pl_6 10 (q := b + 10) rfl (Nat.le_of_ble_eq_true rfl) (by rw [ePl_6]; rfl), ppC_WW]
        have hPl_6 := hP.put Pl_6 rfl
        refine Rn.iinc (k := 53) (v := nI (k + 1)) rfl rfl (nI_1 k) (by decide) rfl ?_
        refine Rn.goto (k := 54) rfl ?_
        refine Rn.forget (ls' := [some (.ref (b)), some (.int ((g ||| 1))), some (.int (o)), some (.int (nI (k + 1))), none]) (by intro i v h; match i, h with | 0, h => exact h | 1, h => exact h | 2, h => exact h | 3, h => exact h | 4, h => (cases h) | n + 5, h => (cases h)) ?_
        exact ih (k + 1) ((g ||| 1)) Pl_6 (by omega) (by omega) (by rw [ePl_6]; exact hQ1) (by rw [ePl_6]; exact hQ8) (by rw [ePl_6]; exact hQ9) (by have e : l_reckon1 P o (n + 1) k (g) (Q) = l_reckon1 P o n (k + 1) ((g ||| 1)) (Pl_6) := (by rw [ePl_6]; simp only [l_reckon1, if_neg cl_1, if_neg cl_4]); rw [e] at hc; exact hc)
def l_reckon0 (P : Pic)  : Nat → Nat → Int32 → Pic → Int32 × Pic
  | 0, k, g, Q => (g, Q)
  | n + 1, k, g, Q => (if (Q.1 0 0) ≤ nI k then (g, Q) else (if g = 0 then (g, Q) else l_reckon0 P n (k + 1) ((l_reckon1 P (nI k) 17 0 (0) Q).1) (((l_reckon1 P (nI k) 17 0 (0) Q).2))))
set_option maxHeartbeats 4000000 in
set_option maxRecDepth 20000 in
theorem c_reckon0 {d kc ks : Nat} {rv : Option Value} {S' : Sg} {S : Sg} {b : Nat} {P : Pic} (hP : pcAt_ ppC S b P) {N : Nat}  (hw8 : ∀ i : Nat, i < 16 → ¬ P.1 8 i = -1 → vp_in (P.1 8 i) 16) (hw9 : ∀ i : Nat, i < 16 → ¬ P.1 9 i = -1 → vp_in (P.1 9 i) 16) (h16 : N ≤ 16) (hd : 2 ≤ d) : ∀ (n k : Nat) (g : Int32) (Q : Pic), N - k < n → k ≤ N → (Q.1 0 0 = nI N) → (Q.1 8 = P.1 8) → (Q.1 9 = P.1 9) → (((l_reckon0 P n k (g) (Q)).2.1 0 0 = nI N) → ((l_reckon0 P n k (g) (Q)).2.1 8 = P.1 8) → ((l_reckon0 P n k (g) (Q)).2.1 9 = P.1 9) → Rn d kc ks mX5_reckonLines 57 [some (.ref (b)), some (.int ((l_reckon0 P n k (g) (Q)).1)), none, none, none] [] (pcW ppC S b (l_reckon0 P n k (g) (Q)).2) rv S') → Rn d kc ks mX5_reckonLines 8 [some (.ref (b)), some (.int (g)), some (.int (nI k)), none, none] [] (pcW ppC S b Q) rv S' := by
  intro n
  induction n with
  | zero => intro k g Q h; exact absurd h (Nat.not_lt_zero _)
  | succ n ih =>
    intro k g Q hm hkN hQ1 hQ8 hQ9 hc
    refine Rn.iload_n (k := 8) rfl rfl ?_
    refine Rn.aload_n (k := 9) rfl rfl ?_
    refine Rn.getf (k := 10) rfl ((hP.put Q rfl).four (q := b) 0 rfl) ((hP.put Q rfl).c 0 (q := b) rfl rfl) rfl ?_
    refine Rn.icmp_ge (k := 11) rfl (fun cl_1 => ?_) (fun cl_1 => ?_)
    · refine Rn.forget (ls' := [some (.ref (b)), some (.int (g)), none, none, none]) (by intro i v h; match i, h with | 0, h => exact h | 1, h => exact h | 2, h => (cases h) | 3, h => (cases h) | 4, h => (cases h) | n + 5, h => (cases h)) ?_
      exact (by have e : l_reckon0 P (n + 1) k (g) (Q) = (g, Q) := (by simp only [l_reckon0, if_pos cl_1]); rw [e] at hc; exact hc (by first | with_reducible assumption | (exact hQ1)) (by first | with_reducible assumption | (exact hQ8)) (by first | with_reducible assumption | (exact hQ9)))
    · have hltl_2 : k < N := Nat.lt_of_not_le (fun q => cl_1 (by rw [hQ1]; exact nI_le q (by omega)))
      have hinl_3 : vp_in (nI k) 16 := vp_in_nI (by omega) (by decide)
      refine Rn.iload_n (k := 12) rfl rfl ?_
      refine Rn.if_eq (k := 13) rfl (fun cl_4 => ?_) (fun cl_4 => ?_)
      · refine Rn.forget (ls' := [some (.ref (b)), some (.int (g)), none, none, none]) (by intro i v h; match i, h with | 0, h => exact h | 1, h => exact h | 2, h => (cases h) | 3, h => (cases h) | 4, h => (cases h) | n + 5, h => (cases h)) ?_
        exact (by have e : l_reckon0 P (n + 1) k (g) (Q) = (g, Q) := (by simp only [l_reckon0, if_neg cl_1, if_pos cl_4]); rw [e] at hc; exact hc (by first | with_reducible assumption | (exact hQ1)) (by first | with_reducible assumption | (exact hQ8)) (by first | with_reducible assumption | (exact hQ9)))
      · refine Rn.iconst (k := 14) (v := 0) rfl (by decide) ?_
        refine Rn.istore_n (k := 15) rfl (by decide) rfl ?_
        refine Rn.iconst (k := 16) (v := 0) rfl (by decide) ?_
        refine Rn.istore_n (k := 17) rfl (by decide) rfl ?_
        refine Rn.forget (ls' := [some (.ref (b)), some (.int (0)), some (.int (nI k)), some (.int (nI 0)), none]) (by intro i v h; match i, h with | 0, h => exact h | 1, h => exact h | 2, h => exact h | 3, h => exact h | 4, h => (cases h) | n + 5, h => (cases h)) ?_
        refine c_reckon1 hP (nI k) hw8 hw9 h16 (by first | decide | omega) 17 0 (0) Q (by omega) (Nat.zero_le _) (by exact hQ1) (by exact hQ8) (by exact hQ9) (fun hIl_5 hIl_6 hIl_7 => ?_)
        obtain ⟨Pl_8, ePl_8⟩ : ∃ Q0 : Pic, Q0 = (l_reckon1 P (nI k) 17 0 (0) Q).2 := ⟨_, rfl⟩
        rw [← ePl_8]
        have hPl_8 := hP.put Pl_8 rfl
        (try rw [← ePl_8] at hIl_5)
        (try rw [← ePl_8] at hIl_6)
        (try rw [← ePl_8] at hIl_7)
        refine Rn.iinc (k := 55) (v := nI (k + 1)) rfl rfl (nI_1 k) (by decide) rfl ?_
        refine Rn.goto (k := 56) rfl ?_
        refine Rn.forget (ls' := [some (.ref (b)), some (.int ((l_reckon1 P (nI k) 17 0 (0) Q).1)), some (.int (nI (k + 1))), none, none]) (by intro i v h; match i, h with | 0, h => exact h | 1, h => exact h | 2, h => exact h | 3, h => (cases h) | 4, h => (cases h) | n + 5, h => (cases h)) ?_
        exact ih (k + 1) ((l_reckon1 P (nI k) 17 0 (0) Q).1) Pl_8 (by omega) (by omega) (by first | with_reducible assumption | (rw [ePl_8]; exact hQ1)) (by first | with_reducible assumption | (rw [ePl_8]; exact hQ8)) (by first | with_reducible assumption | (rw [ePl_8]; exact hQ9)) (by have e : l_reckon0 P (n + 1) k (g) (Q) = l_reckon0 P n (k + 1) ((l_reckon1 P (nI k) 17 0 (0) Q).1) (Pl_8) := (by rw [ePl_8]; simp only [l_reckon0, if_neg cl_1, if_neg cl_4]); rw [e] at hc; exact hc)
def w_reckonLines (P : Pic)  : Pic := (let P_1 : Pic := pcI P 10 ((w_fill (fun _ => P.1 10, fun _ _ => 0, fun _ _ => none) 0).1 0); let P_5 : Pic := (l_reckon0 P  17 0 (1) P_1).2; P_5)
set_option maxRecDepth 20000 in
theorem rX5_reckonLines {S : Sg} {b : Nat} {P : Pic} (hP : pcAt_ ppC S b P) {N : Nat}  (hw8 : ∀ i : Nat, i < 16 → ¬ P.1 8 i = -1 → vp_in (P.1 8 i) 16) (hw9 : ∀ i : Nat, i < 16 → ¬ P.1 9 i = -1 → vp_in (P.1 9 i) 16) (hN : P.1 0 0 = nI N) (h16 : N ≤ 16) : Rn 2 0 0 mX5_reckonLines 0 [some (.ref (b)), none, none, none, none] [] S none (pcW ppC S b (w_reckonLines P)) := by
  refine Rn.aload_n (k := 0) rfl rfl ?_
  refine Rn.getf (k := 1) rfl (hP.four (q := b) 0 rfl) (hP.c 0 (q := b) rfl rfl) rfl ?_
  refine Rn.iconst (k := 2) (v := 0) rfl (by decide) ?_
  refine Rn.callS0 (k := 3) (M' := mJ7_fill_53178) rfl lkX5_96 rfl (kfill (hP.four (q := b + 10) 10 rfl) (hP.c 10 (q := b + 10) rfl rfl) (0)) (by first | decide | omega) rfl rfl (Nat.le_of_ble_eq_true rfl) ?_
  obtain ⟨P_1, eP_1⟩ : ∃ Q0 : Pic, Q0 = pcI P 10 ((w_fill (fun _ => P.1 10, fun _ _ => 0, fun _ _ => none) 0).1 0) := ⟨_, rfl⟩
  rw [hP.w P_1 10 (q := b + 10) rfl (Nat.le_of_ble_eq_true rfl) (by rw [eP_1]; rfl)]
  have hP_1 := hP.put P_1 rfl
  refine Rn.iconst (k := 4) (v := 1) rfl (by decide) ?_
  refine Rn.istore_n (k := 5) rfl (by decide) rfl ?_
  refine Rn.iconst (k := 6) (v := 0) rfl (by decide) ?_
  refine Rn.istore_n (k := 7) rfl (by decide) rfl ?_
  refine Rn.forget (ls' := [some (.ref (b)), some (.int (1)), some (.int (nI 0)), none, none]) (by intro i v h; match i, h with | 0, h => exact h | 1, h => exact h | 2, h => exact h | 3, h => (cases h) | 4, h => (cases h) | n + 5, h => (cases h)) ?_
  refine c_reckon0 hP  hw8 hw9 h16 (by first | decide | omega) 17 0 (1) P_1 (by omega) (Nat.zero_le _) (by rw [eP_1]; exact hN) (by rw [eP_1]; rfl) (by rw [eP_1]; rfl) (fun hI_2 hI_3 hI_4 => ?_)
  obtain ⟨P_5, eP_5⟩ : ∃ Q0 : Pic, Q0 = (l_reckon0 P  17 0 (1) P_1).2 := ⟨_, rfl⟩
  rw [← eP_5]
  have hP_5 := hP.put P_5 rfl
  (try rw [← eP_5] at hI_2)
  (try rw [← eP_5] at hI_3)
  (try rw [← eP_5] at hI_4)
  exact Rn.retw rfl rfl (by unfold w_reckonLines; first | done | rfl | (subst eP_1; subst eP_5; rfl))
theorem kX5_reckonLines {S : Sg} {b : Nat} {P : Pic} (hP : pcAt_ ppC S b P) {N : Nat}  (hw8 : ∀ i : Nat, i < 16 → ¬ P.1 8 i = -1 → vp_in (P.1 8 i) 16) (hw9 : ∀ i : Nat, i < 16 → ¬ P.1 9 i = -1 → vp_in (P.1 9 i) 16) (hN : P.1 0 0 = nI N) (h16 : N ≤ 16) : Cl 2 0 0 mX5_reckonLines [.ref b] S none (pcW ppC S b (w_reckonLines P)) := Cl.of okX5_reckonLines (by intro i v h; match i, h with | 0, h => exact h | 1, h => (cases h) | 2, h => (cases h) | 3, h => (cases h) | 4, h => (cases h) | n + 5, h => (cases h)) (Nat.le_of_ble_eq_true rfl) rfl (rX5_reckonLines hP hw8 hw9 hN h16)
