/-! trade; KINSHIP; LEDGER (laid by program, but for the rows on what stays) -/
def knC : Cls := fun b X => [.inr (3, [.ref (b + 1), .ref (b + 2), .ref (b + 3), .int (X.1 0 3)]), .inl (.int, 16, .inl (X.1 1)), .inl (.int, 16, .inl (X.1 2)), .inl (.int, 16, .inl (X.1 3))]
theorem knC_WW {S : Sg} {b : Nat} {X X' : Pic} : pcW knC (pcW knC S b X) b X' = pcW knC S b X' := pcW_W rfl
def lgC : Cls := fun b X => [.inr (4, [.ref (b + 1), .ref (b + 2), .ref (b + 3), .ref (b + 4), .int (X.1 0 4)]), .inl (.int, 16, .inl (X.1 1)), .inl (.int, 16, .inl (X.1 2)), .inl (.int, 16, .inl (X.1 3)), .inl (.int, 16, .inl (X.1 4))]
theorem lgC_WW {S : Sg} {b : Nat} {X X' : Pic} : pcW lgC (pcW lgC S b X) b X' = pcW lgC S b X' := pcW_W rfl
theorem in_of {x : Int32} (h0 : ¬ x < 0) (h : ¬ 16 ≤ x) : vp_in x 16 := by
  obtain ⟨j, hj, rfl⟩ := nI_of h0
  refine vp_in_nI (Nat.lt_of_not_le fun q => h ?_) (by decide)
  exact nI_le (a := 16) q (by omega)
theorem inc_nn {x : Int32} (h0 : ¬ x < 0) (h : ¬ 16 ≤ x) : ¬ x + 1 < 0 := by
  obtain ⟨j, hj, rfl⟩ := nI_of h0
  have : j < 16 := Nat.lt_of_not_le fun q => h (nI_le (a := 16) q (by omega))
  rw [nI_1]
  exact nI_pos (by omega)
theorem upd_in {f : Nat → Int32} {i : Nat} {x : Int32} {n : Nat} (hx : vp_in x n) (h : ∀ j, j < 16 → vp_in (f j) n) : ∀ j, j < 16 → vp_in (upd f i x j) n := by
  intro j hj
  unfold upd
  split
  · exact hx
  · exact h j hj
theorem l_tie_keep (P : Pic) (p c a : Int32) : ∀ (n k : Nat) (Q : Pic) (j : Nat), ¬ j = 10 → (l_tie P p c a n k Q).1 j = Q.1 j := by
  intro n
  induction n with
  | zero => intro k Q j _; rfl
  | succ n ih =>
    intro k Q j hj
    simp only [l_tie]
    repeat' split
    all_goals first
      | rfl
      | exact ih _ _ _ hj
      | exact (ih _ _ _ hj).trans (by simp [pcI, va_up, hj])
theorem w_setParent_keep (P : Pic) (c s p : Int32) (j : Nat) (h8 : ¬ j = 8) (h9 : ¬ j = 9) : (w_setParent P c s p).1 j = P.1 j := by
  unfold w_setParent
  split <;> simp [pcI, va_up, h8, h9]
theorem w_tie_keep (P : Pic) (p c : Int32) (j : Nat) (h8 : ¬ j = 8) (h9 : ¬ j = 9) (h10 : ¬ j = 10) : (w_tie P p c).1 j = P.1 j := by
  unfold w_tie
  exact (l_tie_keep _ _ _ _ _ _ _ _ h10).trans (w_setParent_keep _ _ _ _ _ h8 h9)
theorem w_sell_keep (P : Pic) (p c : Int32) (j : Nat) (h0 : ¬ j = 0) (h8 : ¬ j = 8) (h9 : ¬ j = 9) (h10 : ¬ j = 10) : (w_sell P p c).1 j = P.1 j := by
  unfold w_sell
  refine Eq.trans ?_ (w_tie_keep P p c j h8 h9 h10)
  simp [pcI, va_up, h0]
def w_trade (P : Pic) (p : Int32) (c : Int32) (w : Int32) (x : Int32) : Pic := (let P_1 : Pic := w_sell P (p) (c); let P_2 : Pic := pcI P_1 7 (upd (P_1.1 7) (w : Int32).toNatClampNeg ((P_1.1 7 (w).toNatClampNeg) - x)); let P_3 : Pic := pcI P_2 11 (upd (P_2.1 11) ((P_2.1 6 (p).toNatClampNeg) : Int32).toNatClampNeg ((P_2.1 11 ((P_2.1 6 (p).toNatClampNeg)).toNatClampNeg) + x)); P_3)
set_option maxRecDepth 20000 in
theorem rX5_trade {S : Sg} {b : Nat} {P : Pic} (hP : pcAt_ ppC S b P) {N : Nat} (p : Int32) (c : Int32) (w : Int32) (x : Int32) (h_p : vp_in p 16) (h_c : vp_in c 16) (h_w : vp_in w 16) (hh : vp_in (P.1 6 p.toNatClampNeg) 6) (hN : P.1 0 0 = nI N) (h16 : N ≤ 16) : Rn 4 0 0 mX5_trade 0 [some (.ref (b)), some (.int (p)), some (.int (c)), some (.int (w)), some (.int (x))] [] S none (pcW ppC S b (w_trade P p c w x)) := by
  refine Rn.aload_n (k := 0) rfl rfl ?_
  refine Rn.iload_n (k := 1) rfl rfl ?_
  refine Rn.iload_n (k := 2) rfl rfl ?_
  refine Rn.callV0 (k := 3) (M' := mX5_sell) rfl lkX5_93 rfl (hP.four (q := b) 0 rfl) (hP.c 0 (q := b) rfl rfl) rfl (kX5_sell hP (p) (c) (by first | with_reducible assumption | (rw [eP_2, eP_1]; show vp_in ((w_sell P p c).1 6 p.toNatClampNeg) 6; rw [w_sell_keep P p c 6 (by decide) (by decide) (by decide) (by decide)]; exact hh)) (by first | with_reducible assumption | (rw [eP_2, eP_1]; show vp_in ((w_sell P p c).1 6 p.toNatClampNeg) 6; rw [w_sell_keep P p c 6 (by decide) (by decide) (by decide) (by decide)]; exact hh)) (by first | with_reducible assumption | (rw [eP_2, eP_1]; show vp_in ((w_sell P p c).1 6 p.toNatClampNeg) 6; rw [w_sell_keep P p c 6 (by decide) (by decide) (by decide) (by decide)]; exact hh)) (by first | with_reducible assumption | (rw [eP_2, eP_1]; show vp_in ((w_sell P p c).1 6 p.toNatClampNeg) 6; rw [w_sell_keep P p c 6 (by decide) (by decide) (by decide) (by decide)]; exact hh))) (by decide) rfl rfl (Nat.le_of_ble_eq_true rfl) ?_
  obtain ⟨P_1, eP_1⟩ : ∃ Q0 : Pic, Q0 = w_sell P (p) (c) := ⟨_, rfl⟩
  rw [← eP_1]
  have hP_1 := hP.put P_1 rfl
  refine Rn.aload_n (k := 4) rfl rfl ?_
  refine Rn.getf (k := 5) rfl (hP_1.four (q := b) 0 rfl) (hP_1.c 0 (q := b) rfl rfl) rfl ?_
  refine Rn.iload_n (k := 6) rfl rfl ?_
  refine Rn.dup2 (k := 7) rfl rfl rfl ?_
  refine Rn.iald (k := 8) rfl (hP_1.c 7 (q := b + 7) rfl rfl) (by first | with_reducible assumption | (rw [eP_2, eP_1]; show vp_in ((w_sell P p c).1 6 p.toNatClampNeg) 6; rw [w_sell_keep P p c 6 (by decide) (by decide) (by decide) (by decide)]; exact hh)) ?_
  refine Rn.iload (k := 9) rfl rfl ?_
  refine Rn.isub (k := 10) rfl ?_
  refine Rn.iast (k := 11) rfl (hP_1.four (q := b + 7) 7 rfl) (hP_1.c 7 (q := b + 7) rfl rfl) (by first | with_reducible assumption | (rw [eP_2, eP_1]; show vp_in ((w_sell P p c).1 6 p.toNatClampNeg) 6; rw [w_sell_keep P p c 6 (by decide) (by decide) (by decide) (by decide)]; exact hh)) ?_
  obtain ⟨P_2, eP_2⟩ : ∃ Q0 : Pic, Q0 = pcI P_1 7 (upd (P_1.1 7) (w : Int32).toNatClampNeg ((P_1.1 7 (w).toNatClampNeg) - x)) := ⟨_, rfl⟩
  rw [hP_1.w P_2 7 (q := b + 7) rfl (Nat.le_of_ble_eq_true rfl) (by rw [eP_2]; rfl), ppC_WW]
  have hP_2 := hP.put P_2 rfl
  refine Rn.aload_n (k := 12) rfl rfl ?_
  refine Rn.getf (k := 13) rfl (hP_2.four (q := b) 0 rfl) (hP_2.c 0 (q := b) rfl rfl) rfl ?_
  refine Rn.aload_n (k := 14) rfl rfl ?_
  refine Rn.getf (k := 15) rfl (hP_2.four (q := b) 0 rfl) (hP_2.c 0 (q := b) rfl rfl) rfl ?_
  refine Rn.iload_n (k := 16) rfl rfl ?_
  refine Rn.iald (k := 17) rfl (hP_2.c 6 (q := b + 6) rfl rfl) (by first | with_reducible assumption | (rw [eP_2, eP_1]; show vp_in ((w_sell P p c).1 6 p.toNatClampNeg) 6; rw [w_sell_keep P p c 6 (by decide) (by decide) (by decide) (by decide)]; exact hh)) ?_
  refine Rn.dup2 (k := 18) rfl rfl rfl ?_
  refine Rn.iald (k := 19) rfl (hP_2.c 11 (q := b + 11) rfl rfl) (by first | with_reducible assumption | (rw [eP_2, eP_1]; show vp_in ((w_sell P p c).1 6 p.toNatClampNeg) 6; rw [w_sell_keep P p c 6 (by decide) (by decide) (by decide) (by decide)]; exact hh)) ?_
  refine Rn.iload (k := 20) rfl rfl ?_
  refine Rn.iadd (k := 21) rfl ?_
  refine Rn.iast (k := 22) rfl (hP_2.four (q := b + 11) 11 rfl) (hP_2.c 11 (q := b + 11) rfl rfl) (by first | with_reducible assumption | (rw [eP_2, eP_1]; show vp_in ((w_sell P p c).1 6 p.toNatClampNeg) 6; rw [w_sell_keep P p c 6 (by decide) (by decide) (by decide) (by decide)]; exact hh)) ?_
  obtain ⟨P_3, eP_3⟩ : ∃ Q0 : Pic, Q0 = pcI P_2 11 (upd (P_2.1 11) ((P_2.1 6 (p).toNatClampNeg) : Int32).toNatClampNeg ((P_2.1 11 ((P_2.1 6 (p).toNatClampNeg)).toNatClampNeg) + x)) := ⟨_, rfl⟩
  rw [hP_2.w P_3 11 (q := b + 11) rfl (Nat.le_of_ble_eq_true rfl) (by rw [eP_3]; rfl), ppC_WW]
  have hP_3 := hP.put P_3 rfl
  exact Rn.retw rfl rfl (by unfold w_trade; first | done | rfl | (subst eP_1; subst eP_2; subst eP_3; rfl))
theorem kX5_trade {S : Sg} {b : Nat} {P : Pic} (hP : pcAt_ ppC S b P) {N : Nat} (p : Int32) (c : Int32) (w : Int32) (x : Int32) (h_p : vp_in p 16) (h_c : vp_in c 16) (h_w : vp_in w 16) (hh : vp_in (P.1 6 p.toNatClampNeg) 6) (hN : P.1 0 0 = nI N) (h16 : N ≤ 16) : Cl 4 0 0 mX5_trade [.ref b, .int (p), .int (c), .int (w), .int (x)] S none (pcW ppC S b (w_trade P p c w x)) := Cl.of okX5_trade (by intro i v h; match i, h with | 0, h => exact h | 1, h => exact h | 2, h => exact h | 3, h => exact h | 4, h => exact h | n + 5, h => (cases h)) (Nat.le_of_ble_eq_true rfl) rfl (rX5_trade hP p c w x h_p h_c h_w hh hN h16)
def l_climbi1 (K : Pic) (P : Pic) (o : Int32) (u : Int32) : Nat → Nat → Int32 → Pic → Int32 × Pic
  | 0, k, f, Q => (f, Q)
  | n + 1, k, f, Q => (if 2 ≤ nI k then (f, Q) else (if nI k = 0 then (if (P.1 8 (u).toNatClampNeg) = (-1) then l_climbi1 K P o u n (k + 1) (f) (Q) else (if (Q.1 1 ((P.1 8 (u).toNatClampNeg)).toNatClampNeg) = (-1) then (if 16 ≤ f then l_climbi1 K P o u n (k + 1) (f) (Q) else l_climbi1 K P o u n (k + 1) ((f + 1)) ((pcI (pcI Q 1 (upd (Q.1 1) ((P.1 8 (u).toNatClampNeg) : Int32).toNatClampNeg ((Q.1 1 (u).toNatClampNeg) + 1))) 3 (upd ((pcI Q 1 (upd (Q.1 1) ((P.1 8 (u).toNatClampNeg) : Int32).toNatClampNeg ((Q.1 1 (u).toNatClampNeg) + 1))).1 3) (f : Int32).toNatClampNeg (P.1 8 (u).toNatClampNeg))))) else l_climbi1 K P o u n (k + 1) (f) (Q))) else (if (P.1 9 (u).toNatClampNeg) = (-1) then l_climbi1 K P o u n (k + 1) (f) (Q) else (if (Q.1 1 ((P.1 9 (u).toNatClampNeg)).toNatClampNeg) = (-1) then (if 16 ≤ f then l_climbi1 K P o u n (k + 1) (f) (Q) else l_climbi1 K P o u n (k + 1) ((f + 1)) ((pcI (pcI Q 1 (upd (Q.1 1) ((P.1 9 (u).toNatClampNeg) : Int32).toNatClampNeg ((Q.1 1 (u).toNatClampNeg) + 1))) 3 (upd ((pcI Q 1 (upd (Q.1 1) ((P.1 9 (u).toNatClampNeg) : Int32).toNatClampNeg ((Q.1 1 (u).toNatClampNeg) + 1))).1 3) (f : Int32).toNatClampNeg (P.1 9 (u).toNatClampNeg))))) else l_climbi1 K P o u n (k + 1) (f) (Q)))))
set_option maxHeartbeats 4000000 in
set_option maxRecDepth 20000 in
theorem c_climbi1 {d kc ks : Nat} {rv : Option Value} {S' : Sg} {S : Sg} {kb : Nat} {b : Nat} {K : Pic} {P : Pic} (hK : pcAt_ knC S kb K) (hP : pcAt_ ppC S b P)  (o : Int32) (u : Int32) (hdis : kb + 4 ≤ b ∨ b + 12 ≤ kb) (hw8 : ∀ i : Nat, i < 16 → ¬ P.1 8 i = -1 → vp_in (P.1 8 i) 16) (hw9 : ∀ i : Nat, i < 16 → ¬ P.1 9 i = -1 → vp_in (P.1 9 i) 16) (h_u : vp_in u 16) (hd : 1 ≤ d) : ∀ (n k : Nat) (f : Int32) (Q : Pic), 2 - k < n → k ≤ 2 → (¬ f < 0) → (∀ j, j < 16 → vp_in (Q.1 3 j) 16) → ((¬ (l_climbi1 K P o u n k (f) (Q)).1 < 0) → (∀ j, j < 16 → vp_in ((l_climbi1 K P o u n k (f) (Q)).2.1 3 j) 16) → Rn d kc ks mX3_climb 71 [some (.ref (kb)), some (.ref (b)), none, some (.ref (kb + 1)), some (.int ((l_climbi1 K P o u n k (f) (Q)).1)), some (.int (o)), some (.int (u)), none, none] [] (pcW knC S kb (l_climbi1 K P o u n k (f) (Q)).2) rv S') → Rn d kc ks mX3_climb 29 [some (.ref (kb)), some (.ref (b)), none, some (.ref (kb + 1)), some (.int (f)), some (.int (o)), some (.int (u)), some (.int (nI k)), none] [] (pcW knC S kb Q) rv S' := by
  intro n
  induction n with
  | zero => intro k f Q h; exact absurd h (Nat.not_lt_zero _)
  | succ n ih =>
    intro k f Q hm hkN hf hq hc
    have hZP := hP.off (C := knC) (b := kb) (X := Q) (by first | exact hdis | exact Or.symm hdis | omega)
    refine Rn.iload (k := 29) rfl rfl ?_
    refine Rn.iconst (k := 30) (v := 2) rfl (by decide) ?_
    refine Rn.icmp_ge (k := 31) rfl (fun cl_1 => ?_) (fun cl_1 => ?_)
    · refine Rn.forget (ls' := [some (.ref (kb)), some (.ref (b)), none, some (.ref (kb + 1)), some (.int (f)), some (.int (o)), some (.int (u)), none, none]) (by intro i v h; match i, h with | 0, h => exact h | 1, h => exact h | 2, h => (cases h) | 3, h => exact h | 4, h => exact h | 5, h => exact h | 6, h => exact h | 7, h => (cases h) | 8, h => (cases h) | n + 9, h => (cases h)) ?_
      exact (by have e : l_climbi1 K P o u (n + 1) k (f) (Q) = (f, Q) := (by simp only [l_climbi1, if_pos cl_1]); rw [e] at hc; exact hc (by first | with_reducible assumption | exact inc_nn hf (by with_reducible assumption)) (by first | with_reducible assumption | (exact hq) | (exact upd_in (hw8 _ (in_lt (by with_reducible assumption)) (by with_reducible assumption)) hq) | (exact upd_in (hw9 _ (in_lt (by with_reducible assumption)) (by with_reducible assumption)) hq)))
    · have hltl_2 : k < 2 := Nat.lt_of_not_le (fun q => cl_1 (by exact nI_le q (by omega)))
      have hinl_3 : vp_in (nI k) 16 := vp_in_nI (by omega) (by decide)
      refine Rn.iload (k := 32) rfl rfl ?_
      refine Rn.if_ne (k := 33) rfl (fun cl_4 => ?_) (fun cl_4 => ?_)
      · refine Rn.aload_n (k := 39) rfl rfl ?_
        refine Rn.getf (k := 40) rfl (hZP.four (q := b) 0 rfl) (hZP.c 0 (q := b) rfl rfl) rfl ?_
        refine Rn.iload (k := 41) rfl rfl ?_
        refine Rn.iald (k := 42) rfl (hZP.c 9 (q := b + 9) rfl rfl) (by first | with_reducible assumption | with_reducible exact hw8 _ (in_lt (by with_reducible assumption)) (by with_reducible assumption) | with_reducible exact hw9 _ (in_lt (by with_reducible assumption)) (by with_reducible assumption) | with_reducible exact in_of hf (by with_reducible assumption)) ?_
        refine Rn.istore (k := 43) rfl (by decide) rfl ?_
        refine Rn.iload (k := 44) rfl rfl ?_
        refine Rn.iconst (k := 45) (v := (-1)) rfl (by decide) ?_
        refine Rn.icmp_eq (k := 46) rfl (fun cl_5 => ?_) (fun cl_5 => ?_)
        · refine Rn.iinc (k := 69) (v := nI (k + 1)) rfl rfl (nI_1 k) (by decide) rfl ?_
          refine Rn.goto (k := 70) rfl ?_
          refine Rn.forget (ls' := [some (.ref (kb)), some (.ref (b)), none, some (.ref (kb + 1)), some (.int (f)), some (.int (o)), some (.int (u)), some (.int (nI (k + 1))), none]) (by intro i v h; match i, h with | 0, h => exact h | 1, h => exact h | 2, h => (cases h) | 3, h => exact h | 4, h => exact h | 5, h => exact h | 6, h => exact h | 7, h => exact h | 8, h => (cases h) | n + 9, h => (cases h)) ?_
          exact ih (k + 1) (f) Q (by omega) (by omega) (by first | with_reducible assumption | exact inc_nn hf (by with_reducible assumption)) (by first | with_reducible assumption | (exact hq) | (exact upd_in (hw8 _ (in_lt (by with_reducible assumption)) (by with_reducible assumption)) hq) | (exact upd_in (hw9 _ (in_lt (by with_reducible assumption)) (by with_reducible assumption)) hq)) (by have e : l_climbi1 K P o u (n + 1) k (f) (Q) = l_climbi1 K P o u n (k + 1) (f) (Q) := (by simp only [l_climbi1, if_neg cl_1, if_neg cl_4, if_pos cl_5]); rw [e] at hc; exact hc)
        · refine Rn.aload_n (k := 47) rfl rfl ?_
          refine Rn.iload (k := 48) rfl rfl ?_
          refine Rn.iald (k := 49) rfl ((hK.put Q rfl).c 1 (q := kb + 1) rfl rfl) (by first | with_reducible assumption | with_reducible exact hw8 _ (in_lt (by with_reducible assumption)) (by with_reducible assumption) | with_reducible exact hw9 _ (in_lt (by with_reducible assumption)) (by with_reducible assumption) | with_reducible exact in_of hf (by with_reducible assumption)) ?_
          refine Rn.iconst (k := 50) (v := (-1)) rfl (by decide) ?_
          refine Rn.icmp_ne (k := 51) rfl (fun cl_6 => ?_) (fun cl_6 => ?_)
          · refine Rn.iinc (k := 69) (v := nI (k + 1)) rfl rfl (nI_1 k) (by decide) rfl ?_
            refine Rn.goto (k := 70) rfl ?_
            refine Rn.forget (ls' := [some (.ref (kb)), some (.ref (b)), none, some (.ref (kb + 1)), some (.int (f)), some (.int (o)), some (.int (u)), some (.int (nI (k + 1))), none]) (by intro i v h; match i, h with | 0, h => exact h | 1, h => exact h | 2, h => (cases h) | 3, h => exact h | 4, h => exact h | 5, h => exact h | 6, h => exact h | 7, h => exact h | 8, h => (cases h) | n + 9, h => (cases h)) ?_
            exact ih (k + 1) (f) Q (by omega) (by omega) (by first | with_reducible assumption | exact inc_nn hf (by with_reducible assumption)) (by first | with_reducible assumption | (exact hq) | (exact upd_in (hw8 _ (in_lt (by with_reducible assumption)) (by with_reducible assumption)) hq) | (exact upd_in (hw9 _ (in_lt (by with_reducible assumption)) (by with_reducible assumption)) hq)) (by have e : l_climbi1 K P o u (n + 1) k (f) (Q) = l_climbi1 K P o u n (k + 1) (f) (Q) := (by simp only [l_climbi1, if_neg cl_1, if_neg cl_4, if_neg cl_5, if_neg cl_6]); rw [e] at hc; exact hc)
          · refine Rn.iload (k := 52) rfl rfl ?_
            refine Rn.bipush (k := 53) (v := 16) rfl (by decide) ?_
            refine Rn.icmp_ge (k := 54) rfl (fun cl_7 => ?_) (fun cl_7 => ?_)
            · refine Rn.iinc (k := 69) (v := nI (k + 1)) rfl rfl (nI_1 k) (by decide) rfl ?_
              refine Rn.goto (k := 70) rfl ?_
              refine Rn.forget (ls' := [some (.ref (kb)), some (.ref (b)), none, some (.ref (kb + 1)), some (.int (f)), some (.int (o)), some (.int (u)), some (.int (nI (k + 1))), none]) (by intro i v h; match i, h with | 0, h => exact h | 1, h => exact h | 2, h => (cases h) | 3, h => exact h | 4, h => exact h | 5, h => exact h | 6, h => exact h | 7, h => exact h | 8, h => (cases h) | n + 9, h => (cases h)) ?_
              exact ih (k + 1) (f) Q (by omega) (by omega) (by first | with_reducible assumption | exact inc_nn hf (by with_reducible assumption)) (by first | with_reducible assumption | (exact hq) | (exact upd_in (hw8 _ (in_lt (by with_reducible assumption)) (by with_reducible assumption)) hq) | (exact upd_in (hw9 _ (in_lt (by with_reducible assumption)) (by with_reducible assumption)) hq)) (by have e : l_climbi1 K P o u (n + 1) k (f) (Q) = l_climbi1 K P o u n (k + 1) (f) (Q) := (by simp only [l_climbi1, if_neg cl_1, if_neg cl_4, if_neg cl_5, if_pos cl_6, if_pos cl_7]); rw [e] at hc; exact hc)
            · refine Rn.aload_n (k := 55) rfl rfl ?_
              refine Rn.iload (k := 56) rfl rfl ?_
              refine Rn.aload_n (k := 57) rfl rfl ?_
              refine Rn.iload (k := 58) rfl rfl ?_
              refine Rn.iald (k := 59) rfl ((hK.put Q rfl).c 1 (q := kb + 1) rfl rfl) (by first | with_reducible assumption | with_reducible exact hw8 _ (in_lt (by with_reducible assumption)) (by with_reducible assumption) | with_reducible exact hw9 _ (in_lt (by with_reducible assumption)) (by with_reducible assumption) | with_reducible exact in_of hf (by with_reducible assumption)) ?_
              refine Rn.iconst (k := 60) (v := 1) rfl (by decide) ?_
              refine Rn.iadd (k := 61) rfl ?_
              refine Rn.iast (k := 62) rfl ((hK.put Q rfl).four (q := kb + 1) 1 rfl) ((hK.put Q rfl).c 1 (q := kb + 1) rfl rfl) (by first | with_reducible assumption | with_reducible exact hw8 _ (in_lt (by with_reducible assumption)) (by with_reducible assumption) | with_reducible exact hw9 _ (in_lt (by with_reducible assumption)) (by with_reducible assumption) | with_reducible exact in_of hf (by with_reducible assumption)) ?_
              obtain ⟨Pl_8, ePl_8⟩ : ∃ Q0 : Pic, Q0 = pcI Q 1 (upd (Q.1 1) ((P.1 9 (u).toNatClampNeg) : Int32).toNatClampNeg ((Q.1 1 (u).toNatClampNeg) + 1)) := ⟨_, rfl⟩
              rw [(hK.put Q rfl).w Pl_8 1 (q := kb + 1) rfl (Nat.le_of_ble_eq_true rfl) (by rw [ePl_8]; rfl), knC_WW]
              have hPl_8 := hK.put Pl_8 rfl
              have hOl_9 := hP.off (C := knC) (b := kb) (X := Pl_8) (by first | exact hdis | exact Or.symm hdis | omega)
              refine Rn.aload_n (k := 63) rfl rfl ?_
              refine Rn.getf (k := 64) rfl (hPl_8.four (q := kb) 0 rfl) (hPl_8.c 0 (q := kb) rfl rfl) rfl ?_
              refine Rn.iload (k := 65) rfl rfl ?_
              refine Rn.iload (k := 66) rfl rfl ?_
              refine Rn.iast (k := 67) rfl (hPl_8.four (q := kb + 3) 3 rfl) (hPl_8.c 3 (q := kb + 3) rfl rfl) (by first | with_reducible assumption | with_reducible exact hw8 _ (in_lt (by with_reducible assumption)) (by with_reducible assumption) | with_reducible exact hw9 _ (in_lt (by with_reducible assumption)) (by with_reducible assumption) | with_reducible exact in_of hf (by with_reducible assumption)) ?_
              obtain ⟨Pl_10, ePl_10⟩ : ∃ Q0 : Pic, Q0 = pcI Pl_8 3 (upd (Pl_8.1 3) (f : Int32).toNatClampNeg (P.1 9 (u).toNatClampNeg)) := ⟨_, rfl⟩
              rw [hPl_8.w Pl_10 3 (q := kb + 3) rfl (Nat.le_of_ble_eq_true rfl) (by rw [ePl_10]; rfl), knC_WW]
              have hPl_10 := hK.put Pl_10 rfl
              have hOl_11 := hP.off (C := knC) (b := kb) (X := Pl_10) (by first | exact hdis | exact Or.symm hdis | omega)
              refine Rn.iinc (k := 68) (v := (f + 1)) rfl rfl rfl (by decide) rfl ?_
              refine Rn.iinc (k := 69) (v := nI (k + 1)) rfl rfl (nI_1 k) (by decide) rfl ?_
              refine Rn.goto (k := 70) rfl ?_
              refine Rn.forget (ls' := [some (.ref (kb)), some (.ref (b)), none, some (.ref (kb + 1)), some (.int ((f + 1))), some (.int (o)), some (.int (u)), some (.int (nI (k + 1))), none]) (by intro i v h; match i, h with | 0, h => exact h | 1, h => exact h | 2, h => (cases h) | 3, h => exact h | 4, h => exact h | 5, h => exact h | 6, h => exact h | 7, h => exact h | 8, h => (cases h) | n + 9, h => (cases h)) ?_
              exact ih (k + 1) ((f + 1)) Pl_10 (by omega) (by omega) (by first | with_reducible assumption | exact inc_nn hf (by with_reducible assumption)) (by first | with_reducible assumption | (rw [ePl_10]; rw [ePl_8]; exact hq) | (rw [ePl_10]; rw [ePl_8]; exact upd_in (hw8 _ (in_lt (by with_reducible assumption)) (by with_reducible assumption)) hq) | (rw [ePl_10]; rw [ePl_8]; exact upd_in (hw9 _ (in_lt (by with_reducible assumption)) (by with_reducible assumption)) hq)) (by have e : l_climbi1 K P o u (n + 1) k (f) (Q) = l_climbi1 K P o u n (k + 1) ((f + 1)) (Pl_10) := (by rw [ePl_10]; rw [ePl_8]; simp only [l_climbi1, if_neg cl_1, if_neg cl_4, if_neg cl_5, if_pos cl_6, if_neg cl_7]); rw [e] at hc; exact hc)
      · refine Rn.aload_n (k := 34) rfl rfl ?_
        refine Rn.getf (k := 35) rfl (hZP.four (q := b) 0 rfl) (hZP.c 0 (q := b) rfl rfl) rfl ?_
        refine Rn.iload (k := 36) rfl rfl ?_
        refine Rn.iald (k := 37) rfl (hZP.c 8 (q := b + 8) rfl rfl) (by first | with_reducible assumption | with_reducible exact hw8 _ (in_lt (by with_reducible assumption)) (by with_reducible assumption) | with_reducible exact hw9 _ (in_lt (by with_reducible assumption)) (by with_reducible assumption) | with_reducible exact in_of hf (by with_reducible assumption)) ?_
        refine Rn.goto (k := 38) rfl ?_
        refine Rn.istore (k := 43) rfl (by decide) rfl ?_
        refine Rn.iload (k := 44) rfl rfl ?_
        refine Rn.iconst (k := 45) (v := (-1)) rfl (by decide) ?_
        refine Rn.icmp_eq (k := 46) rfl (fun cl_12 => ?_) (fun cl_12 => ?_)
        · refine Rn.iinc (k := 69) (v := nI (k + 1)) rfl rfl (nI_1 k) (by decide) rfl ?_
          refine Rn.goto (k := 70) rfl ?_
          refine Rn.forget (ls' := [some (.ref (kb)), some (.ref (b)), none, some (.ref (kb + 1)), some (.int (f)), some (.int (o)), some (.int (u)), some (.int (nI (k + 1))), none]) (by intro i v h; match i, h with | 0, h => exact h | 1, h => exact h | 2, h => (cases h) | 3, h => exact h | 4, h => exact h | 5, h => exact h | 6, h => exact h | 7, h => exact h | 8, h => (cases h) | n + 9, h => (cases h)) ?_
          exact ih (k + 1) (f) Q (by omega) (by omega) (by first | with_reducible assumption | exact inc_nn hf (by with_reducible assumption)) (by first | with_reducible assumption | (exact hq) | (exact upd_in (hw8 _ (in_lt (by with_reducible assumption)) (by with_reducible assumption)) hq) | (exact upd_in (hw9 _ (in_lt (by with_reducible assumption)) (by with_reducible assumption)) hq)) (by have e : l_climbi1 K P o u (n + 1) k (f) (Q) = l_climbi1 K P o u n (k + 1) (f) (Q) := (by simp only [l_climbi1, if_neg cl_1, if_pos cl_4, if_pos cl_12]); rw [e] at hc; exact hc)
        · refine Rn.aload_n (k := 47) rfl rfl ?_
          refine Rn.iload (k := 48) rfl rfl ?_
          refine Rn.iald (k := 49) rfl ((hK.put Q rfl).c 1 (q := kb + 1) rfl rfl) (by first | with_reducible assumption | with_reducible exact hw8 _ (in_lt (by with_reducible assumption)) (by with_reducible assumption) | with_reducible exact hw9 _ (in_lt (by with_reducible assumption)) (by with_reducible assumption) | with_reducible exact in_of hf (by with_reducible assumption)) ?_
          refine Rn.iconst (k := 50) (v := (-1)) rfl (by decide) ?_
          refine Rn.icmp_ne (k := 51) rfl (fun cl_13 => ?_) (fun cl_13 => ?_)
          · refine Rn.iinc (k := 69) (v := nI (k + 1)) rfl rfl (nI_1 k) (by decide) rfl ?_
            refine Rn.goto (k := 70) rfl ?_
            refine Rn.forget (ls' := [some (.ref (kb)), some (.ref (b)), none, some (.ref (kb + 1)), some (.int (f)), some (.int (o)), some (.int (u)), some (.int (nI (k + 1))), none]) (by intro i v h; match i, h with | 0, h => exact h | 1, h => exact h | 2, h => (cases h) | 3, h => exact h | 4, h => exact h | 5, h => exact h | 6, h => exact h | 7, h => exact h | 8, h => (cases h) | n + 9, h => (cases h)) ?_
            exact ih (k + 1) (f) Q (by omega) (by omega) (by first | with_reducible assumption | exact inc_nn hf (by with_reducible assumption)) (by first | with_reducible assumption | (exact hq) | (exact upd_in (hw8 _ (in_lt (by with_reducible assumption)) (by with_reducible assumption)) hq) | (exact upd_in (hw9 _ (in_lt (by with_reducible assumption)) (by with_reducible assumption)) hq)) (by have e : l_climbi1 K P o u (n + 1) k (f) (Q) = l_climbi1 K P o u n (k + 1) (f) (Q) := (by simp only [l_climbi1, if_neg cl_1, if_pos cl_4, if_neg cl_12, if_neg cl_13]); rw [e] at hc; exact hc)
          · refine Rn.iload (k := 52) rfl rfl ?_
            refine Rn.bipush (k := 53) (v := 16) rfl (by decide) ?_
            refine Rn.icmp_ge (k := 54) rfl (fun cl_14 => ?_) (fun cl_14 => ?_)
            · refine Rn.iinc (k := 69) (v := nI (k + 1)) rfl rfl (nI_1 k) (by decide) rfl ?_
              refine Rn.goto (k := 70) rfl ?_
              refine Rn.forget (ls' := [some (.ref (kb)), some (.ref (b)), none, some (.ref (kb + 1)), some (.int (f)), some (.int (o)), some (.int (u)), some (.int (nI (k + 1))), none]) (by intro i v h; match i, h with | 0, h => exact h | 1, h => exact h | 2, h => (cases h) | 3, h => exact h | 4, h => exact h | 5, h => exact h | 6, h => exact h | 7, h => exact h | 8, h => (cases h) | n + 9, h => (cases h)) ?_
              exact ih (k + 1) (f) Q (by omega) (by omega) (by first | with_reducible assumption | exact inc_nn hf (by with_reducible assumption)) (by first | with_reducible assumption | (exact hq) | (exact upd_in (hw8 _ (in_lt (by with_reducible assumption)) (by with_reducible assumption)) hq) | (exact upd_in (hw9 _ (in_lt (by with_reducible assumption)) (by with_reducible assumption)) hq)) (by have e : l_climbi1 K P o u (n + 1) k (f) (Q) = l_climbi1 K P o u n (k + 1) (f) (Q) := (by simp only [l_climbi1, if_neg cl_1, if_pos cl_4, if_neg cl_12, if_pos cl_13, if_pos cl_14]); rw [e] at hc; exact hc)
            · refine Rn.aload_n (k := 55) rfl rfl ?_
              refine Rn.iload (k := 56) rfl rfl ?_
              refine Rn.aload_n (k := 57) rfl rfl ?_
              refine Rn.iload (k := 58) rfl rfl ?_
              refine Rn.iald (k := 59) rfl ((hK.put Q rfl).c 1 (q := kb + 1) rfl rfl) (by first | with_reducible assumption | with_reducible exact hw8 _ (in_lt (by with_reducible assumption)) (by with_reducible assumption) | with_reducible exact hw9 _ (in_lt (by with_reducible assumption)) (by with_reducible assumption) | with_reducible exact in_of hf (by with_reducible assumption)) ?_
              refine Rn.iconst (k := 60) (v := 1) rfl (by decide) ?_
              refine Rn.iadd (k := 61) rfl ?_
              refine Rn.iast (k := 62) rfl ((hK.put Q rfl).four (q := kb + 1) 1 rfl) ((hK.put Q rfl).c 1 (q := kb + 1) rfl rfl) (by first | with_reducible assumption | with_reducible exact hw8 _ (in_lt (by with_reducible assumption)) (by with_reducible assumption) | with_reducible exact hw9 _ (in_lt (by with_reducible assumption)) (by with_reducible assumption) | with_reducible exact in_of hf (by with_reducible assumption)) ?_
              obtain ⟨Pl_15, ePl_15⟩ : ∃ Q0 : Pic, Q0 = pcI Q 1 (upd (Q.1 1) ((P.1 8 (u).toNatClampNeg) : Int32).toNatClampNeg ((Q.1 1 (u).toNatClampNeg) + 1)) := ⟨_, rfl⟩
              rw [(hK.put Q rfl).w Pl_15 1 (q := kb + 1) rfl (Nat.le_of_ble_eq_true rfl) (by rw [ePl_15]; rfl), knC_WW]
              have hPl_15 := hK.put Pl_15 rfl
              have hOl_16 := hP.off (C := knC) (b := kb) (X := Pl_15) (by first | exact hdis | exact Or.symm hdis | omega)
              refine Rn.aload_n (k := 63) rfl rfl ?_
              refine Rn.getf (k := 64) rfl (hPl_15.four (q := kb) 0 rfl) (hPl_15.c 0 (q := kb) rfl rfl) rfl ?_
              refine Rn.iload (k := 65) rfl rfl ?_
              refine Rn.iload (k := 66) rfl rfl ?_
              refine Rn.iast (k := 67) rfl (hPl_15.four (q := kb + 3) 3 rfl) (hPl_15.c 3 (q := kb + 3) rfl rfl) (by first | with_reducible assumption | with_reducible exact hw8 _ (in_lt (by with_reducible assumption)) (by with_reducible assumption) | with_reducible exact hw9 _ (in_lt (by with_reducible assumption)) (by with_reducible assumption) | with_reducible exact in_of hf (by with_reducible assumption)) ?_
              obtain ⟨Pl_17, ePl_17⟩ : ∃ Q0 : Pic, Q0 = pcI Pl_15 3 (upd (Pl_15.1 3) (f : Int32).toNatClampNeg (P.1 8 (u).toNatClampNeg)) := ⟨_, rfl⟩
              rw [hPl_15.w Pl_17 3 (q := kb + 3) rfl (Nat.le_of_ble_eq_true rfl) (by rw [ePl_17]; rfl), knC_WW]
              have hPl_17 := hK.put Pl_17 rfl
              have hOl_18 := hP.off (C := knC) (b := kb) (X := Pl_17) (by first | exact hdis | exact Or.symm hdis | omega)
              refine Rn.iinc (k := 68) (v := (f + 1)) rfl rfl rfl (by decide) rfl ?_
              refine Rn.iinc (k := 69) (v := nI (k + 1)) rfl rfl (nI_1 k) (by decide) rfl ?_
              refine Rn.goto (k := 70) rfl ?_
              refine Rn.forget (ls' := [some (.ref (kb)), some (.ref (b)), none, some (.ref (kb + 1)), some (.int ((f + 1))), some (.int (o)), some (.int (u)), some (.int (nI (k + 1))), none]) (by intro i v h; match i, h with | 0, h => exact h | 1, h => exact h | 2, h => (cases h) | 3, h => exact h | 4, h => exact h | 5, h => exact h | 6, h => exact h | 7, h => exact h | 8, h => (cases h) | n + 9, h => (cases h)) ?_
              exact ih (k + 1) ((f + 1)) Pl_17 (by omega) (by omega) (by first | with_reducible assumption | exact inc_nn hf (by with_reducible assumption)) (by first | with_reducible assumption | (rw [ePl_17]; rw [ePl_15]; exact hq) | (rw [ePl_17]; rw [ePl_15]; exact upd_in (hw8 _ (in_lt (by with_reducible assumption)) (by with_reducible assumption)) hq) | (rw [ePl_17]; rw [ePl_15]; exact upd_in (hw9 _ (in_lt (by with_reducible assumption)) (by with_reducible assumption)) hq)) (by have e : l_climbi1 K P o u (n + 1) k (f) (Q) = l_climbi1 K P o u n (k + 1) ((f + 1)) (Pl_17) := (by rw [ePl_17]; rw [ePl_15]; simp only [l_climbi1, if_neg cl_1, if_pos cl_4, if_neg cl_12, if_pos cl_13, if_neg cl_14]); rw [e] at hc; exact hc)
def l_climbo1 (K : Pic) (P : Pic)  : Nat → Nat → Int32 → Pic → Int32 × Pic
  | 0, k, f, Q => (f, Q)
  | n + 1, k, f, Q => (if f ≤ nI k then (f, Q) else (if 16 ≤ nI k then (f, Q) else l_climbo1 K P n (k + 1) ((l_climbi1 K P (nI k) ((Q.1 3 (nI k).toNatClampNeg)) 17 0 (f) Q).1) (((l_climbi1 K P (nI k) ((Q.1 3 (nI k).toNatClampNeg)) 17 0 (f) Q).2))))
set_option maxHeartbeats 4000000 in
set_option maxRecDepth 20000 in
theorem c_climbo1 {d kc ks : Nat} {rv : Option Value} {S' : Sg} {S : Sg} {kb : Nat} {b : Nat} {K : Pic} {P : Pic} (hK : pcAt_ knC S kb K) (hP : pcAt_ ppC S b P)   (hdis : kb + 4 ≤ b ∨ b + 12 ≤ kb) (hw8 : ∀ i : Nat, i < 16 → ¬ P.1 8 i = -1 → vp_in (P.1 8 i) 16) (hw9 : ∀ i : Nat, i < 16 → ¬ P.1 9 i = -1 → vp_in (P.1 9 i) 16) (hd : 1 ≤ d) : ∀ (n k : Nat) (f : Int32) (Q : Pic), 16 - k < n → k ≤ 16 → (¬ f < 0) → (∀ j, j < 16 → vp_in (Q.1 3 j) 16) → ((¬ (l_climbo1 K P n k (f) (Q)).1 < 0) → (∀ j, j < 16 → vp_in ((l_climbo1 K P n k (f) (Q)).2.1 3 j) 16) → Rn d kc ks mX3_climb 73 [some (.ref (kb)), some (.ref (b)), none, some (.ref (kb + 1)), some (.int ((l_climbo1 K P n k (f) (Q)).1)), none, none, none, none] [] (pcW knC S kb (l_climbo1 K P n k (f) (Q)).2) rv S') → Rn d kc ks mX3_climb 16 [some (.ref (kb)), some (.ref (b)), none, some (.ref (kb + 1)), some (.int (f)), some (.int (nI k)), none, none, none] [] (pcW knC S kb Q) rv S' := by
  intro n
  induction n with
  | zero => intro k f Q h; exact absurd h (Nat.not_lt_zero _)
  | succ n ih =>
    intro k f Q hm hkN hf hq hc
    have hZP := hP.off (C := knC) (b := kb) (X := Q) (by first | exact hdis | exact Or.symm hdis | omega)
    refine Rn.iload (k := 16) rfl rfl ?_
    refine Rn.iload (k := 17) rfl rfl ?_
    refine Rn.icmp_ge (k := 18) rfl (fun cl_1 => ?_) (fun cl_1 => ?_)
    · refine Rn.forget (ls' := [some (.ref (kb)), some (.ref (b)), none, some (.ref (kb + 1)), some (.int (f)), none, none, none, none]) (by intro i v h; match i, h with | 0, h => exact h | 1, h => exact h | 2, h => (cases h) | 3, h => exact h | 4, h => exact h | 5, h => (cases h) | 6, h => (cases h) | 7, h => (cases h) | 8, h => (cases h) | n + 9, h => (cases h)) ?_
      exact (by have e : l_climbo1 K P (n + 1) k (f) (Q) = (f, Q) := (by simp only [l_climbo1, if_pos cl_1]); rw [e] at hc; exact hc (by first | with_reducible assumption | exact inc_nn hf (by with_reducible assumption)) (by first | with_reducible assumption | (exact hq) | (exact upd_in (hw8 _ (in_lt (by with_reducible assumption)) (by with_reducible assumption)) hq) | (exact upd_in (hw9 _ (in_lt (by with_reducible assumption)) (by with_reducible assumption)) hq)))
    · refine Rn.iload (k := 19) rfl rfl ?_
      refine Rn.bipush (k := 20) (v := 16) rfl (by decide) ?_
      refine Rn.icmp_ge (k := 21) rfl (fun cl_2 => ?_) (fun cl_2 => ?_)
      · refine Rn.forget (ls' := [some (.ref (kb)), some (.ref (b)), none, some (.ref (kb + 1)), some (.int (f)), none, none, none, none]) (by intro i v h; match i, h with | 0, h => exact h | 1, h => exact h | 2, h => (cases h) | 3, h => exact h | 4, h => exact h | 5, h => (cases h) | 6, h => (cases h) | 7, h => (cases h) | 8, h => (cases h) | n + 9, h => (cases h)) ?_
        exact (by have e : l_climbo1 K P (n + 1) k (f) (Q) = (f, Q) := (by simp only [l_climbo1, if_neg cl_1, if_pos cl_2]); rw [e] at hc; exact hc (by first | with_reducible assumption | exact inc_nn hf (by with_reducible assumption)) (by first | with_reducible assumption | (exact hq) | (exact upd_in (hw8 _ (in_lt (by with_reducible assumption)) (by with_reducible assumption)) hq) | (exact upd_in (hw9 _ (in_lt (by with_reducible assumption)) (by with_reducible assumption)) hq)))
      · have hltl_3 : k < 16 := Nat.lt_of_not_le (fun q => cl_2 (by exact nI_le q (by omega)))
        have hinl_4 : vp_in (nI k) 16 := vp_in_nI (by omega) (by decide)
        refine Rn.aload_n (k := 22) rfl rfl ?_
        refine Rn.getf (k := 23) rfl ((hK.put Q rfl).four (q := kb) 0 rfl) ((hK.put Q rfl).c 0 (q := kb) rfl rfl) rfl ?_
        refine Rn.iload (k := 24) rfl rfl ?_
        refine Rn.iald (k := 25) rfl ((hK.put Q rfl).c 3 (q := kb + 3) rfl rfl) (by first | with_reducible assumption) ?_
        refine Rn.istore (k := 26) rfl (by decide) rfl ?_
        refine Rn.iconst (k := 27) (v := 0) rfl (by decide) ?_
        refine Rn.istore (k := 28) rfl (by decide) rfl ?_
        refine Rn.forget (ls' := [some (.ref (kb)), some (.ref (b)), none, some (.ref (kb + 1)), some (.int (f)), some (.int (nI k)), some (.int ((Q.1 3 (nI k).toNatClampNeg))), some (.int (nI 0)), none]) (by intro i v h; match i, h with | 0, h => exact h | 1, h => exact h | 2, h => (cases h) | 3, h => exact h | 4, h => exact h | 5, h => exact h | 6, h => exact h | 7, h => exact h | 8, h => (cases h) | n + 9, h => (cases h)) ?_
        refine c_climbi1 hK hP (nI k) ((Q.1 3 (nI k).toNatClampNeg)) hdis hw8 hw9 (hq _ (in_lt (by with_reducible assumption))) (by first | decide | omega) 17 0 (f) Q (by omega) (Nat.zero_le _) hf hq (fun hIl_5 hIl_6 => ?_)
        obtain ⟨Pl_7, ePl_7⟩ : ∃ Q0 : Pic, Q0 = (l_climbi1 K P (nI k) ((Q.1 3 (nI k).toNatClampNeg)) 17 0 (f) Q).2 := ⟨_, rfl⟩
        rw [← ePl_7]
        have hPl_7 := hK.put Pl_7 rfl
        (try rw [← ePl_7] at hIl_5)
        (try rw [← ePl_7] at hIl_6)
        have hOl_8 := hP.off (C := knC) (b := kb) (X := Pl_7) (by first | exact hdis | exact Or.symm hdis | omega)
        refine Rn.iinc (k := 71) (v := nI (k + 1)) rfl rfl (nI_1 k) (by decide) rfl ?_
        refine Rn.goto (k := 72) rfl ?_
        refine Rn.forget (ls' := [some (.ref (kb)), some (.ref (b)), none, some (.ref (kb + 1)), some (.int ((l_climbi1 K P (nI k) ((Q.1 3 (nI k).toNatClampNeg)) 17 0 (f) Q).1)), some (.int (nI (k + 1))), none, none, none]) (by intro i v h; match i, h with | 0, h => exact h | 1, h => exact h | 2, h => (cases h) | 3, h => exact h | 4, h => exact h | 5, h => exact h | 6, h => (cases h) | 7, h => (cases h) | 8, h => (cases h) | n + 9, h => (cases h)) ?_
        exact ih (k + 1) ((l_climbi1 K P (nI k) ((Q.1 3 (nI k).toNatClampNeg)) 17 0 (f) Q).1) Pl_7 (by omega) (by omega) (by first | with_reducible assumption | exact inc_nn hf (by with_reducible assumption)) (by first | with_reducible assumption | (rw [ePl_7]; exact hq) | (rw [ePl_7]; exact upd_in (hw8 _ (in_lt (by with_reducible assumption)) (by with_reducible assumption)) hq) | (rw [ePl_7]; exact upd_in (hw9 _ (in_lt (by with_reducible assumption)) (by with_reducible assumption)) hq)) (by have e : l_climbo1 K P (n + 1) k (f) (Q) = l_climbo1 K P n (k + 1) ((l_climbi1 K P (nI k) ((Q.1 3 (nI k).toNatClampNeg)) 17 0 (f) Q).1) (Pl_7) := (by rw [ePl_7]; simp only [l_climbo1, if_neg cl_1, if_neg cl_2]); rw [e] at hc; exact hc)
def w_climb1 (K : Pic) (P : Pic) (s : Int32) : Pic := (let P_1 : Pic := pcI K 1 ((w_fill (fun _ => K.1 1, fun _ _ => 0, fun _ _ => none) (-1)).1 0); let P_3 : Pic := pcI P_1 1 (upd (P_1.1 1) (s : Int32).toNatClampNeg 0); let P_5 : Pic := pcI P_3 3 (upd (P_3.1 3) (0 : Int32).toNatClampNeg s); let P_9 : Pic := (l_climbo1 K P  17 0 (1) P_5).2; P_9)
set_option maxRecDepth 20000 in
theorem rX3_climb_1 {S : Sg} {kb : Nat} {b : Nat} {K : Pic} {P : Pic} (hK : pcAt_ knC S kb K) (hP : pcAt_ ppC S b P)  (s : Int32) (hdis : kb + 4 ≤ b ∨ b + 12 ≤ kb) (hw8 : ∀ i : Nat, i < 16 → ¬ P.1 8 i = -1 → vp_in (P.1 8 i) 16) (hw9 : ∀ i : Nat, i < 16 → ¬ P.1 9 i = -1 → vp_in (P.1 9 i) 16) (h_s : vp_in s 16) (hq : ∀ j, j < 16 → vp_in (K.1 3 j) 16) : Rn 2 0 0 mX3_climb 0 [some (.ref (kb)), some (.ref (b)), some (.int (s)), some (.ref (kb + 1)), none, none, none, none, none] [] S none (pcW knC S kb (w_climb1 K P s)) := by
  refine Rn.aload_n (k := 0) rfl rfl ?_
  refine Rn.iconst (k := 1) (v := (-1)) rfl (by decide) ?_
  refine Rn.callS0 (k := 2) (M' := mJ7_fill_53178) rfl lkX3_21 rfl (kfill (hK.four (q := kb + 1) 1 rfl) (hK.c 1 (q := kb + 1) rfl rfl) ((-1))) (by first | decide | omega) rfl rfl (Nat.le_of_ble_eq_true rfl) ?_
  obtain ⟨P_1, eP_1⟩ : ∃ Q0 : Pic, Q0 = pcI K 1 ((w_fill (fun _ => K.1 1, fun _ _ => 0, fun _ _ => none) (-1)).1 0) := ⟨_, rfl⟩
  rw [hK.w P_1 1 (q := kb + 1) rfl (Nat.le_of_ble_eq_true rfl) (by rw [eP_1]; rfl)]
  have hP_1 := hK.put P_1 rfl
  have hO_2 := hP.off (C := knC) (b := kb) (X := P_1) (by first | exact hdis | exact Or.symm hdis | omega)
  refine Rn.aload_n (k := 3) rfl rfl ?_
  refine Rn.iload_n (k := 4) rfl rfl ?_
  refine Rn.iconst (k := 5) (v := 0) rfl (by decide) ?_
  refine Rn.iast (k := 6) rfl (hP_1.four (q := kb + 1) 1 rfl) (hP_1.c 1 (q := kb + 1) rfl rfl) (by first | with_reducible assumption) ?_
  obtain ⟨P_3, eP_3⟩ : ∃ Q0 : Pic, Q0 = pcI P_1 1 (upd (P_1.1 1) (s : Int32).toNatClampNeg 0) := ⟨_, rfl⟩
  rw [hP_1.w P_3 1 (q := kb + 1) rfl (Nat.le_of_ble_eq_true rfl) (by rw [eP_3]; rfl), knC_WW]
  have hP_3 := hK.put P_3 rfl
  have hO_4 := hP.off (C := knC) (b := kb) (X := P_3) (by first | exact hdis | exact Or.symm hdis | omega)
  refine Rn.aload_n (k := 7) rfl rfl ?_
  refine Rn.getf (k := 8) rfl (hP_3.four (q := kb) 0 rfl) (hP_3.c 0 (q := kb) rfl rfl) rfl ?_
  refine Rn.iconst (k := 9) (v := 0) rfl (by decide) ?_
  refine Rn.iload_n (k := 10) rfl rfl ?_
  refine Rn.iast (k := 11) rfl (hP_3.four (q := kb + 3) 3 rfl) (hP_3.c 3 (q := kb + 3) rfl rfl) (by first | (unfold vp_in; decide) | with_reducible assumption) ?_
  obtain ⟨P_5, eP_5⟩ : ∃ Q0 : Pic, Q0 = pcI P_3 3 (upd (P_3.1 3) (0 : Int32).toNatClampNeg s) := ⟨_, rfl⟩
  rw [hP_3.w P_5 3 (q := kb + 3) rfl (Nat.le_of_ble_eq_true rfl) (by rw [eP_5]; rfl), knC_WW]
  have hP_5 := hK.put P_5 rfl
  have hO_6 := hP.off (C := knC) (b := kb) (X := P_5) (by first | exact hdis | exact Or.symm hdis | omega)
  refine Rn.iconst (k := 12) (v := 1) rfl (by decide) ?_
  refine Rn.istore (k := 13) rfl (by decide) rfl ?_
  refine Rn.iconst (k := 14) (v := 0) rfl (by decide) ?_
  refine Rn.istore (k := 15) rfl (by decide) rfl ?_
  refine Rn.forget (ls' := [some (.ref (kb)), some (.ref (b)), none, some (.ref (kb + 1)), some (.int (1)), some (.int (nI 0)), none, none, none]) (by intro i v h; match i, h with | 0, h => exact h | 1, h => exact h | 2, h => (cases h) | 3, h => exact h | 4, h => exact h | 5, h => exact h | 6, h => (cases h) | 7, h => (cases h) | 8, h => (cases h) | n + 9, h => (cases h)) ?_
  refine c_climbo1 hK hP  hdis hw8 hw9 (by first | decide | omega) 17 0 (1) P_5 (by omega) (Nat.zero_le _) (by decide) (by rw [eP_5]; rw [eP_3]; rw [eP_1]; exact upd_in h_s hq) (fun hI_7 hI_8 => ?_)
  obtain ⟨P_9, eP_9⟩ : ∃ Q0 : Pic, Q0 = (l_climbo1 K P  17 0 (1) P_5).2 := ⟨_, rfl⟩
  rw [← eP_9]
  have hP_9 := hK.put P_9 rfl
  (try rw [← eP_9] at hI_7)
  (try rw [← eP_9] at hI_8)
  have hO_10 := hP.off (C := knC) (b := kb) (X := P_9) (by first | exact hdis | exact Or.symm hdis | omega)
  exact Rn.retw rfl rfl (by unfold w_climb1; first | done | rfl | (subst eP_1; subst eP_3; subst eP_5; subst eP_9; rfl))
theorem kX3_climb_1 {S : Sg} {kb : Nat} {b : Nat} {K : Pic} {P : Pic} (hK : pcAt_ knC S kb K) (hP : pcAt_ ppC S b P)  (s : Int32) (hdis : kb + 4 ≤ b ∨ b + 12 ≤ kb) (hw8 : ∀ i : Nat, i < 16 → ¬ P.1 8 i = -1 → vp_in (P.1 8 i) 16) (hw9 : ∀ i : Nat, i < 16 → ¬ P.1 9 i = -1 → vp_in (P.1 9 i) 16) (h_s : vp_in s 16) (hq : ∀ j, j < 16 → vp_in (K.1 3 j) 16) : Cl 2 0 0 mX3_climb [.ref kb, .ref (b), .int (s), .ref (kb + 1)] S none (pcW knC S kb (w_climb1 K P s)) := Cl.of okX3_climb (by intro i v h; match i, h with | 0, h => exact h | 1, h => exact h | 2, h => exact h | 3, h => exact h | 4, h => (cases h) | 5, h => (cases h) | 6, h => (cases h) | 7, h => (cases h) | 8, h => (cases h) | n + 9, h => (cases h)) (Nat.le_of_ble_eq_true rfl) rfl (rX3_climb_1 hK hP s hdis hw8 hw9 h_s hq)
def l_climbi2 (K : Pic) (P : Pic) (o : Int32) (u : Int32) : Nat → Nat → Int32 → Pic → Int32 × Pic
  | 0, k, f, Q => (f, Q)
  | n + 1, k, f, Q => (if 2 ≤ nI k then (f, Q) else (if nI k = 0 then (if (P.1 8 (u).toNatClampNeg) = (-1) then l_climbi2 K P o u n (k + 1) (f) (Q) else (if (Q.1 2 ((P.1 8 (u).toNatClampNeg)).toNatClampNeg) = (-1) then (if 16 ≤ f then l_climbi2 K P o u n (k + 1) (f) (Q) else l_climbi2 K P o u n (k + 1) ((f + 1)) ((pcI (pcI Q 2 (upd (Q.1 2) ((P.1 8 (u).toNatClampNeg) : Int32).toNatClampNeg ((Q.1 2 (u).toNatClampNeg) + 1))) 3 (upd ((pcI Q 2 (upd (Q.1 2) ((P.1 8 (u).toNatClampNeg) : Int32).toNatClampNeg ((Q.1 2 (u).toNatClampNeg) + 1))).1 3) (f : Int32).toNatClampNeg (P.1 8 (u).toNatClampNeg))))) else l_climbi2 K P o u n (k + 1) (f) (Q))) else (if (P.1 9 (u).toNatClampNeg) = (-1) then l_climbi2 K P o u n (k + 1) (f) (Q) else (if (Q.1 2 ((P.1 9 (u).toNatClampNeg)).toNatClampNeg) = (-1) then (if 16 ≤ f then l_climbi2 K P o u n (k + 1) (f) (Q) else l_climbi2 K P o u n (k + 1) ((f + 1)) ((pcI (pcI Q 2 (upd (Q.1 2) ((P.1 9 (u).toNatClampNeg) : Int32).toNatClampNeg ((Q.1 2 (u).toNatClampNeg) + 1))) 3 (upd ((pcI Q 2 (upd (Q.1 2) ((P.1 9 (u).toNatClampNeg) : Int32).toNatClampNeg ((Q.1 2 (u).toNatClampNeg) + 1))).1 3) (f : Int32).toNatClampNeg (P.1 9 (u).toNatClampNeg))))) else l_climbi2 K P o u n (k + 1) (f) (Q)))))
set_option maxHeartbeats 4000000 in
set_option maxRecDepth 20000 in
theorem c_climbi2 {d kc ks : Nat} {rv : Option Value} {S' : Sg} {S : Sg} {kb : Nat} {b : Nat} {K : Pic} {P : Pic} (hK : pcAt_ knC S kb K) (hP : pcAt_ ppC S b P)  (o : Int32) (u : Int32) (hdis : kb + 4 ≤ b ∨ b + 12 ≤ kb) (hw8 : ∀ i : Nat, i < 16 → ¬ P.1 8 i = -1 → vp_in (P.1 8 i) 16) (hw9 : ∀ i : Nat, i < 16 → ¬ P.1 9 i = -1 → vp_in (P.1 9 i) 16) (h_u : vp_in u 16) (hd : 1 ≤ d) : ∀ (n k : Nat) (f : Int32) (Q : Pic), 2 - k < n → k ≤ 2 → (¬ f < 0) → (∀ j, j < 16 → vp_in (Q.1 3 j) 16) → ((¬ (l_climbi2 K P o u n k (f) (Q)).1 < 0) → (∀ j, j < 16 → vp_in ((l_climbi2 K P o u n k (f) (Q)).2.1 3 j) 16) → Rn d kc ks mX3_climb 71 [some (.ref (kb)), some (.ref (b)), none, some (.ref (kb + 2)), some (.int ((l_climbi2 K P o u n k (f) (Q)).1)), some (.int (o)), some (.int (u)), none, none] [] (pcW knC S kb (l_climbi2 K P o u n k (f) (Q)).2) rv S') → Rn d kc ks mX3_climb 29 [some (.ref (kb)), some (.ref (b)), none, some (.ref (kb + 2)), some (.int (f)), some (.int (o)), some (.int (u)), some (.int (nI k)), none] [] (pcW knC S kb Q) rv S' := by
  intro n
  induction n with
  | zero => intro k f Q h; exact absurd h (Nat.not_lt_zero _)
  | succ n ih =>
    intro k f Q hm hkN hf hq hc
    have hZP := hP.off (C := knC) (b := kb) (X := Q) (by first | exact hdis | exact Or.symm hdis | omega)
    refine Rn.iload (k := 29) rfl rfl ?_
    refine Rn.iconst (k := 30) (v := 2) rfl (by decide) ?_
    refine Rn.icmp_ge (k := 31) rfl (fun cl_1 => ?_) (fun cl_1 => ?_)
    · refine Rn.forget (ls' := [some (.ref (kb)), some (.ref (b)), none, some (.ref (kb + 2)), some (.int (f)), some (.int (o)), some (.int (u)), none, none]) (by intro i v h; match i, h with | 0, h => exact h | 1, h => exact h | 2, h => (cases h) | 3, h => exact h | 4, h => exact h | 5, h => exact h | 6, h => exact h | 7, h => (cases h) | 8, h => (cases h) | n + 9, h => (cases h)) ?_
      exact (by have e : l_climbi2 K P o u (n + 1) k (f) (Q) = (f, Q) := (by simp only [l_climbi2, if_pos cl_1]); rw [e] at hc; exact hc (by first | with_reducible assumption | exact inc_nn hf (by with_reducible assumption)) (by first | with_reducible assumption | (exact hq) | (exact upd_in (hw8 _ (in_lt (by with_reducible assumption)) (by with_reducible assumption)) hq) | (exact upd_in (hw9 _ (in_lt (by with_reducible assumption)) (by with_reducible assumption)) hq)))
    · have hltl_2 : k < 2 := Nat.lt_of_not_le (fun q => cl_1 (by exact nI_le q (by omega)))
      have hinl_3 : vp_in (nI k) 16 := vp_in_nI (by omega) (by decide)
      refine Rn.iload (k := 32) rfl rfl ?_
      refine Rn.if_ne (k := 33) rfl (fun cl_4 => ?_) (fun cl_4 => ?_)
      · refine Rn.aload_n (k := 39) rfl rfl ?_
        refine Rn.getf (k := 40) rfl (hZP.four (q := b) 0 rfl) (hZP.c 0 (q := b) rfl rfl) rfl ?_
        refine Rn.iload (k := 41) rfl rfl ?_
        refine Rn.iald (k := 42) rfl (hZP.c 9 (q := b + 9) rfl rfl) (by first | with_reducible assumption | with_reducible exact hw8 _ (in_lt (by with_reducible assumption)) (by with_reducible assumption) | with_reducible exact hw9 _ (in_lt (by with_reducible assumption)) (by with_reducible assumption) | with_reducible exact in_of hf (by with_reducible assumption)) ?_
        refine Rn.istore (k := 43) rfl (by decide) rfl ?_
        refine Rn.iload (k := 44) rfl rfl ?_
        refine Rn.iconst (k := 45) (v := (-1)) rfl (by decide) ?_
        refine Rn.icmp_eq (k := 46) rfl (fun cl_5 => ?_) (fun cl_5 => ?_)
        · refine Rn.iinc (k := 69) (v := nI (k + 1)) rfl rfl (nI_1 k) (by decide) rfl ?_
          refine Rn.goto (k := 70) rfl ?_
          refine Rn.forget (ls' := [some (.ref (kb)), some (.ref (b)), none, some (.ref (kb + 2)), some (.int (f)), some (.int (o)), some (.int (u)), some (.int (nI (k + 1))), none]) (by intro i v h; match i, h with | 0, h => exact h | 1, h => exact h | 2, h => (cases h) | 3, h => exact h | 4, h => exact h | 5, h => exact h | 6, h => exact h | 7, h => exact h | 8, h => (cases h) | n + 9, h => (cases h)) ?_
          exact ih (k + 1) (f) Q (by omega) (by omega) (by first | with_reducible assumption | exact inc_nn hf (by with_reducible assumption)) (by first | with_reducible assumption | (exact hq) | (exact upd_in (hw8 _ (in_lt (by with_reducible assumption)) (by with_reducible assumption)) hq) | (exact upd_in (hw9 _ (in_lt (by with_reducible assumption)) (by with_reducible assumption)) hq)) (by have e : l_climbi2 K P o u (n + 1) k (f) (Q) = l_climbi2 K P o u n (k + 1) (f) (Q) := (by simp only [l_climbi2, if_neg cl_1, if_neg cl_4, if_pos cl_5]); rw [e] at hc; exact hc)
        · refine Rn.aload_n (k := 47) rfl rfl ?_
          refine Rn.iload (k := 48) rfl rfl ?_
          refine Rn.iald (k := 49) rfl ((hK.put Q rfl).c 2 (q := kb + 2) rfl rfl) (by first | with_reducible assumption | with_reducible exact hw8 _ (in_lt (by with_reducible assumption)) (by with_reducible assumption) | with_reducible exact hw9 _ (in_lt (by with_reducible assumption)) (by with_reducible assumption) | with_reducible exact in_of hf (by with_reducible assumption)) ?_
          refine Rn.iconst (k := 50) (v := (-1)) rfl (by decide) ?_
          refine Rn.icmp_ne (k := 51) rfl (fun cl_6 => ?_) (fun cl_6 => ?_)
          · refine Rn.iinc (k := 69) (v := nI (k + 1)) rfl rfl (nI_1 k) (by decide) rfl ?_
            refine Rn.goto (k := 70) rfl ?_
            refine Rn.forget (ls' := [some (.ref (kb)), some (.ref (b)), none, some (.ref (kb + 2)), some (.int (f)), some (.int (o)), some (.int (u)), some (.int (nI (k + 1))), none]) (by intro i v h; match i, h with | 0, h => exact h | 1, h => exact h | 2, h => (cases h) | 3, h => exact h | 4, h => exact h | 5, h => exact h | 6, h => exact h | 7, h => exact h | 8, h => (cases h) | n + 9, h => (cases h)) ?_
            exact ih (k + 1) (f) Q (by omega) (by omega) (by first | with_reducible assumption | exact inc_nn hf (by with_reducible assumption)) (by first | with_reducible assumption | (exact hq) | (exact upd_in (hw8 _ (in_lt (by with_reducible assumption)) (by with_reducible assumption)) hq) | (exact upd_in (hw9 _ (in_lt (by with_reducible assumption)) (by with_reducible assumption)) hq)) (by have e : l_climbi2 K P o u (n + 1) k (f) (Q) = l_climbi2 K P o u n (k + 1) (f) (Q) := (by simp only [l_climbi2, if_neg cl_1, if_neg cl_4, if_neg cl_5, if_neg cl_6]); rw [e] at hc; exact hc)
          · refine Rn.iload (k := 52) rfl rfl ?_
            refine Rn.bipush (k := 53) (v := 16) rfl (by decide) ?_
            refine Rn.icmp_ge (k := 54) rfl (fun cl_7 => ?_) (fun cl_7 => ?_)
            · refine Rn.iinc (k := 69) (v := nI (k + 1)) rfl rfl (nI_1 k) (by decide) rfl ?_
              refine Rn.goto (k := 70) rfl ?_
              refine Rn.forget (ls' := [some (.ref (kb)), some (.ref (b)), none, some (.ref (kb + 2)), some (.int (f)), some (.int (o)), some (.int (u)), some (.int (nI (k + 1))), none]) (by intro i v h; match i, h with | 0, h => exact h | 1, h => exact h | 2, h => (cases h) | 3, h => exact h | 4, h => exact h | 5, h => exact h | 6, h => exact h | 7, h => exact h | 8, h => (cases h) | n + 9, h => (cases h)) ?_
              exact ih (k + 1) (f) Q (by omega) (by omega) (by first | with_reducible assumption | exact inc_nn hf (by with_reducible assumption)) (by first | with_reducible assumption | (exact hq) | (exact upd_in (hw8 _ (in_lt (by with_reducible assumption)) (by with_reducible assumption)) hq) | (exact upd_in (hw9 _ (in_lt (by with_reducible assumption)) (by with_reducible assumption)) hq)) (by have e : l_climbi2 K P o u (n + 1) k (f) (Q) = l_climbi2 K P o u n (k + 1) (f) (Q) := (by simp only [l_climbi2, if_neg cl_1, if_neg cl_4, if_neg cl_5, if_pos cl_6, if_pos cl_7]); rw [e] at hc; exact hc)
            · refine Rn.aload_n (k := 55) rfl rfl ?_
              refine Rn.iload (k := 56) rfl rfl ?_
              refine Rn.aload_n (k := 57) rfl rfl ?_
              refine Rn.iload (k := 58) rfl rfl ?_
              refine Rn.iald (k := 59) rfl ((hK.put Q rfl).c 2 (q := kb + 2) rfl rfl) (by first | with_reducible assumption | with_reducible exact hw8 _ (in_lt (by with_reducible assumption)) (by with_reducible assumption) | with_reducible exact hw9 _ (in_lt (by with_reducible assumption)) (by with_reducible assumption) | with_reducible exact in_of hf (by with_reducible assumption)) ?_
              refine Rn.iconst (k := 60) (v := 1) rfl (by decide) ?_
              refine Rn.iadd (k := 61) rfl ?_
              refine Rn.iast (k := 62) rfl ((hK.put Q rfl).four (q := kb + 2) 2 rfl) ((hK.put Q rfl).c 2 (q := kb + 2) rfl rfl) (by first | with_reducible assumption | with_reducible exact hw8 _ (in_lt (by with_reducible assumption)) (by with_reducible assumption) | with_reducible exact hw9 _ (in_lt (by with_reducible assumption)) (by with_reducible assumption) | with_reducible exact in_of hf (by with_reducible assumption)) ?_
              obtain ⟨Pl_8, ePl_8⟩ : ∃ Q0 : Pic, Q0 = pcI Q 2 (upd (Q.1 2) ((P.1 9 (u).toNatClampNeg) : Int32).toNatClampNeg ((Q.1 2 (u).toNatClampNeg) + 1)) := ⟨_, rfl⟩
              rw [(hK.put Q rfl).w Pl_8 2 (q := kb + 2) rfl (Nat.le_of_ble_eq_true rfl) (by rw [ePl_8]; rfl), knC_WW]
              have hPl_8 := hK.put Pl_8 rfl
              have hOl_9 := hP.off (C := knC) (b := kb) (X := Pl_8) (by first | exact hdis | exact Or.symm hdis | omega)
              refine Rn.aload_n (k := 63) rfl rfl ?_
              refine Rn.getf (k := 64) rfl (hPl_8.four (q := kb) 0 rfl) (hPl_8.c 0 (q := kb) rfl rfl) rfl ?_
              refine Rn.iload (k := 65) rfl rfl ?_
              refine Rn.iload (k := 66) rfl rfl ?_
              refine Rn.iast (k := 67) rfl (hPl_8.four (q := kb + 3) 3 rfl) (hPl_8.c 3 (q := kb + 3) rfl rfl) (by first | with_reducible assumption | with_reducible exact hw8 _ (in_lt (by with_reducible assumption)) (by with_reducible assumption) | with_reducible exact hw9 _ (in_lt (by with_reducible assumption)) (by with_reducible assumption) | with_reducible exact in_of hf (by with_reducible assumption)) ?_
              obtain ⟨Pl_10, ePl_10⟩ : ∃ Q0 : Pic, Q0 = pcI Pl_8 3 (upd (Pl_8.1 3) (f : Int32).toNatClampNeg (P.1 9 (u).toNatClampNeg)) := ⟨_, rfl⟩
              rw [hPl_8.w Pl_10 3 (q := kb + 3) rfl (Nat.le_of_ble_eq_true rfl) (by rw [ePl_10]; rfl), knC_WW]
              have hPl_10 := hK.put Pl_10 rfl
              have hOl_11 := hP.off (C := knC) (b := kb) (X := Pl_10) (by first | exact hdis | exact Or.symm hdis | omega)
              refine Rn.iinc (k := 68) (v := (f + 1)) rfl rfl rfl (by decide) rfl ?_
              refine Rn.iinc (k := 69) (v := nI (k + 1)) rfl rfl (nI_1 k) (by decide) rfl ?_
              refine Rn.goto (k := 70) rfl ?_
              refine Rn.forget (ls' := [some (.ref (kb)), some (.ref (b)), none, some (.ref (kb + 2)), some (.int ((f + 1))), some (.int (o)), some (.int (u)), some (.int (nI (k + 1))), none]) (by intro i v h; match i, h with | 0, h => exact h | 1, h => exact h | 2, h => (cases h) | 3, h => exact h | 4, h => exact h | 5, h => exact h | 6, h => exact h | 7, h => exact h | 8, h => (cases h) | n + 9, h => (cases h)) ?_
              exact ih (k + 1) ((f + 1)) Pl_10 (by omega) (by omega) (by first | with_reducible assumption | exact inc_nn hf (by with_reducible assumption)) (by first | with_reducible assumption | (rw [ePl_10]; rw [ePl_8]; exact hq) | (rw [ePl_10]; rw [ePl_8]; exact upd_in (hw8 _ (in_lt (by with_reducible assumption)) (by with_reducible assumption)) hq) | (rw [ePl_10]; rw [ePl_8]; exact upd_in (hw9 _ (in_lt (by with_reducible assumption)) (by with_reducible assumption)) hq)) (by have e : l_climbi2 K P o u (n + 1) k (f) (Q) = l_climbi2 K P o u n (k + 1) ((f + 1)) (Pl_10) := (by rw [ePl_10]; rw [ePl_8]; simp only [l_climbi2, if_neg cl_1, if_neg cl_4, if_neg cl_5, if_pos cl_6, if_neg cl_7]); rw [e] at hc; exact hc)
      · refine Rn.aload_n (k := 34) rfl rfl ?_
        refine Rn.getf (k := 35) rfl (hZP.four (q := b) 0 rfl) (hZP.c 0 (q := b) rfl rfl) rfl ?_
        refine Rn.iload (k := 36) rfl rfl ?_
        refine Rn.iald (k := 37) rfl (hZP.c 8 (q := b + 8) rfl rfl) (by first | with_reducible assumption | with_reducible exact hw8 _ (in_lt (by with_reducible assumption)) (by with_reducible assumption) | with_reducible exact hw9 _ (in_lt (by with_reducible assumption)) (by with_reducible assumption) | with_reducible exact in_of hf (by with_reducible assumption)) ?_
        refine Rn.goto (k := 38) rfl ?_
        refine Rn.istore (k := 43) rfl (by decide) rfl ?_
        refine Rn.iload (k := 44) rfl rfl ?_
        refine Rn.iconst (k := 45) (v := (-1)) rfl (by decide) ?_
        refine Rn.icmp_eq (k := 46) rfl (fun cl_12 => ?_) (fun cl_12 => ?_)
        · refine Rn.iinc (k := 69) (v := nI (k + 1)) rfl rfl (nI_1 k) (by decide) rfl ?_
          refine Rn.goto (k := 70) rfl ?_
          refine Rn.forget (ls' := [some (.ref (kb)), some (.ref (b)), none, some (.ref (kb + 2)), some (.int (f)), some (.int (o)), some (.int (u)), some (.int (nI (k + 1))), none]) (by intro i v h; match i, h with | 0, h => exact h | 1, h => exact h | 2, h => (cases h) | 3, h => exact h | 4, h => exact h | 5, h => exact h | 6, h => exact h | 7, h => exact h | 8, h => (cases h) | n + 9, h => (cases h)) ?_
          exact ih (k + 1) (f) Q (by omega) (by omega) (by first | with_reducible assumption | exact inc_nn hf (by with_reducible assumption)) (by first | with_reducible assumption | (exact hq) | (exact upd_in (hw8 _ (in_lt (by with_reducible assumption)) (by with_reducible assumption)) hq) | (exact upd_in (hw9 _ (in_lt (by with_reducible assumption)) (by with_reducible assumption)) hq)) (by have e : l_climbi2 K P o u (n + 1) k (f) (Q) = l_climbi2 K P o u n (k + 1) (f) (Q) := (by simp only [l_climbi2, if_neg cl_1, if_pos cl_4, if_pos cl_12]); rw [e] at hc; exact hc)
        · refine Rn.aload_n (k := 47) rfl rfl ?_
          refine Rn.iload (k := 48) rfl rfl ?_
          refine Rn.iald (k := 49) rfl ((hK.put Q rfl).c 2 (q := kb + 2) rfl rfl) (by first | with_reducible assumption | with_reducible exact hw8 _ (in_lt (by with_reducible assumption)) (by with_reducible assumption) | with_reducible exact hw9 _ (in_lt (by with_reducible assumption)) (by with_reducible assumption) | with_reducible exact in_of hf (by with_reducible assumption)) ?_
          refine Rn.iconst (k := 50) (v := (-1)) rfl (by decide) ?_
          refine Rn.icmp_ne (k := 51) rfl (fun cl_13 => ?_) (fun cl_13 => ?_)
          · refine Rn.iinc (k := 69) (v := nI (k + 1)) rfl rfl (nI_1 k) (by decide) rfl ?_
            refine Rn.goto (k := 70) rfl ?_
            refine Rn.forget (ls' := [some (.ref (kb)), some (.ref (b)), none, some (.ref (kb + 2)), some (.int (f)), some (.int (o)), some (.int (u)), some (.int (nI (k + 1))), none]) (by intro i v h; match i, h with | 0, h => exact h | 1, h => exact h | 2, h => (cases h) | 3, h => exact h | 4, h => exact h | 5, h => exact h | 6, h => exact h | 7, h => exact h | 8, h => (cases h) | n + 9, h => (cases h)) ?_
            exact ih (k + 1) (f) Q (by omega) (by omega) (by first | with_reducible assumption | exact inc_nn hf (by with_reducible assumption)) (by first | with_reducible assumption | (exact hq) | (exact upd_in (hw8 _ (in_lt (by with_reducible assumption)) (by with_reducible assumption)) hq) | (exact upd_in (hw9 _ (in_lt (by with_reducible assumption)) (by with_reducible assumption)) hq)) (by have e : l_climbi2 K P o u (n + 1) k (f) (Q) = l_climbi2 K P o u n (k + 1) (f) (Q) := (by simp only [l_climbi2, if_neg cl_1, if_pos cl_4, if_neg cl_12, if_neg cl_13]); rw [e] at hc; exact hc)
          · refine Rn.iload (k := 52) rfl rfl ?_
            refine Rn.bipush (k := 53) (v := 16) rfl (by decide) ?_
            refine Rn.icmp_ge (k := 54) rfl (fun cl_14 => ?_) (fun cl_14 => ?_)
            · refine Rn.iinc (k := 69) (v := nI (k + 1)) rfl rfl (nI_1 k) (by decide) rfl ?_
              refine Rn.goto (k := 70) rfl ?_
              refine Rn.forget (ls' := [some (.ref (kb)), some (.ref (b)), none, some (.ref (kb + 2)), some (.int (f)), some (.int (o)), some (.int (u)), some (.int (nI (k + 1))), none]) (by intro i v h; match i, h with | 0, h => exact h | 1, h => exact h | 2, h => (cases h) | 3, h => exact h | 4, h => exact h | 5, h => exact h | 6, h => exact h | 7, h => exact h | 8, h => (cases h) | n + 9, h => (cases h)) ?_
              exact ih (k + 1) (f) Q (by omega) (by omega) (by first | with_reducible assumption | exact inc_nn hf (by with_reducible assumption)) (by first | with_reducible assumption | (exact hq) | (exact upd_in (hw8 _ (in_lt (by with_reducible assumption)) (by with_reducible assumption)) hq) | (exact upd_in (hw9 _ (in_lt (by with_reducible assumption)) (by with_reducible assumption)) hq)) (by have e : l_climbi2 K P o u (n + 1) k (f) (Q) = l_climbi2 K P o u n (k + 1) (f) (Q) := (by simp only [l_climbi2, if_neg cl_1, if_pos cl_4, if_neg cl_12, if_pos cl_13, if_pos cl_14]); rw [e] at hc; exact hc)
            · refine Rn.aload_n (k := 55) rfl rfl ?_
              refine Rn.iload (k := 56) rfl rfl ?_
              refine Rn.aload_n (k := 57) rfl rfl ?_
              refine Rn.iload (k := 58) rfl rfl ?_
              refine Rn.iald (k := 59) rfl ((hK.put Q rfl).c 2 (q := kb + 2) rfl rfl) (by first | with_reducible assumption | with_reducible exact hw8 _ (in_lt (by with_reducible assumption)) (by with_reducible assumption) | with_reducible exact hw9 _ (in_lt (by with_reducible assumption)) (by with_reducible assumption) | with_reducible exact in_of hf (by with_reducible assumption)) ?_
              refine Rn.iconst (k := 60) (v := 1) rfl (by decide) ?_
              refine Rn.iadd (k := 61) rfl ?_
              refine Rn.iast (k := 62) rfl ((hK.put Q rfl).four (q := kb + 2) 2 rfl) ((hK.put Q rfl).c 2 (q := kb + 2) rfl rfl) (by first | with_reducible assumption | with_reducible exact hw8 _ (in_lt (by with_reducible assumption)) (by with_reducible assumption) | with_reducible exact hw9 _ (in_lt (by with_reducible assumption)) (by with_reducible assumption) | with_reducible exact in_of hf (by with_reducible assumption)) ?_
              obtain ⟨Pl_15, ePl_15⟩ : ∃ Q0 : Pic, Q0 = pcI Q 2 (upd (Q.1 2) ((P.1 8 (u).toNatClampNeg) : Int32).toNatClampNeg ((Q.1 2 (u).toNatClampNeg) + 1)) := ⟨_, rfl⟩
              rw [(hK.put Q rfl).w Pl_15 2 (q := kb + 2) rfl (Nat.le_of_ble_eq_true rfl) (by rw [ePl_15]; rfl), knC_WW]
              have hPl_15 := hK.put Pl_15 rfl
              have hOl_16 := hP.off (C := knC) (b := kb) (X := Pl_15) (by first | exact hdis | exact Or.symm hdis | omega)
              refine Rn.aload_n (k := 63) rfl rfl ?_
              refine Rn.getf (k := 64) rfl (hPl_15.four (q := kb) 0 rfl) (hPl_15.c 0 (q := kb) rfl rfl) rfl ?_
              refine Rn.iload (k := 65) rfl rfl ?_
              refine Rn.iload (k := 66) rfl rfl ?_
              refine Rn.iast (k := 67) rfl (hPl_15.four (q := kb + 3) 3 rfl) (hPl_15.c 3 (q := kb + 3) rfl rfl) (by first | with_reducible assumption | with_reducible exact hw8 _ (in_lt (by with_reducible assumption)) (by with_reducible assumption) | with_reducible exact hw9 _ (in_lt (by with_reducible assumption)) (by with_reducible assumption) | with_reducible exact in_of hf (by with_reducible assumption)) ?_
              obtain ⟨Pl_17, ePl_17⟩ : ∃ Q0 : Pic, Q0 = pcI Pl_15 3 (upd (Pl_15.1 3) (f : Int32).toNatClampNeg (P.1 8 (u).toNatClampNeg)) := ⟨_, rfl⟩
              rw [hPl_15.w Pl_17 3 (q := kb + 3) rfl (Nat.le_of_ble_eq_true rfl) (by rw [ePl_17]; rfl), knC_WW]
              have hPl_17 := hK.put Pl_17 rfl
              have hOl_18 := hP.off (C := knC) (b := kb) (X := Pl_17) (by first | exact hdis | exact Or.symm hdis | omega)
              refine Rn.iinc (k := 68) (v := (f + 1)) rfl rfl rfl (by decide) rfl ?_
              refine Rn.iinc (k := 69) (v := nI (k + 1)) rfl rfl (nI_1 k) (by decide) rfl ?_
              refine Rn.goto (k := 70) rfl ?_
              refine Rn.forget (ls' := [some (.ref (kb)), some (.ref (b)), none, some (.ref (kb + 2)), some (.int ((f + 1))), some (.int (o)), some (.int (u)), some (.int (nI (k + 1))), none]) (by intro i v h; match i, h with | 0, h => exact h | 1, h => exact h | 2, h => (cases h) | 3, h => exact h | 4, h => exact h | 5, h => exact h | 6, h => exact h | 7, h => exact h | 8, h => (cases h) | n + 9, h => (cases h)) ?_
              exact ih (k + 1) ((f + 1)) Pl_17 (by omega) (by omega) (by first | with_reducible assumption | exact inc_nn hf (by with_reducible assumption)) (by first | with_reducible assumption | (rw [ePl_17]; rw [ePl_15]; exact hq) | (rw [ePl_17]; rw [ePl_15]; exact upd_in (hw8 _ (in_lt (by with_reducible assumption)) (by with_reducible assumption)) hq) | (rw [ePl_17]; rw [ePl_15]; exact upd_in (hw9 _ (in_lt (by with_reducible assumption)) (by with_reducible assumption)) hq)) (by have e : l_climbi2 K P o u (n + 1) k (f) (Q) = l_climbi2 K P o u n (k + 1) ((f + 1)) (Pl_17) := (by rw [ePl_17]; rw [ePl_15]; simp only [l_climbi2, if_neg cl_1, if_pos cl_4, if_neg cl_12, if_pos cl_13, if_neg cl_14]); rw [e] at hc; exact hc)
def l_climbo2 (K : Pic) (P : Pic)  : Nat → Nat → Int32 → Pic → Int32 × Pic
  | 0, k, f, Q => (f, Q)
  | n + 1, k, f, Q => (if f ≤ nI k then (f, Q) else (if 16 ≤ nI k then (f, Q) else l_climbo2 K P n (k + 1) ((l_climbi2 K P (nI k) ((Q.1 3 (nI k).toNatClampNeg)) 17 0 (f) Q).1) (((l_climbi2 K P (nI k) ((Q.1 3 (nI k).toNatClampNeg)) 17 0 (f) Q).2))))
set_option maxHeartbeats 4000000 in
set_option maxRecDepth 20000 in
theorem c_climbo2 {d kc ks : Nat} {rv : Option Value} {S' : Sg} {S : Sg} {kb : Nat} {b : Nat} {K : Pic} {P : Pic} (hK : pcAt_ knC S kb K) (hP : pcAt_ ppC S b P)   (hdis : kb + 4 ≤ b ∨ b + 12 ≤ kb) (hw8 : ∀ i : Nat, i < 16 → ¬ P.1 8 i = -1 → vp_in (P.1 8 i) 16) (hw9 : ∀ i : Nat, i < 16 → ¬ P.1 9 i = -1 → vp_in (P.1 9 i) 16) (hd : 1 ≤ d) : ∀ (n k : Nat) (f : Int32) (Q : Pic), 16 - k < n → k ≤ 16 → (¬ f < 0) → (∀ j, j < 16 → vp_in (Q.1 3 j) 16) → ((¬ (l_climbo2 K P n k (f) (Q)).1 < 0) → (∀ j, j < 16 → vp_in ((l_climbo2 K P n k (f) (Q)).2.1 3 j) 16) → Rn d kc ks mX3_climb 73 [some (.ref (kb)), some (.ref (b)), none, some (.ref (kb + 2)), some (.int ((l_climbo2 K P n k (f) (Q)).1)), none, none, none, none] [] (pcW knC S kb (l_climbo2 K P n k (f) (Q)).2) rv S') → Rn d kc ks mX3_climb 16 [some (.ref (kb)), some (.ref (b)), none, some (.ref (kb + 2)), some (.int (f)), some (.int (nI k)), none, none, none] [] (pcW knC S kb Q) rv S' := by
  intro n
  induction n with
  | zero => intro k f Q h; exact absurd h (Nat.not_lt_zero _)
  | succ n ih =>
    intro k f Q hm hkN hf hq hc
    have hZP := hP.off (C := knC) (b := kb) (X := Q) (by first | exact hdis | exact Or.symm hdis | omega)
    refine Rn.iload (k := 16) rfl rfl ?_
    refine Rn.iload (k := 17) rfl rfl ?_
    refine Rn.icmp_ge (k := 18) rfl (fun cl_1 => ?_) (fun cl_1 => ?_)
    · refine Rn.forget (ls' := [some (.ref (kb)), some (.ref (b)), none, some (.ref (kb + 2)), some (.int (f)), none, none, none, none]) (by intro i v h; match i, h with | 0, h => exact h | 1, h => exact h | 2, h => (cases h) | 3, h => exact h | 4, h => exact h | 5, h => (cases h) | 6, h => (cases h) | 7, h => (cases h) | 8, h => (cases h) | n + 9, h => (cases h)) ?_
      exact (by have e : l_climbo2 K P (n + 1) k (f) (Q) = (f, Q) := (by simp only [l_climbo2, if_pos cl_1]); rw [e] at hc; exact hc (by first | with_reducible assumption | exact inc_nn hf (by with_reducible assumption)) (by first | with_reducible assumption | (exact hq) | (exact upd_in (hw8 _ (in_lt (by with_reducible assumption)) (by with_reducible assumption)) hq) | (exact upd_in (hw9 _ (in_lt (by with_reducible assumption)) (by with_reducible assumption)) hq)))
    · refine Rn.iload (k := 19) rfl rfl ?_
      refine Rn.bipush (k := 20) (v := 16) rfl (by decide) ?_
      refine Rn.icmp_ge (k := 21) rfl (fun cl_2 => ?_) (fun cl_2 => ?_)
      · refine Rn.forget (ls' := [some (.ref (kb)), some (.ref (b)), none, some (.ref (kb + 2)), some (.int (f)), none, none, none, none]) (by intro i v h; match i, h with | 0, h => exact h | 1, h => exact h | 2, h => (cases h) | 3, h => exact h | 4, h => exact h | 5, h => (cases h) | 6, h => (cases h) | 7, h => (cases h) | 8, h => (cases h) | n + 9, h => (cases h)) ?_
        exact (by have e : l_climbo2 K P (n + 1) k (f) (Q) = (f, Q) := (by simp only [l_climbo2, if_neg cl_1, if_pos cl_2]); rw [e] at hc; exact hc (by first | with_reducible assumption | exact inc_nn hf (by with_reducible assumption)) (by first | with_reducible assumption | (exact hq) | (exact upd_in (hw8 _ (in_lt (by with_reducible assumption)) (by with_reducible assumption)) hq) | (exact upd_in (hw9 _ (in_lt (by with_reducible assumption)) (by with_reducible assumption)) hq)))
      · have hltl_3 : k < 16 := Nat.lt_of_not_le (fun q => cl_2 (by exact nI_le q (by omega)))
        have hinl_4 : vp_in (nI k) 16 := vp_in_nI (by omega) (by decide)
        refine Rn.aload_n (k := 22) rfl rfl ?_
        refine Rn.getf (k := 23) rfl ((hK.put Q rfl).four (q := kb) 0 rfl) ((hK.put Q rfl).c 0 (q := kb) rfl rfl) rfl ?_
        refine Rn.iload (k := 24) rfl rfl ?_
        refine Rn.iald (k := 25) rfl ((hK.put Q rfl).c 3 (q := kb + 3) rfl rfl) (by first | with_reducible assumption) ?_
        refine Rn.istore (k := 26) rfl (by decide) rfl ?_
        refine Rn.iconst (k := 27) (v := 0) rfl (by decide) ?_
        refine Rn.istore (k := 28) rfl (by decide) rfl ?_
        refine Rn.forget (ls' := [some (.ref (kb)), some (.ref (b)), none, some (.ref (kb + 2)), some (.int (f)), some (.int (nI k)), some (.int ((Q.1 3 (nI k).toNatClampNeg))), some (.int (nI 0)), none]) (by intro i v h; match i, h with | 0, h => exact h | 1, h => exact h | 2, h => (cases h) | 3, h => exact h | 4, h => exact h | 5, h => exact h | 6, h => exact h | 7, h => exact h | 8, h => (cases h) | n + 9, h => (cases h)) ?_
        refine c_climbi2 hK hP (nI k) ((Q.1 3 (nI k).toNatClampNeg)) hdis hw8 hw9 (hq _ (in_lt (by with_reducible assumption))) (by first | decide | omega) 17 0 (f) Q (by omega) (Nat.zero_le _) hf hq (fun hIl_5 hIl_6 => ?_)
        obtain ⟨Pl_7, ePl_7⟩ : ∃ Q0 : Pic, Q0 = (l_climbi2 K P (nI k) ((Q.1 3 (nI k).toNatClampNeg)) 17 0 (f) Q).2 := ⟨_, rfl⟩
        rw [← ePl_7]
        have hPl_7 := hK.put Pl_7 rfl
        (try rw [← ePl_7] at hIl_5)
        (try rw [← ePl_7] at hIl_6)
        have hOl_8 := hP.off (C := knC) (b := kb) (X := Pl_7) (by first | exact hdis | exact Or.symm hdis | omega)
        refine Rn.iinc (k := 71) (v := nI (k + 1)) rfl rfl (nI_1 k) (by decide) rfl ?_
        refine Rn.goto (k := 72) rfl ?_
        refine Rn.forget (ls' := [some (.ref (kb)), some (.ref (b)), none, some (.ref (kb + 2)), some (.int ((l_climbi2 K P (nI k) ((Q.1 3 (nI k).toNatClampNeg)) 17 0 (f) Q).1)), some (.int (nI (k + 1))), none, none, none]) (by intro i v h; match i, h with | 0, h => exact h | 1, h => exact h | 2, h => (cases h) | 3, h => exact h | 4, h => exact h | 5, h => exact h | 6, h => (cases h) | 7, h => (cases h) | 8, h => (cases h) | n + 9, h => (cases h)) ?_
        exact ih (k + 1) ((l_climbi2 K P (nI k) ((Q.1 3 (nI k).toNatClampNeg)) 17 0 (f) Q).1) Pl_7 (by omega) (by omega) (by first | with_reducible assumption | exact inc_nn hf (by with_reducible assumption)) (by first | with_reducible assumption | (rw [ePl_7]; exact hq) | (rw [ePl_7]; exact upd_in (hw8 _ (in_lt (by with_reducible assumption)) (by with_reducible assumption)) hq) | (rw [ePl_7]; exact upd_in (hw9 _ (in_lt (by with_reducible assumption)) (by with_reducible assumption)) hq)) (by have e : l_climbo2 K P (n + 1) k (f) (Q) = l_climbo2 K P n (k + 1) ((l_climbi2 K P (nI k) ((Q.1 3 (nI k).toNatClampNeg)) 17 0 (f) Q).1) (Pl_7) := (by rw [ePl_7]; simp only [l_climbo2, if_neg cl_1, if_neg cl_2]); rw [e] at hc; exact hc)
def w_climb2 (K : Pic) (P : Pic) (s : Int32) : Pic := (let P_1 : Pic := pcI K 2 ((w_fill (fun _ => K.1 2, fun _ _ => 0, fun _ _ => none) (-1)).1 0); let P_3 : Pic := pcI P_1 2 (upd (P_1.1 2) (s : Int32).toNatClampNeg 0); let P_5 : Pic := pcI P_3 3 (upd (P_3.1 3) (0 : Int32).toNatClampNeg s); let P_9 : Pic := (l_climbo2 K P  17 0 (1) P_5).2; P_9)
set_option maxRecDepth 20000 in
theorem rX3_climb_2 {S : Sg} {kb : Nat} {b : Nat} {K : Pic} {P : Pic} (hK : pcAt_ knC S kb K) (hP : pcAt_ ppC S b P)  (s : Int32) (hdis : kb + 4 ≤ b ∨ b + 12 ≤ kb) (hw8 : ∀ i : Nat, i < 16 → ¬ P.1 8 i = -1 → vp_in (P.1 8 i) 16) (hw9 : ∀ i : Nat, i < 16 → ¬ P.1 9 i = -1 → vp_in (P.1 9 i) 16) (h_s : vp_in s 16) (hq : ∀ j, j < 16 → vp_in (K.1 3 j) 16) : Rn 2 0 0 mX3_climb 0 [some (.ref (kb)), some (.ref (b)), some (.int (s)), some (.ref (kb + 2)), none, none, none, none, none] [] S none (pcW knC S kb (w_climb2 K P s)) := by
  refine Rn.aload_n (k := 0) rfl rfl ?_
  refine Rn.iconst (k := 1) (v := (-1)) rfl (by decide) ?_
  refine Rn.callS0 (k := 2) (M' := mJ7_fill_53178) rfl lkX3_21 rfl (kfill (hK.four (q := kb + 2) 2 rfl) (hK.c 2 (q := kb + 2) rfl rfl) ((-1))) (by first | decide | omega) rfl rfl (Nat.le_of_ble_eq_true rfl) ?_
  obtain ⟨P_1, eP_1⟩ : ∃ Q0 : Pic, Q0 = pcI K 2 ((w_fill (fun _ => K.1 2, fun _ _ => 0, fun _ _ => none) (-1)).1 0) := ⟨_, rfl⟩
  rw [hK.w P_1 2 (q := kb + 2) rfl (Nat.le_of_ble_eq_true rfl) (by rw [eP_1]; rfl)]
  have hP_1 := hK.put P_1 rfl
  have hO_2 := hP.off (C := knC) (b := kb) (X := P_1) (by first | exact hdis | exact Or.symm hdis | omega)
  refine Rn.aload_n (k := 3) rfl rfl ?_
  refine Rn.iload_n (k := 4) rfl rfl ?_
  refine Rn.iconst (k := 5) (v := 0) rfl (by decide) ?_
  refine Rn.iast (k := 6) rfl (hP_1.four (q := kb + 2) 2 rfl) (hP_1.c 2 (q := kb + 2) rfl rfl) (by first | with_reducible assumption) ?_
  obtain ⟨P_3, eP_3⟩ : ∃ Q0 : Pic, Q0 = pcI P_1 2 (upd (P_1.1 2) (s : Int32).toNatClampNeg 0) := ⟨_, rfl⟩
  rw [hP_1.w P_3 2 (q := kb + 2) rfl (Nat.le_of_ble_eq_true rfl) (by rw [eP_3]; rfl), knC_WW]
  have hP_3 := hK.put P_3 rfl
  have hO_4 := hP.off (C := knC) (b := kb) (X := P_3) (by first | exact hdis | exact Or.symm hdis | omega)
  refine Rn.aload_n (k := 7) rfl rfl ?_
  refine Rn.getf (k := 8) rfl (hP_3.four (q := kb) 0 rfl) (hP_3.c 0 (q := kb) rfl rfl) rfl ?_
  refine Rn.iconst (k := 9) (v := 0) rfl (by decide) ?_
  refine Rn.iload_n (k := 10) rfl rfl ?_
  refine Rn.iast (k := 11) rfl (hP_3.four (q := kb + 3) 3 rfl) (hP_3.c 3 (q := kb + 3) rfl rfl) (by first | (unfold vp_in; decide) | with_reducible assumption) ?_
  obtain ⟨P_5, eP_5⟩ : ∃ Q0 : Pic, Q0 = pcI P_3 3 (upd (P_3.1 3) (0 : Int32).toNatClampNeg s) := ⟨_, rfl⟩
  rw [hP_3.w P_5 3 (q := kb + 3) rfl (Nat.le_of_ble_eq_true rfl) (by rw [eP_5]; rfl), knC_WW]
  have hP_5 := hK.put P_5 rfl
  have hO_6 := hP.off (C := knC) (b := kb) (X := P_5) (by first | exact hdis | exact Or.symm hdis | omega)
  refine Rn.iconst (k := 12) (v := 1) rfl (by decide) ?_
  refine Rn.istore (k := 13) rfl (by decide) rfl ?_
  refine Rn.iconst (k := 14) (v := 0) rfl (by decide) ?_
  refine Rn.istore (k := 15) rfl (by decide) rfl ?_
  refine Rn.forget (ls' := [some (.ref (kb)), some (.ref (b)), none, some (.ref (kb + 2)), some (.int (1)), some (.int (nI 0)), none, none, none]) (by intro i v h; match i, h with | 0, h => exact h | 1, h => exact h | 2, h => (cases h) | 3, h => exact h | 4, h => exact h | 5, h => exact h | 6, h => (cases h) | 7, h => (cases h) | 8, h => (cases h) | n + 9, h => (cases h)) ?_
  refine c_climbo2 hK hP  hdis hw8 hw9 (by first | decide | omega) 17 0 (1) P_5 (by omega) (Nat.zero_le _) (by decide) (by rw [eP_5]; rw [eP_3]; rw [eP_1]; exact upd_in h_s hq) (fun hI_7 hI_8 => ?_)
  obtain ⟨P_9, eP_9⟩ : ∃ Q0 : Pic, Q0 = (l_climbo2 K P  17 0 (1) P_5).2 := ⟨_, rfl⟩
  rw [← eP_9]
  have hP_9 := hK.put P_9 rfl
  (try rw [← eP_9] at hI_7)
  (try rw [← eP_9] at hI_8)
  have hO_10 := hP.off (C := knC) (b := kb) (X := P_9) (by first | exact hdis | exact Or.symm hdis | omega)
  exact Rn.retw rfl rfl (by unfold w_climb2; first | done | rfl | (subst eP_1; subst eP_3; subst eP_5; subst eP_9; rfl))
theorem kX3_climb_2 {S : Sg} {kb : Nat} {b : Nat} {K : Pic} {P : Pic} (hK : pcAt_ knC S kb K) (hP : pcAt_ ppC S b P)  (s : Int32) (hdis : kb + 4 ≤ b ∨ b + 12 ≤ kb) (hw8 : ∀ i : Nat, i < 16 → ¬ P.1 8 i = -1 → vp_in (P.1 8 i) 16) (hw9 : ∀ i : Nat, i < 16 → ¬ P.1 9 i = -1 → vp_in (P.1 9 i) 16) (h_s : vp_in s 16) (hq : ∀ j, j < 16 → vp_in (K.1 3 j) 16) : Cl 2 0 0 mX3_climb [.ref kb, .ref (b), .int (s), .ref (kb + 2)] S none (pcW knC S kb (w_climb2 K P s)) := Cl.of okX3_climb (by intro i v h; match i, h with | 0, h => exact h | 1, h => exact h | 2, h => exact h | 3, h => exact h | 4, h => (cases h) | 5, h => (cases h) | 6, h => (cases h) | 7, h => (cases h) | 8, h => (cases h) | n + 9, h => (cases h)) (Nat.le_of_ble_eq_true rfl) rfl (rX3_climb_2 hK hP s hdis hw8 hw9 h_s hq)
