/-! the layer: an abstract heap of numbered cells, and runs of methods over it. Cells 0 .. 3 are cells that were there before the law (the script, two static rows, the bytes of the one text); cell k ≥ 4 is the (k - 4)th that the law made -/
abbrev Cel : Type := (FieldType × vp_A) ⊕ (Nat × List Value)
abbrev Sg : Type := List Cel
abbrev Gw : Type := Nat × Heap × (Nat → Nat) × va_G × (FieldType → ClassId)
abbrev RI : Type := Nat × Instr × Nat × List Nat
abbrev Mt : Type := MethodName × ByteArray × Nat × Option FieldType × List Nat × List RI
def xa (g : Gw) (k : Nat) : Nat := if k < 4 then g.2.2.1 k else if k < 1000000000 then g.1 + (k - 4) else g.2.2.1 (k - 1000000000)
def xv (g : Gw) : Value → Value := fun v => match v with
  | .ref k => .ref (xa g k)
  | w => w
def xr (g : Gw) (x : vp_A) : vp_A := (x.1, match x.2 with
  | .inr (.inr (.inr (.inr f))) => .inr (.inr (.inr (.inr (fun i => (f i).map (xa g)))))
  | z => z)
def xe (g : Gw) (c : Cel) : va_E := match c with
  | .inl q => .inl (g.2.2.2.2 q.1, xr g q.2)
  | .inr o => .inr (o.1, o.2.map (xv g))
/-- the cells that may be written -/
def xA (g : Gw) : Nat → Prop := fun q => g.1 ≤ q
def xH (g : Gw) (S : Sg) (H : Heap) : Prop := H.size = g.1 + (S.length - 4) ∧ 4 ≤ S.length ∧ S.length ≤ 1000000000 ∧ (∀ q : Nat, q < g.1 → H[q]? = g.2.1[q]?) ∧ ∀ (k : Nat) (c : Cel), 4 ≤ k → S[k]? = some c → va_at g.2.2.2.1 vwCl (g.1 + (k - 4), xe g c) H
def xt (g : Gw) : List (ClassId × FieldType) := [(g.2.2.2.2 .int, .int), (g.2.2.2.2 .byte, .byte), (g.2.2.2.2 .boolean, .boolean), (g.2.2.2.2 .long, .long), (g.2.2.2.2 (.object "BoughtKin$Script"), .object "BoughtKin$Script"), (g.2.2.2.2 (.object "BoughtKin$Country"), .object "BoughtKin$Country")]
def wordsText : String := "price ranks bars buy for by times if or and not born lived noble debt family side age own year mood now people done last purse kin "
/-- members of nest mates that are linked: methods, static rows -/
def nstM : List (String × Nat × MethodName) := [(RX11, 11, yX1_init), (RX1, 11, yX5_init), (RX11, 26, yX10_init), (RX8, 9, yX11_within), (RX11, 42, yX3_init), (RX11, 49, yX4_init), (RX11, 67, yX7_init), (RX0, 11, yX1_init), (RX9, 11, yX5_init), (RX2, 86, yX11_within)]
def nstF : List (String × Nat × String) := [(RX1, 66, "LEAST_TERMS"), (RX1, 69, "MOST_TERMS")]
/-- what was there before the law -/
def xO (g : Gw) (S : Sg) (U : State) : Prop :=
  (∀ (k : Nat) (ty : FieldType) (n : Nat) (f : Nat → Int32), k < 4 → S[k]? = some (.inl (ty, n, .inl f)) → va_T ty (g.2.2.1 k) n (fun j => .int (f j)) (xA g) U g.2.1) ∧
  va_Z "BoughtKin" "LEAST_TERMS" "[I" (.ref (g.2.2.1 1)) (xA g) U g.2.1 ∧ va_Z "BoughtKin" "MOST_TERMS" "[I" (.ref (g.2.2.1 2)) (xA g) U g.2.1 ∧
  va_Z "java/lang/String" "COMPACT_STRINGS" "Z" (.int 1) (xA g) U g.2.1 ∧ va_Zq "jdk/internal/util/Preconditions" "SIOOBE_FORMATTER" "Ljava/util/function/BiFunction;" (xA g) U g.2.1 ∧
  (va_O "java/lang/String" (g.2.2.1 4) (xA g) U g.2.1 ∧ va_OF "java/lang/String" "coder" "B" (.int 0) (g.2.2.1 4) (xA g) U g.2.1 ∧ va_OF "java/lang/String" "value" "[B" (.ref (g.2.2.1 3)) (g.2.2.1 4) (xA g) U g.2.1) ∧
  vk_R "BoughtKin$Tape" 28 wordsText (g.2.2.1 4) U ∧ va_AO "BoughtKin$Script" U ∧ va_AO "BoughtKin$Country" U ∧
  (∀ q ∈ nstM, va_Nw (.methodLinkNest q.1 q.2.1 q.2.2 "BoughtKin") U) ∧ (∀ q ∈ nstF, va_Nw (.fieldLinkNest q.1 q.2.1 "BoughtKin" q.2.2 "[I" "BoughtKin") U)
def xK (g : Gw) (S : Sg) (U : State) : Prop := va_K g.2.2.2.1 vwCl (xt g) U ∧ xO g S U
theorem xO.warm {g : Gw} {S : Sg} {s U : State} (hW : s.WarmedH U.vm) (h : xO g S s) : xO g S U := by
  have hA := hW.alike
  obtain ⟨h1, h2, h3, h4, h5, ⟨h6, h7, h8⟩, h9, ha, hb, hm, hf⟩ := h
  refine ⟨fun k ty n f hk hS => va_T.moved hA (h1 k ty n f hk hS), va_Z.moved hA h2, va_Z.moved hA h3, va_Z.moved hA h4, ?_, ⟨va_O.moved hA h6, va_OF.moved hA h7, va_OF.moved hA h8⟩, vk_R.warm hW h9, va_AO.moved hA ha, va_AO.moved hA hb, fun q hq => va_Nw.warmM hW (hm q hq), fun q hq => va_Nw.warmF hW (hf q hq)⟩
  rcases h5 with h | ⟨t, h⟩
  · exact Or.inl (va_Z.moved hA h)
  · exact Or.inr ⟨t, va_Z.moved hA h⟩
theorem xK.warm {g : Gw} {S : Sg} {s U : State} (hW : s.WarmedH U.vm) (h : xK g S s) : xK g S U := ⟨va_K.moved hW.alike h.1, h.2.warm hW⟩
theorem xO.eqS {g : Gw} {S S' : Sg} {U : State} (h : xO g S U) (he : ∀ k, k < 4 → S'[k]? = S[k]?) : xO g S' U := ⟨fun k ty n f hk hS => h.1 k ty n f hk (by rw [← he k hk]; exact hS), h.2⟩
theorem xK.eqS {g : Gw} {S S' : Sg} {U : State} (h : xK g S U) (he : ∀ k, k < 4 → S'[k]? = S[k]?) : xK g S' U := ⟨h.1, h.2.eqS he⟩
/-- one text of the words for all methods: the whole table, but for words that don't stay -/
def wT : List Cond := lw_tbl.filter goodWord
theorem wT_mem {w : Cond} (i : Nat) (h : lw_tbl[i]? = some w) (hg : goodWord w = true) : w ∈ wT := List.mem_filter.mpr ⟨List.mem_of_getElem? h, hg⟩
theorem wT_good {w : Cond} (h : w ∈ wT) : (w.onTables && w.keeps) = true ∨ ∃ ty, w = .arrayClass ty := good_of_word (List.mem_filter.mp h).2
abbrev wsM (M : Mt) : List Cond := Cond.code M.1 M.2.1 M.2.2.1 M.2.2.2.1 :: wT
def pcAt (M : Mt) (k : Nat) : Nat := match M.2.2.2.2.2[k]? with
  | some e => e.1
  | none => 0
theorem wT_app {w : Cond} (h : w ∈ tables_1) (hg : goodWord w = true) : w ∈ wT := List.mem_filter.mpr ⟨List.mem_append_right _ h, hg⟩
theorem memT1 {w : Cond} (j : Nat) (h : tables_1_1[j]? = some w) (hg : goodWord w = true) : w ∈ wT := wT_app (List.mem_append_left _ (List.mem_of_getElem? h)) hg
theorem memT2 {w : Cond} (j : Nat) (h : tables_1_2[j]? = some w) (hg : goodWord w = true) : w ∈ wT := wT_app (List.mem_append_right _ (List.mem_append_left _ (List.mem_of_getElem? h))) hg
theorem memT3 {w : Cond} (j : Nat) (h : tables_1_3[j]? = some w) (hg : goodWord w = true) : w ∈ wT := wT_app (List.mem_append_right _ (List.mem_append_right _ (List.mem_append_left _ (List.mem_of_getElem? h)))) hg
theorem memT4 {w : Cond} (j : Nat) (h : tables_1_4[j]? = some w) (hg : goodWord w = true) : w ∈ wT := wT_app (List.mem_append_right _ (List.mem_append_right _ (List.mem_append_right _ (List.mem_append_left _ (List.mem_of_getElem? h))))) hg
theorem memT5 {w : Cond} (j : Nat) (h : tables_1_5[j]? = some w) (hg : goodWord w = true) : w ∈ wT := wT_app (List.mem_append_right _ (List.mem_append_right _ (List.mem_append_right _ (List.mem_append_right _ (List.mem_append_left _ (List.mem_of_getElem? h)))))) hg
theorem memT6 {w : Cond} (j : Nat) (h : tables_1_6[j]? = some w) (hg : goodWord w = true) : w ∈ wT := wT_app (List.mem_append_right _ (List.mem_append_right _ (List.mem_append_right _ (List.mem_append_right _ (List.mem_append_right _ (List.mem_append_left _ (List.mem_of_getElem? h))))))) hg
theorem memT7 {w : Cond} (j : Nat) (h : tables_1_7[j]? = some w) (hg : goodWord w = true) : w ∈ wT := wT_app (List.mem_append_right _ (List.mem_append_right _ (List.mem_append_right _ (List.mem_append_right _ (List.mem_append_right _ (List.mem_append_right _ (List.mem_append_left _ (List.mem_of_getElem? h)))))))) hg
theorem memT8 {w : Cond} (j : Nat) (h : tables_1_8[j]? = some w) (hg : goodWord w = true) : w ∈ wT := wT_app (List.mem_append_right _ (List.mem_append_right _ (List.mem_append_right _ (List.mem_append_right _ (List.mem_append_right _ (List.mem_append_right _ (List.mem_append_right _ (List.mem_of_getElem? h)))))))) hg
def ckW (j : Nat) (w : Cond) : Bool := decide (lw_tbl[j]? = some w) && goodWord w
theorem ckW_mem {j : Nat} {w : Cond} (h : ckW j w = true) : w ∈ wT := by
  simp only [ckW, Bool.and_eq_true, decide_eq_true_eq] at h
  exact wT_mem j h.1 h.2
def clsN (n : Nat) : String := match vwCl[n]? with
  | some q => q.1
  | none => ""
def cnM (M : Mt) : Nat := M.2.2.2.2.1.getD 0 99
/-- what the program looks at in an entry: fields by (class, field, place in FL), jumps by the entry's number -/
def ckL (M : Mt) (e : RI) : Bool := match e.2.1, e.2.2.2 with
  | .getfield i, [ci, fk, j] => (match FL[j]? with
      | some q => q.1 == cnM M && (q.2.1 == i && (q.2.2.1 == ci && q.2.2.2.1 == fk))
      | none => false)
  | .putfield i, [ci, fk, j] => (match FL[j]? with
      | some q => q.1 == cnM M && (q.2.1 == i && (q.2.2.1 == ci && q.2.2.2.1 == fk))
      | none => false)
  | .new i, [ci, j1, j2, j3] => (match vwCl[ci]? with
      | some q => ckW j1 (.classLink M.1.cls i q.1) && (ckW j2 (.instantiable q.1 q.2.2) && ckW j3 (.initialized q.1))
      | none => false)
  | .if_icmp _ off, [t] => decide ((e.1 : Int) + off = (pcAt M t : Int))
  | .ifCond _ off, [t] => decide ((e.1 : Int) + off = (pcAt M t : Int))
  | .goto off, [t] => decide ((e.1 : Int) + off = (pcAt M t : Int))
  | .ifnonnull off, [t] => decide ((e.1 : Int) + off = (pcAt M t : Int))
  | .getfield _, _ => false
  | .putfield _, _ => false
  | .new _, _ => false
  | .if_icmp _ _, _ => false
  | .ifCond _ _, _ => false
  | .goto _, _ => false
  | .ifnonnull _, _ => false
  | _, _ => true
def isTerm (i : Instr) : Bool := match i with
  | .goto _ => true
  | .ireturn => true
  | .lreturn => true
  | .areturn => true
  | .return_ => true
  | .athrow => true
  | .tableswitch _ _ _ _ => true
  | .lookupswitch _ _ => true
  | _ => false
def ckE (M : Mt) (k : Nat) (e : RI) : Bool := decide (decode M.2.1 e.1 = .ok (e.2.1, e.2.2.1)) && (ckL M e && (match M.2.2.2.2.2[k + 1]? with
  | some e2 => e2.1 == e.1 + e.2.2.1
  | none => isTerm e.2.1))
/-- the entries lo .. lo + n - 1 -/
def ckR (M : Mt) (lo n : Nat) : Bool := (List.range n).all (fun k => match M.2.2.2.2.2[lo + k]? with
  | some e => ckE M (lo + k) e
  | none => true)
/-- of the method itself: its name is plain, its room is small, its code stands among the words; how it is called -/
def ckM (M : Mt) : Bool := plainName M.1.cls && (decide (M.2.2.1 ≤ 22) && (decide (M.1.cls ≠ "java/lang/invoke/MethodHandle" ∧ M.1.cls ≠ "java/lang/invoke/VarHandle") && (match M.2.2.2.2.1 with
  | _ :: j2 :: n :: kd :: j3 :: js => ckW j2 (.initialized M.1.cls) && (decide ((parseMethodDescriptor M.1.desc).map (fun d => d.parameters.length) = some n) && (match kd, js with
      | 0, [j4] => ckW j3 (.instanceMethod M.1) && ckW j4 (.selects M.1.cls M.1 M.1)
      | 1, [] => ckW j3 (.static M.1)
      | 2, [] => ckW j3 (.instanceMethod M.1) && (decide (M.1.name = "<init>") && decide (M.2.2.2.1 = none))
      | _, _ => false))
  | _ => false)))
def okM (M : Mt) : Prop := (cnM M = 99 ∨ clsN (cnM M) = M.1.cls) ∧ ∀ (k : Nat) (e : RI), M.2.2.2.2.2[k]? = some e → ckE M k e = true
def okC (M : Mt) : Prop := ckM M = true ∧ Cond.code M.1 M.2.1 M.2.2.1 M.2.2.2.1 ∈ wT ∧ okM M
def nPar (M : Mt) : Nat := M.2.2.2.2.1.getD 2 0
def kindM (M : Mt) : Nat := M.2.2.2.2.1.getD 3 9
/-- out of chunks of 40 -/
theorem okM.of {M : Mt} {n : Nat} (hc : cnM M = 99 ∨ clsN (cnM M) = M.1.cls) (hl : M.2.2.2.2.2.length ≤ 40 * n) (h : ∀ j, j < n → ckR M (40 * j) 40 = true) : okM M := by
  refine ⟨hc, fun k e he => ?_⟩
  have hk : k < M.2.2.2.2.2.length := (List.getElem?_eq_some_iff.mp he).1
  have h1 := List.all_eq_true.mp (h (k / 40) (by omega)) (k % 40) (List.mem_range.mpr (by omega))
  rw [show 40 * (k / 40) + k % 40 = k by omega, he] at h1
  exact h1
theorem okC.facts {M : Mt} (h : okC M) : plainName M.1.cls = true ∧ M.2.2.1 ≤ 22 ∧ (M.1.cls ≠ "java/lang/invoke/MethodHandle" ∧ M.1.cls ≠ "java/lang/invoke/VarHandle") ∧ Cond.code M.1 M.2.1 M.2.2.1 M.2.2.2.1 ∈ wT ∧ Cond.initialized M.1.cls ∈ wT ∧ (parseMethodDescriptor M.1.desc).map (fun d => d.parameters.length) = some (nPar M) ∧
    (kindM M = 0 → Cond.instanceMethod M.1 ∈ wT ∧ Cond.selects M.1.cls M.1 M.1 ∈ wT) ∧ (kindM M = 1 → Cond.static M.1 ∈ wT) ∧ (kindM M = 2 → Cond.instanceMethod M.1 ∈ wT ∧ M.1.name = "<init>" ∧ M.2.2.2.1 = none) := by
  have h1 := h.1
  obtain ⟨y, bs, ml, rt, ix, tb⟩ := M
  simp only [ckM, Bool.and_eq_true, decide_eq_true_eq] at h1
  obtain ⟨a1, a2, a3, h1⟩ := h1
  refine ⟨a1, a2, a3, ?_⟩
  match ix, h1 with
  | cn :: j2 :: n :: kd :: j3 :: js, h1 =>
    simp only [Bool.and_eq_true, decide_eq_true_eq] at h1
    obtain ⟨b2, b3, h1⟩ := h1
    refine ⟨h.2.1, ckW_mem b2, b3, fun hk => ?_, fun hk => ?_, fun hk => ?_⟩
    · have hk : kd = 0 := hk
      subst hk
      match js, h1 with
      | [j4], h1 =>
        simp only [Bool.and_eq_true] at h1
        exact ⟨ckW_mem h1.1, ckW_mem h1.2⟩
    · have hk : kd = 1 := hk
      subst hk
      match js, h1 with
      | [], h1 => exact ckW_mem h1
    · have hk : kd = 2 := hk
      subst hk
      match js, h1 with
      | [], h1 =>
        simp only [Bool.and_eq_true, decide_eq_true_eq] at h1
        exact ⟨ckW_mem h1.1, h1.2.1, h1.2.2⟩
theorem okM.entry {M : Mt} (h : okM M) {k : Nat} {e : RI} (he : M.2.2.2.2.2[k]? = some e) : decode M.2.1 e.1 = .ok (e.2.1, e.2.2.1) ∧ ckL M e = true ∧ pcAt M k = e.1 ∧ (isTerm e.2.1 = false → pcAt M (k + 1) = e.1 + e.2.2.1) := by
  have h1 := h.2 k e he
  simp only [ckE, Bool.and_eq_true, decide_eq_true_eq] at h1
  refine ⟨h1.1, h1.2.1, by rw [pcAt, he], fun hk2 => ?_⟩
  have h2 := h1.2.2
  cases e3 : M.2.2.2.2.2[k + 1]? with
  | none => rw [e3] at h2; rw [hk2] at h2; cases h2
  | some e2 =>
    rw [e3] at h2
    simp only [beq_iff_eq] at h2
    rw [pcAt, e3]
    exact h2
/-- the locals -/
def xL (g : Gw) (la : Array Slot) (nL : Nat) (ls : List (Option Value)) : Prop := la.size = nL ∧ lv_wf la ∧ ∀ (i : Nat) (v : Value), ls[i]? = some (some v) → la[i]? = some (.val (xv g v))
def xp (g : Gw) (ls : List (Option Value)) : List (Nat × Value) := ls.zipIdx.filterMap (fun q => q.1.map (fun v => (q.2, xv g v)))
theorem xp_mem {g : Gw} {ls : List (Option Value)} {q : Nat × Value} : q ∈ xp g ls ↔ ∃ v, ls[q.1]? = some (some v) ∧ q.2 = xv g v := by
  simp only [xp, List.mem_filterMap]
  constructor
  · rintro ⟨x, hx, hq⟩
    obtain ⟨o, i⟩ := x
    have hx := List.mem_zipIdx_iff_getElem?.mp hx
    simp only at hx hq
    cases o with
    | none => simp at hq
    | some v =>
      simp only [Option.map_some, Option.some.injEq] at hq
      subst hq
      exact ⟨v, hx, rfl⟩
  · rintro ⟨v, hv, he⟩
    exact ⟨(some v, q.1), List.mem_zipIdx_iff_getElem?.mpr hv, by simp [← he]⟩
theorem xL.has {g : Gw} {la : Array Slot} {nL : Nat} {ls : List (Option Value)} (h : xL g la nL ls) : lv_has la nL (xp g ls) := ⟨h.1, h.2.1, fun q hq => by
  obtain ⟨v, hv, he⟩ := xp_mem.mp hq
  rw [he]
  exact h.2.2 _ _ hv⟩
theorem xv_cat (g : Gw) (v : Value) : (xv g v).category = v.category := by cases v <;> rfl
/-- a local that can be written: the one below isn't a long -/
def okS (ls : List (Option Value)) (i : Nat) : Bool := match i with
  | 0 => true
  | j + 1 => match ls[j]? with
    | some (some v) => v.category == 1
    | _ => true
theorem xL.set1 {g : Gw} {la : Array Slot} {nL i : Nat} {ls : List (Option Value)} {v : Value} (h : lv_has la nL ((i, xv g v) :: (xp g ls).filter (fun q => !(q.1 == i) && !(q.1 + 1 == i && q.2.category == 2)))) (hk : okS ls i = true) : xL g la nL (ls.set i (some v)) := by
  refine ⟨h.1, h.2.1, fun j w hj => ?_⟩
  rw [List.getElem?_set] at hj
  by_cases hji : i = j
  · subst hji
    rw [if_pos rfl] at hj
    split at hj
    · cases hj
      exact h.2.2 (i, xv g v) List.mem_cons_self
    · cases hj
  · rw [if_neg hji] at hj
    refine h.2.2 (j, xv g w) (List.mem_cons_of_mem _ (List.mem_filter.mpr ⟨xp_mem.mpr ⟨w, hj, rfl⟩, ?_⟩))
    simp only [xv_cat, Bool.and_eq_true, Bool.not_eq_true', beq_eq_false_iff_ne, ne_eq, Bool.and_eq_false_iff]
    refine ⟨fun e => hji e.symm, ?_⟩
    by_cases h2 : j + 1 = i
    · right
      subst h2
      simp only [okS, hj, beq_iff_eq] at hk
      rw [hk]
      decide
    · left
      exact h2
theorem xL.set2 {g : Gw} {la : Array Slot} {nL i : Nat} {ls : List (Option Value)} {v : Value} (h : lv_has la nL ((i, xv g v) :: (xp g ls).filter (fun q => !(q.1 == i) && (!(q.1 == i + 1) && !(q.1 + 1 == i && q.2.category == 2))))) (hk : okS ls i = true) : xL g la nL ((ls.set i (some v)).set (i + 1) none) := by
  refine ⟨h.1, h.2.1, fun j w hj => ?_⟩
  rw [List.getElem?_set] at hj
  by_cases hj1 : i + 1 = j
  · rw [if_pos hj1] at hj
    split at hj <;> cases hj
  · rw [if_neg hj1, List.getElem?_set] at hj
    by_cases hji : i = j
    · subst hji
      rw [if_pos rfl] at hj
      split at hj
      · cases hj
        exact h.2.2 (i, xv g v) List.mem_cons_self
      · cases hj
    · rw [if_neg hji] at hj
      refine h.2.2 (j, xv g w) (List.mem_cons_of_mem _ (List.mem_filter.mpr ⟨xp_mem.mpr ⟨w, hj, rfl⟩, ?_⟩))
      simp only [xv_cat, Bool.and_eq_true, Bool.not_eq_true', beq_eq_false_iff_ne, ne_eq, Bool.and_eq_false_iff]
      refine ⟨fun e => hji e.symm, fun e => hj1 e.symm, ?_⟩
      by_cases h2 : j + 1 = i
      · right
        subst h2
        simp only [okS, hj, beq_iff_eq] at hk
        rw [hk]
        decide
      · left
        exact h2
/-- what doesn't change while a method runs -/
def xF (g : Gw) (S : Sg) (d : Nat) (M : Mt) (p : Program) (R : Room) (s : State) (m : MethodId) (args : Array Value) (meth : Method) (c : Code) : Prop :=
  p.tables.exec = Jvm.exec ∧ c.code = M.2.1 ∧ c.maxLocals = M.2.2.1 ∧ s.vm.findClass M.1.cls = some m.cls ∧ (∀ w ∈ wT, w.before args s = true) ∧ xK g S s ∧ g.1 ≤ s.heap.size ∧ d ≤ R.frames ∧ 41 * d ≤ R.locals ∧ (∀ q : Nat, q < g.1 → s.heap[q]? = g.2.1[q]?) ∧ (M.1.name = "<init>" → meth.name = "<init>")
/-- an end of the method: at a return, with this answer -/
def xR (M : Mt) (k : Nat) (r : Option Value) : Prop := ∃ e : RI, M.2.2.2.2.2[k]? = some e ∧ e.2.2.1 = 1 ∧ match r with
  | none => e.2.1 = .return_ ∧ M.2.2.2.1 = none
  | some (.int v) => e.2.1 = .ireturn ∧ ∃ ty, M.2.2.2.1 = some ty ∧ narrow ty (.int v) = .int v
  | some (.long _) => e.2.1 = .lreturn ∧ M.2.2.2.1 = some .long
  | some (.ref _) => e.2.1 = .areturn ∧ ∃ n, M.2.2.2.1 = some (.object n)
  | some .null => e.2.1 = .areturn ∧ ∃ n, M.2.2.2.1 = some (.object n)
  | some _ => False
/-- the cells that were there stay, and none goes -/
def xlow (S S' : Sg) : Prop := (∀ k, k < 4 → S'[k]? = S[k]?) ∧ S.length ≤ S'.length
theorem xlow.rf {S : Sg} : xlow S S := ⟨fun _ _ => rfl, Nat.le_refl _⟩
theorem xlow.tr {S S1 S2 : Sg} (h : xlow S S1) (h2 : xlow S1 S2) : xlow S S2 := ⟨fun k hk => (h2.1 k hk).trans (h.1 k hk), Nat.le_trans h.2 h2.2⟩
theorem xlow.st {S : Sg} {k : Nat} {c : Cel} (h4 : 4 ≤ k) : xlow S (S.set k c) := ⟨fun j hj => by rw [List.getElem?_set, if_neg (by omega)], by rw [List.length_set]; exact Nat.le_refl _⟩
theorem xlow.ap {S : Sg} {c : Cel} (h4 : 4 ≤ S.length) : xlow S (S ++ [c]) := ⟨fun j hj => List.getElem?_append_left (by omega), by rw [List.length_append]; exact Nat.le_add_right _ _⟩
/-- from entry k of M, with these locals, this stack and these cells, the method ends with the answer r and the cells S', in d frames, with at most kc new cells of ks slots -/
def Rn (d kc ks : Nat) (M : Mt) (k : Nat) (ls : List (Option Value)) (st : List Value) (S : Sg) (r : Option Value) (S' : Sg) : Prop :=
  xlow S S' ∧ (okM M → ∀ (g : Gw) (p : Program) (l : Launch) (e : Env) (R : Room) (s : State) (m : MethodId) (args : Array Value) (below : List Frame) (meth : Method) (c : Code) (Z : State → Prop),
    xF g S d M p R s m args meth c →
    (∀ (H : Heap) (locs : List Loc) (cells slots k' : Nat) (la : Array Slot), xR M k' r → xH g S' H → va_S (xA g) s.heap H locs → cells ≤ R.cells → slots ≤ R.slots → W p l e R s m args below meth c H locs cells slots Z (F0 m (pcAt M k') la ((r.map (xv g)).toList))) →
    ∀ (H : Heap) (locs : List Loc) (cells slots : Nat) (la : Array Slot), xH g S H → va_S (xA g) s.heap H locs → cells + kc ≤ R.cells → slots + ks ≤ R.slots → xL g la M.2.2.1 ls →
      W p l e R s m args below meth c H locs cells slots Z (F0 m (pcAt M k) la (st.map (xv g))))
/-- what a call of M does -/
def Cl (d kc ks : Nat) (M : Mt) (as : List Value) (S : Sg) (r : Option Value) (S' : Sg) : Prop :=
  okC M ∧ xlow S S' ∧ ∀ (g : Gw) (l : Launch), Met l M.1 (wsM M) { frames := d, cells := kc, slots := ks, locals := 41 * d } (va_Pc (as.map (xv g)) (fun U => xH g S U.heap ∧ xK g S U ∧ g.1 ≤ U.heap.size)) (fun _ _ o t => o = .returned (r.map (xv g)) ∧ xH g S' t.heap) kc ks (xA g)
