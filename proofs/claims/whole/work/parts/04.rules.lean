theorem Rn.iadd {d kc ks : Nat} {M : Mt} {k pc : Nat} {z : List Nat} {ls : List (Option Value)} {st : List Value} {S : Sg} {r : Option Value} {S' : Sg} {x y : Int32} (h : M.2.2.2.2.2[k]? = some (pc, .iadd, 1, z))  (hn : Rn d kc ks M (k + 1) ls (.int (x + y) :: st) S r S') : Rn d kc ks M k ls (.int y :: .int x :: st) S r S' := by
  refine ⟨hn.1, ?_⟩
  intro hM g p l e R s m args below meth c Z F E H locs cells slots la hP hS hc hs hl
  obtain ⟨hd, -, e1, e2⟩ := hM.entry h
  have e2 := e2 rfl
  have hn := hn.2 hM g p l e R s m args below meth c Z F E H locs cells slots la hP hS hc hs hl
  rw [e2] at hn
  rw [e1]
  exact lv_iadd F.1 F.2.1 hd hn
theorem Rn.isub {d kc ks : Nat} {M : Mt} {k pc : Nat} {z : List Nat} {ls : List (Option Value)} {st : List Value} {S : Sg} {r : Option Value} {S' : Sg} {x y : Int32} (h : M.2.2.2.2.2[k]? = some (pc, .isub, 1, z))  (hn : Rn d kc ks M (k + 1) ls (.int (x - y) :: st) S r S') : Rn d kc ks M k ls (.int y :: .int x :: st) S r S' := by
  refine ⟨hn.1, ?_⟩
  intro hM g p l e R s m args below meth c Z F E H locs cells slots la hP hS hc hs hl
  obtain ⟨hd, -, e1, e2⟩ := hM.entry h
  have e2 := e2 rfl
  have hn := hn.2 hM g p l e R s m args below meth c Z F E H locs cells slots la hP hS hc hs hl
  rw [e2] at hn
  rw [e1]
  exact lv_isub F.1 F.2.1 hd hn
theorem Rn.imul {d kc ks : Nat} {M : Mt} {k pc : Nat} {z : List Nat} {ls : List (Option Value)} {st : List Value} {S : Sg} {r : Option Value} {S' : Sg} {x y : Int32} (h : M.2.2.2.2.2[k]? = some (pc, .imul, 1, z))  (hn : Rn d kc ks M (k + 1) ls (.int (x * y) :: st) S r S') : Rn d kc ks M k ls (.int y :: .int x :: st) S r S' := by
  refine ⟨hn.1, ?_⟩
  intro hM g p l e R s m args below meth c Z F E H locs cells slots la hP hS hc hs hl
  obtain ⟨hd, -, e1, e2⟩ := hM.entry h
  have e2 := e2 rfl
  have hn := hn.2 hM g p l e R s m args below meth c Z F E H locs cells slots la hP hS hc hs hl
  rw [e2] at hn
  rw [e1]
  exact lv_imul F.1 F.2.1 hd hn
theorem Rn.iand {d kc ks : Nat} {M : Mt} {k pc : Nat} {z : List Nat} {ls : List (Option Value)} {st : List Value} {S : Sg} {r : Option Value} {S' : Sg} {x y : Int32} (h : M.2.2.2.2.2[k]? = some (pc, .iand, 1, z))  (hn : Rn d kc ks M (k + 1) ls (.int (x &&& y) :: st) S r S') : Rn d kc ks M k ls (.int y :: .int x :: st) S r S' := by
  refine ⟨hn.1, ?_⟩
  intro hM g p l e R s m args below meth c Z F E H locs cells slots la hP hS hc hs hl
  obtain ⟨hd, -, e1, e2⟩ := hM.entry h
  have e2 := e2 rfl
  have hn := hn.2 hM g p l e R s m args below meth c Z F E H locs cells slots la hP hS hc hs hl
  rw [e2] at hn
  rw [e1]
  exact lv_iand F.1 F.2.1 hd hn
theorem Rn.ior {d kc ks : Nat} {M : Mt} {k pc : Nat} {z : List Nat} {ls : List (Option Value)} {st : List Value} {S : Sg} {r : Option Value} {S' : Sg} {x y : Int32} (h : M.2.2.2.2.2[k]? = some (pc, .ior, 1, z))  (hn : Rn d kc ks M (k + 1) ls (.int (x ||| y) :: st) S r S') : Rn d kc ks M k ls (.int y :: .int x :: st) S r S' := by
  refine ⟨hn.1, ?_⟩
  intro hM g p l e R s m args below meth c Z F E H locs cells slots la hP hS hc hs hl
  obtain ⟨hd, -, e1, e2⟩ := hM.entry h
  have e2 := e2 rfl
  have hn := hn.2 hM g p l e R s m args below meth c Z F E H locs cells slots la hP hS hc hs hl
  rw [e2] at hn
  rw [e1]
  exact lv_ior F.1 F.2.1 hd hn
theorem Rn.ixor {d kc ks : Nat} {M : Mt} {k pc : Nat} {z : List Nat} {ls : List (Option Value)} {st : List Value} {S : Sg} {r : Option Value} {S' : Sg} {x y : Int32} (h : M.2.2.2.2.2[k]? = some (pc, .ixor, 1, z))  (hn : Rn d kc ks M (k + 1) ls (.int (x ^^^ y) :: st) S r S') : Rn d kc ks M k ls (.int y :: .int x :: st) S r S' := by
  refine ⟨hn.1, ?_⟩
  intro hM g p l e R s m args below meth c Z F E H locs cells slots la hP hS hc hs hl
  obtain ⟨hd, -, e1, e2⟩ := hM.entry h
  have e2 := e2 rfl
  have hn := hn.2 hM g p l e R s m args below meth c Z F E H locs cells slots la hP hS hc hs hl
  rw [e2] at hn
  rw [e1]
  exact lv_ixor F.1 F.2.1 hd hn
theorem Rn.ishl {d kc ks : Nat} {M : Mt} {k pc : Nat} {z : List Nat} {ls : List (Option Value)} {st : List Value} {S : Sg} {r : Option Value} {S' : Sg} {x y : Int32} (h : M.2.2.2.2.2[k]? = some (pc, .ishl, 1, z))  (hn : Rn d kc ks M (k + 1) ls (.int (x <<< (y &&& 31)) :: st) S r S') : Rn d kc ks M k ls (.int y :: .int x :: st) S r S' := by
  refine ⟨hn.1, ?_⟩
  intro hM g p l e R s m args below meth c Z F E H locs cells slots la hP hS hc hs hl
  obtain ⟨hd, -, e1, e2⟩ := hM.entry h
  have e2 := e2 rfl
  have hn := hn.2 hM g p l e R s m args below meth c Z F E H locs cells slots la hP hS hc hs hl
  rw [e2] at hn
  rw [e1]
  exact lv_ishl F.1 F.2.1 hd hn
theorem Rn.ishr {d kc ks : Nat} {M : Mt} {k pc : Nat} {z : List Nat} {ls : List (Option Value)} {st : List Value} {S : Sg} {r : Option Value} {S' : Sg} {x y : Int32} (h : M.2.2.2.2.2[k]? = some (pc, .ishr, 1, z))  (hn : Rn d kc ks M (k + 1) ls (.int (x >>> (y &&& 31)) :: st) S r S') : Rn d kc ks M k ls (.int y :: .int x :: st) S r S' := by
  refine ⟨hn.1, ?_⟩
  intro hM g p l e R s m args below meth c Z F E H locs cells slots la hP hS hc hs hl
  obtain ⟨hd, -, e1, e2⟩ := hM.entry h
  have e2 := e2 rfl
  have hn := hn.2 hM g p l e R s m args below meth c Z F E H locs cells slots la hP hS hc hs hl
  rw [e2] at hn
  rw [e1]
  exact lv_ishr F.1 F.2.1 hd hn
theorem Rn.iushr {d kc ks : Nat} {M : Mt} {k pc : Nat} {z : List Nat} {ls : List (Option Value)} {st : List Value} {S : Sg} {r : Option Value} {S' : Sg} {x y : Int32} (h : M.2.2.2.2.2[k]? = some (pc, .iushr, 1, z))  (hn : Rn d kc ks M (k + 1) ls (.int ((x.toUInt32 >>> (y.toUInt32 &&& Int32.toUInt32 31)).toInt32) :: st) S r S') : Rn d kc ks M k ls (.int y :: .int x :: st) S r S' := by
  refine ⟨hn.1, ?_⟩
  intro hM g p l e R s m args below meth c Z F E H locs cells slots la hP hS hc hs hl
  obtain ⟨hd, -, e1, e2⟩ := hM.entry h
  have e2 := e2 rfl
  have hn := hn.2 hM g p l e R s m args below meth c Z F E H locs cells slots la hP hS hc hs hl
  rw [e2] at hn
  rw [e1]
  exact lv_iushr F.1 F.2.1 hd rfl hn
theorem Rn.idiv {d kc ks : Nat} {M : Mt} {k pc : Nat} {z : List Nat} {ls : List (Option Value)} {st : List Value} {S : Sg} {r : Option Value} {S' : Sg} {x y : Int32} (h : M.2.2.2.2.2[k]? = some (pc, .idiv, 1, z)) (hne : ¬ y = 0) (hn : Rn d kc ks M (k + 1) ls (.int (x / y) :: st) S r S') : Rn d kc ks M k ls (.int y :: .int x :: st) S r S' := by
  refine ⟨hn.1, ?_⟩
  intro hM g p l e R s m args below meth c Z F E H locs cells slots la hP hS hc hs hl
  obtain ⟨hd, -, e1, e2⟩ := hM.entry h
  have e2 := e2 rfl
  have hn := hn.2 hM g p l e R s m args below meth c Z F E H locs cells slots la hP hS hc hs hl
  rw [e2] at hn
  rw [e1]
  exact lv_idiv F.1 F.2.1 hd hne hn
theorem Rn.irem {d kc ks : Nat} {M : Mt} {k pc : Nat} {z : List Nat} {ls : List (Option Value)} {st : List Value} {S : Sg} {r : Option Value} {S' : Sg} {x y : Int32} (h : M.2.2.2.2.2[k]? = some (pc, .irem, 1, z)) (hne : ¬ y = 0) (hn : Rn d kc ks M (k + 1) ls (.int (x - x / y * y) :: st) S r S') : Rn d kc ks M k ls (.int y :: .int x :: st) S r S' := by
  refine ⟨hn.1, ?_⟩
  intro hM g p l e R s m args below meth c Z F E H locs cells slots la hP hS hc hs hl
  obtain ⟨hd, -, e1, e2⟩ := hM.entry h
  have e2 := e2 rfl
  have hn := hn.2 hM g p l e R s m args below meth c Z F E H locs cells slots la hP hS hc hs hl
  rw [e2] at hn
  rw [e1]
  exact lv_irem F.1 F.2.1 hd hne hn
theorem Rn.ineg {d kc ks : Nat} {M : Mt} {k pc : Nat} {z : List Nat} {ls : List (Option Value)} {st : List Value} {S : Sg} {r : Option Value} {S' : Sg} {x : Int32} (h : M.2.2.2.2.2[k]? = some (pc, .ineg, 1, z))  (hn : Rn d kc ks M (k + 1) ls (.int (-x) :: st) S r S') : Rn d kc ks M k ls (.int x :: st) S r S' := by
  refine ⟨hn.1, ?_⟩
  intro hM g p l e R s m args below meth c Z F E H locs cells slots la hP hS hc hs hl
  obtain ⟨hd, -, e1, e2⟩ := hM.entry h
  have e2 := e2 rfl
  have hn := hn.2 hM g p l e R s m args below meth c Z F E H locs cells slots la hP hS hc hs hl
  rw [e2] at hn
  rw [e1]
  exact lv_ineg F.1 F.2.1 hd hn
theorem Rn.ladd {d kc ks : Nat} {M : Mt} {k pc : Nat} {z : List Nat} {ls : List (Option Value)} {st : List Value} {S : Sg} {r : Option Value} {S' : Sg} {x y : Int64} (h : M.2.2.2.2.2[k]? = some (pc, .ladd, 1, z))  (hn : Rn d kc ks M (k + 1) ls (.long (x + y) :: st) S r S') : Rn d kc ks M k ls (.long y :: .long x :: st) S r S' := by
  refine ⟨hn.1, ?_⟩
  intro hM g p l e R s m args below meth c Z F E H locs cells slots la hP hS hc hs hl
  obtain ⟨hd, -, e1, e2⟩ := hM.entry h
  have e2 := e2 rfl
  have hn := hn.2 hM g p l e R s m args below meth c Z F E H locs cells slots la hP hS hc hs hl
  rw [e2] at hn
  rw [e1]
  exact lv_ladd F.1 F.2.1 hd hn
theorem Rn.lsub {d kc ks : Nat} {M : Mt} {k pc : Nat} {z : List Nat} {ls : List (Option Value)} {st : List Value} {S : Sg} {r : Option Value} {S' : Sg} {x y : Int64} (h : M.2.2.2.2.2[k]? = some (pc, .lsub, 1, z))  (hn : Rn d kc ks M (k + 1) ls (.long (x - y) :: st) S r S') : Rn d kc ks M k ls (.long y :: .long x :: st) S r S' := by
  refine ⟨hn.1, ?_⟩
  intro hM g p l e R s m args below meth c Z F E H locs cells slots la hP hS hc hs hl
  obtain ⟨hd, -, e1, e2⟩ := hM.entry h
  have e2 := e2 rfl
  have hn := hn.2 hM g p l e R s m args below meth c Z F E H locs cells slots la hP hS hc hs hl
  rw [e2] at hn
  rw [e1]
  exact lv_lsub F.1 F.2.1 hd hn
theorem Rn.lmul {d kc ks : Nat} {M : Mt} {k pc : Nat} {z : List Nat} {ls : List (Option Value)} {st : List Value} {S : Sg} {r : Option Value} {S' : Sg} {x y : Int64} (h : M.2.2.2.2.2[k]? = some (pc, .lmul, 1, z))  (hn : Rn d kc ks M (k + 1) ls (.long (x * y) :: st) S r S') : Rn d kc ks M k ls (.long y :: .long x :: st) S r S' := by
  refine ⟨hn.1, ?_⟩
  intro hM g p l e R s m args below meth c Z F E H locs cells slots la hP hS hc hs hl
  obtain ⟨hd, -, e1, e2⟩ := hM.entry h
  have e2 := e2 rfl
  have hn := hn.2 hM g p l e R s m args below meth c Z F E H locs cells slots la hP hS hc hs hl
  rw [e2] at hn
  rw [e1]
  exact lv_lmul F.1 F.2.1 hd hn
theorem Rn.ldiv {d kc ks : Nat} {M : Mt} {k pc : Nat} {z : List Nat} {ls : List (Option Value)} {st : List Value} {S : Sg} {r : Option Value} {S' : Sg} {x y : Int64} (h : M.2.2.2.2.2[k]? = some (pc, .ldiv, 1, z)) (hne : ¬ y = 0) (hn : Rn d kc ks M (k + 1) ls (.long (x / y) :: st) S r S') : Rn d kc ks M k ls (.long y :: .long x :: st) S r S' := by
  refine ⟨hn.1, ?_⟩
  intro hM g p l e R s m args below meth c Z F E H locs cells slots la hP hS hc hs hl
  obtain ⟨hd, -, e1, e2⟩ := hM.entry h
  have e2 := e2 rfl
  have hn := hn.2 hM g p l e R s m args below meth c Z F E H locs cells slots la hP hS hc hs hl
  rw [e2] at hn
  rw [e1]
  exact lv_ldiv F.1 F.2.1 hd hne hn
theorem Rn.lrem {d kc ks : Nat} {M : Mt} {k pc : Nat} {z : List Nat} {ls : List (Option Value)} {st : List Value} {S : Sg} {r : Option Value} {S' : Sg} {x y : Int64} (h : M.2.2.2.2.2[k]? = some (pc, .lrem, 1, z)) (hne : ¬ y = 0) (hn : Rn d kc ks M (k + 1) ls (.long (x - x / y * y) :: st) S r S') : Rn d kc ks M k ls (.long y :: .long x :: st) S r S' := by
  refine ⟨hn.1, ?_⟩
  intro hM g p l e R s m args below meth c Z F E H locs cells slots la hP hS hc hs hl
  obtain ⟨hd, -, e1, e2⟩ := hM.entry h
  have e2 := e2 rfl
  have hn := hn.2 hM g p l e R s m args below meth c Z F E H locs cells slots la hP hS hc hs hl
  rw [e2] at hn
  rw [e1]
  exact lv_lrem F.1 F.2.1 hd hne hn
theorem Rn.lcmp {d kc ks : Nat} {M : Mt} {k pc : Nat} {z : List Nat} {ls : List (Option Value)} {st : List Value} {S : Sg} {r : Option Value} {S' : Sg} {x y : Int64} (h : M.2.2.2.2.2[k]? = some (pc, .lcmp, 1, z))  (hn : Rn d kc ks M (k + 1) ls (.int (lg_cmp x y) :: st) S r S') : Rn d kc ks M k ls (.long y :: .long x :: st) S r S' := by
  refine ⟨hn.1, ?_⟩
  intro hM g p l e R s m args below meth c Z F E H locs cells slots la hP hS hc hs hl
  obtain ⟨hd, -, e1, e2⟩ := hM.entry h
  have e2 := e2 rfl
  have hn := hn.2 hM g p l e R s m args below meth c Z F E H locs cells slots la hP hS hc hs hl
  rw [e2] at hn
  rw [e1]
  exact W.lcmp F.1 F.2.1 hd hn
theorem Rn.i2l {d kc ks : Nat} {M : Mt} {k pc : Nat} {z : List Nat} {ls : List (Option Value)} {st : List Value} {S : Sg} {r : Option Value} {S' : Sg} {x : Int32} (h : M.2.2.2.2.2[k]? = some (pc, .i2l, 1, z))  (hn : Rn d kc ks M (k + 1) ls (.long x.toInt64 :: st) S r S') : Rn d kc ks M k ls (.int x :: st) S r S' := by
  refine ⟨hn.1, ?_⟩
  intro hM g p l e R s m args below meth c Z F E H locs cells slots la hP hS hc hs hl
  obtain ⟨hd, -, e1, e2⟩ := hM.entry h
  have e2 := e2 rfl
  have hn := hn.2 hM g p l e R s m args below meth c Z F E H locs cells slots la hP hS hc hs hl
  rw [e2] at hn
  rw [e1]
  exact lv_i2l F.1 F.2.1 hd rfl hn
theorem Rn.l2i {d kc ks : Nat} {M : Mt} {k pc : Nat} {z : List Nat} {ls : List (Option Value)} {st : List Value} {S : Sg} {r : Option Value} {S' : Sg} {x : Int64} (h : M.2.2.2.2.2[k]? = some (pc, .l2i, 1, z))  (hn : Rn d kc ks M (k + 1) ls (.int x.toInt32 :: st) S r S') : Rn d kc ks M k ls (.long x :: st) S r S' := by
  refine ⟨hn.1, ?_⟩
  intro hM g p l e R s m args below meth c Z F E H locs cells slots la hP hS hc hs hl
  obtain ⟨hd, -, e1, e2⟩ := hM.entry h
  have e2 := e2 rfl
  have hn := hn.2 hM g p l e R s m args below meth c Z F E H locs cells slots la hP hS hc hs hl
  rw [e2] at hn
  rw [e1]
  exact lv_l2i F.1 F.2.1 hd rfl hn
theorem Rn.i2b {d kc ks : Nat} {M : Mt} {k pc : Nat} {z : List Nat} {ls : List (Option Value)} {st : List Value} {S : Sg} {r : Option Value} {S' : Sg} {x : Int32} (h : M.2.2.2.2.2[k]? = some (pc, .i2b, 1, z))  (hn : Rn d kc ks M (k + 1) ls (.int x.toInt8.toInt32 :: st) S r S') : Rn d kc ks M k ls (.int x :: st) S r S' := by
  refine ⟨hn.1, ?_⟩
  intro hM g p l e R s m args below meth c Z F E H locs cells slots la hP hS hc hs hl
  obtain ⟨hd, -, e1, e2⟩ := hM.entry h
  have e2 := e2 rfl
  have hn := hn.2 hM g p l e R s m args below meth c Z F E H locs cells slots la hP hS hc hs hl
  rw [e2] at hn
  rw [e1]
  exact lv_i2b F.1 F.2.1 hd rfl hn
theorem Rn.i2c {d kc ks : Nat} {M : Mt} {k pc : Nat} {z : List Nat} {ls : List (Option Value)} {st : List Value} {S : Sg} {r : Option Value} {S' : Sg} {x : Int32} (h : M.2.2.2.2.2[k]? = some (pc, .i2c, 1, z))  (hn : Rn d kc ks M (k + 1) ls (.int (x.toUInt32 % 65536).toInt32 :: st) S r S') : Rn d kc ks M k ls (.int x :: st) S r S' := by
  refine ⟨hn.1, ?_⟩
  intro hM g p l e R s m args below meth c Z F E H locs cells slots la hP hS hc hs hl
  obtain ⟨hd, -, e1, e2⟩ := hM.entry h
  have e2 := e2 rfl
  have hn := hn.2 hM g p l e R s m args below meth c Z F E H locs cells slots la hP hS hc hs hl
  rw [e2] at hn
  rw [e1]
  exact lv_i2c F.1 F.2.1 hd rfl hn
theorem Rn.iconst {d kc ks : Nat} {M : Mt} {k pc : Nat} {z : List Nat} {ls : List (Option Value)} {st : List Value} {S : Sg} {r : Option Value} {S' : Sg} {n : Int} {v : Int32} (h : M.2.2.2.2.2[k]? = some (pc, .iconst n, 1, z)) (hv : Int32.ofInt n = v) (hn : Rn d kc ks M (k + 1) ls (.int v :: st) S r S') : Rn d kc ks M k ls st S r S' := by
  refine ⟨hn.1, ?_⟩
  intro hM g p l e R s m args below meth c Z F E H locs cells slots la hP hS hc hs hl
  obtain ⟨hd, -, e1, e2⟩ := hM.entry h
  have e2 := e2 rfl
  have hn := hn.2 hM g p l e R s m args below meth c Z F E H locs cells slots la hP hS hc hs hl
  rw [e2] at hn
  rw [e1]
  exact lv_iconst F.1 F.2.1 hd hv hn
theorem Rn.bipush {d kc ks : Nat} {M : Mt} {k pc : Nat} {z : List Nat} {ls : List (Option Value)} {st : List Value} {S : Sg} {r : Option Value} {S' : Sg} {n : Int} {v : Int32} (h : M.2.2.2.2.2[k]? = some (pc, .bipush n, 2, z)) (hv : (Int8.ofInt n).toInt32 = v) (hn : Rn d kc ks M (k + 1) ls (.int v :: st) S r S') : Rn d kc ks M k ls st S r S' := by
  refine ⟨hn.1, ?_⟩
  intro hM g p l e R s m args below meth c Z F E H locs cells slots la hP hS hc hs hl
  obtain ⟨hd, -, e1, e2⟩ := hM.entry h
  have e2 := e2 rfl
  have hn := hn.2 hM g p l e R s m args below meth c Z F E H locs cells slots la hP hS hc hs hl
  rw [e2] at hn
  rw [e1]
  exact lv_bipush F.1 F.2.1 hd hv hn
theorem Rn.sipush {d kc ks : Nat} {M : Mt} {k pc : Nat} {z : List Nat} {ls : List (Option Value)} {st : List Value} {S : Sg} {r : Option Value} {S' : Sg} {n : Int} {v : Int32} (h : M.2.2.2.2.2[k]? = some (pc, .sipush n, 3, z)) (hv : (Int16.ofInt n).toInt32 = v) (hn : Rn d kc ks M (k + 1) ls (.int v :: st) S r S') : Rn d kc ks M k ls st S r S' := by
  refine ⟨hn.1, ?_⟩
  intro hM g p l e R s m args below meth c Z F E H locs cells slots la hP hS hc hs hl
  obtain ⟨hd, -, e1, e2⟩ := hM.entry h
  have e2 := e2 rfl
  have hn := hn.2 hM g p l e R s m args below meth c Z F E H locs cells slots la hP hS hc hs hl
  rw [e2] at hn
  rw [e1]
  exact lv_sipush F.1 F.2.1 hd hv hn
theorem Rn.lconst {d kc ks : Nat} {M : Mt} {k pc : Nat} {z : List Nat} {ls : List (Option Value)} {st : List Value} {S : Sg} {r : Option Value} {S' : Sg} {n : Fin 2} {v : Int64} (h : M.2.2.2.2.2[k]? = some (pc, .lconst n, 1, z)) (hv : Int64.ofNat (n : Nat) = v) (hn : Rn d kc ks M (k + 1) ls (.long v :: st) S r S') : Rn d kc ks M k ls st S r S' := by
  refine ⟨hn.1, ?_⟩
  intro hM g p l e R s m args below meth c Z F E H locs cells slots la hP hS hc hs hl
  obtain ⟨hd, -, e1, e2⟩ := hM.entry h
  have e2 := e2 rfl
  have hn := hn.2 hM g p l e R s m args below meth c Z F E H locs cells slots la hP hS hc hs hl
  rw [e2] at hn
  rw [e1]
  exact lv_lconst F.1 F.2.1 hd hv hn
theorem Rn.null {d kc ks : Nat} {M : Mt} {k pc : Nat} {z : List Nat} {ls : List (Option Value)} {st : List Value} {S : Sg} {r : Option Value} {S' : Sg}  (h : M.2.2.2.2.2[k]? = some (pc, .aconst_null, 1, z))  (hn : Rn d kc ks M (k + 1) ls (.null :: st) S r S') : Rn d kc ks M k ls st S r S' := by
  refine ⟨hn.1, ?_⟩
  intro hM g p l e R s m args below meth c Z F E H locs cells slots la hP hS hc hs hl
  obtain ⟨hd, -, e1, e2⟩ := hM.entry h
  have e2 := e2 rfl
  have hn := hn.2 hM g p l e R s m args below meth c Z F E H locs cells slots la hP hS hc hs hl
  rw [e2] at hn
  rw [e1]
  exact lv_null F.1 F.2.1 hd hn
theorem Rn.dup {d kc ks : Nat} {M : Mt} {k pc : Nat} {z : List Nat} {ls : List (Option Value)} {st : List Value} {S : Sg} {r : Option Value} {S' : Sg} {v : Value} (h : M.2.2.2.2.2[k]? = some (pc, .dup, 1, z)) (hv : v.category = 1) (hn : Rn d kc ks M (k + 1) ls (v :: v :: st) S r S') : Rn d kc ks M k ls (v :: st) S r S' := by
  refine ⟨hn.1, ?_⟩
  intro hM g p l e R s m args below meth c Z F E H locs cells slots la hP hS hc hs hl
  obtain ⟨hd, -, e1, e2⟩ := hM.entry h
  have e2 := e2 rfl
  have hn := hn.2 hM g p l e R s m args below meth c Z F E H locs cells slots la hP hS hc hs hl
  rw [e2] at hn
  rw [e1]
  exact lv_dup F.1 F.2.1 hd (by rw [xv_cat]; exact hv) hn
theorem Rn.pop {d kc ks : Nat} {M : Mt} {k pc : Nat} {z : List Nat} {ls : List (Option Value)} {st : List Value} {S : Sg} {r : Option Value} {S' : Sg} {v : Value} (h : M.2.2.2.2.2[k]? = some (pc, .pop, 1, z)) (hv : v.category = 1) (hn : Rn d kc ks M (k + 1) ls st S r S') : Rn d kc ks M k ls (v :: st) S r S' := by
  refine ⟨hn.1, ?_⟩
  intro hM g p l e R s m args below meth c Z F E H locs cells slots la hP hS hc hs hl
  obtain ⟨hd, -, e1, e2⟩ := hM.entry h
  have e2 := e2 rfl
  have hn := hn.2 hM g p l e R s m args below meth c Z F E H locs cells slots la hP hS hc hs hl
  rw [e2] at hn
  rw [e1]
  exact lv_pop F.1 F.2.1 hd (by rw [xv_cat]; exact hv) hn
theorem Rn.dup2 {d kc ks : Nat} {M : Mt} {k pc : Nat} {z : List Nat} {ls : List (Option Value)} {st : List Value} {S : Sg} {r : Option Value} {S' : Sg} {v w : Value} (h : M.2.2.2.2.2[k]? = some (pc, .dup2, 1, z)) (hv : v.category = 1) (hw : w.category = 1) (hn : Rn d kc ks M (k + 1) ls (v :: w :: v :: w :: st) S r S') : Rn d kc ks M k ls (v :: w :: st) S r S' := by
  refine ⟨hn.1, ?_⟩
  intro hM g p l e R s m args below meth c Z F E H locs cells slots la hP hS hc hs hl
  obtain ⟨hd, -, e1, e2⟩ := hM.entry h
  have e2 := e2 rfl
  have hn := hn.2 hM g p l e R s m args below meth c Z F E H locs cells slots la hP hS hc hs hl
  rw [e2] at hn
  rw [e1]
  exact lv_dup2_11 F.1 F.2.1 hd (by rw [xv_cat]; exact hv) (by rw [xv_cat]; exact hw) hn
theorem Rn.ldc {d kc ks : Nat} {M : Mt} {k pc : Nat} {z : List Nat} {ls : List (Option Value)} {st : List Value} {S : Sg} {r : Option Value} {S' : Sg} {i : Nat} {v : Int32} (h : M.2.2.2.2.2[k]? = some (pc, .ldc i, 2, z)) (hw : Cond.constant M.1.cls i v ∈ wT) (hn : Rn d kc ks M (k + 1) ls (.int v :: st) S r S') : Rn d kc ks M k ls st S r S' := by
  refine ⟨hn.1, ?_⟩
  intro hM g p l e R s m args below meth c Z F E H locs cells slots la hP hS hc hs hl
  obtain ⟨hd, -, e1, e2⟩ := hM.entry h
  have e2 := e2 rfl
  have hn := hn.2 hM g p l e R s m args below meth c Z F E H locs cells slots la hP hS hc hs hl
  rw [e2] at hn
  rw [e1]
  exact lv_ldc F.1 F.2.1 F.2.2.2.1 (F.2.2.2.2.1 _ hw) hd hn
theorem Rn.ldcw {d kc ks : Nat} {M : Mt} {k pc : Nat} {z : List Nat} {ls : List (Option Value)} {st : List Value} {S : Sg} {r : Option Value} {S' : Sg} {i : Nat} {v : Int32} (h : M.2.2.2.2.2[k]? = some (pc, .ldc_w i, 3, z)) (hw : Cond.constant M.1.cls i v ∈ wT) (hn : Rn d kc ks M (k + 1) ls (.int v :: st) S r S') : Rn d kc ks M k ls st S r S' := by
  refine ⟨hn.1, ?_⟩
  intro hM g p l e R s m args below meth c Z F E H locs cells slots la hP hS hc hs hl
  obtain ⟨hd, -, e1, e2⟩ := hM.entry h
  have e2 := e2 rfl
  have hn := hn.2 hM g p l e R s m args below meth c Z F E H locs cells slots la hP hS hc hs hl
  rw [e2] at hn
  rw [e1]
  exact lv_ldcw F.1 F.2.1 F.2.2.2.1 (F.2.2.2.2.1 _ hw) hd hn
theorem Rn.ldc2 {d kc ks : Nat} {M : Mt} {k pc : Nat} {z : List Nat} {ls : List (Option Value)} {st : List Value} {S : Sg} {r : Option Value} {S' : Sg} {i : Nat} {v : Int64} (h : M.2.2.2.2.2[k]? = some (pc, .ldc2_w i, 3, z)) (hw : Cond.constantLong M.1.cls i v ∈ wT) (hn : Rn d kc ks M (k + 1) ls (.long v :: st) S r S') : Rn d kc ks M k ls st S r S' := by
  refine ⟨hn.1, ?_⟩
  intro hM g p l e R s m args below meth c Z F E H locs cells slots la hP hS hc hs hl
  obtain ⟨hd, -, e1, e2⟩ := hM.entry h
  have e2 := e2 rfl
  have hn := hn.2 hM g p l e R s m args below meth c Z F E H locs cells slots la hP hS hc hs hl
  rw [e2] at hn
  rw [e1]
  exact lv_ldc2 F.1 F.2.1 F.2.2.2.1 (F.2.2.2.2.1 _ hw) hd hn
theorem Rn.iload_n {d kc ks : Nat} {M : Mt} {k pc : Nat} {z : List Nat} {ls : List (Option Value)} {st : List Value} {S : Sg} {r : Option Value} {S' : Sg} {i : Fin 4} {x : Int32} (h : M.2.2.2.2.2[k]? = some (pc, .iload_n i, 1, z)) (hv : ls[(i : Nat)]? = some (some (.int x))) (hn : Rn d kc ks M (k + 1) ls (.int x :: st) S r S') : Rn d kc ks M k ls st S r S' := by
  refine ⟨hn.1, ?_⟩
  intro hM g p l e R s m args below meth c Z F E H locs cells slots la hP hS hc hs hl
  obtain ⟨hd, -, e1, e2⟩ := hM.entry h
  have e2 := e2 rfl
  have hn := hn.2 hM g p l e R s m args below meth c Z F E H locs cells slots la hP hS hc hs hl
  rw [e2] at hn
  rw [e1]
  exact lv_iload_n F.1 F.2.1 hd rfl (hl.2.2 _ _ hv) hn
theorem Rn.iload {d kc ks : Nat} {M : Mt} {k pc : Nat} {z : List Nat} {ls : List (Option Value)} {st : List Value} {S : Sg} {r : Option Value} {S' : Sg} {i : Nat} {x : Int32} (h : M.2.2.2.2.2[k]? = some (pc, .iload i, 2, z)) (hv : ls[i]? = some (some (.int x))) (hn : Rn d kc ks M (k + 1) ls (.int x :: st) S r S') : Rn d kc ks M k ls st S r S' := by
  refine ⟨hn.1, ?_⟩
  intro hM g p l e R s m args below meth c Z F E H locs cells slots la hP hS hc hs hl
  obtain ⟨hd, -, e1, e2⟩ := hM.entry h
  have e2 := e2 rfl
  have hn := hn.2 hM g p l e R s m args below meth c Z F E H locs cells slots la hP hS hc hs hl
  rw [e2] at hn
  rw [e1]
  exact lv_iload F.1 F.2.1 hd (hl.2.2 _ _ hv) hn
theorem Rn.lload_n {d kc ks : Nat} {M : Mt} {k pc : Nat} {z : List Nat} {ls : List (Option Value)} {st : List Value} {S : Sg} {r : Option Value} {S' : Sg} {i : Fin 4} {x : Int64} (h : M.2.2.2.2.2[k]? = some (pc, .lload_n i, 1, z)) (hv : ls[(i : Nat)]? = some (some (.long x))) (hn : Rn d kc ks M (k + 1) ls (.long x :: st) S r S') : Rn d kc ks M k ls st S r S' := by
  refine ⟨hn.1, ?_⟩
  intro hM g p l e R s m args below meth c Z F E H locs cells slots la hP hS hc hs hl
  obtain ⟨hd, -, e1, e2⟩ := hM.entry h
  have e2 := e2 rfl
  have hn := hn.2 hM g p l e R s m args below meth c Z F E H locs cells slots la hP hS hc hs hl
  rw [e2] at hn
  rw [e1]
  exact lv_lload_n F.1 F.2.1 hd rfl (hl.2.2 _ _ hv) hn
theorem Rn.lload {d kc ks : Nat} {M : Mt} {k pc : Nat} {z : List Nat} {ls : List (Option Value)} {st : List Value} {S : Sg} {r : Option Value} {S' : Sg} {i : Nat} {x : Int64} (h : M.2.2.2.2.2[k]? = some (pc, .lload i, 2, z)) (hv : ls[i]? = some (some (.long x))) (hn : Rn d kc ks M (k + 1) ls (.long x :: st) S r S') : Rn d kc ks M k ls st S r S' := by
  refine ⟨hn.1, ?_⟩
  intro hM g p l e R s m args below meth c Z F E H locs cells slots la hP hS hc hs hl
  obtain ⟨hd, -, e1, e2⟩ := hM.entry h
  have e2 := e2 rfl
  have hn := hn.2 hM g p l e R s m args below meth c Z F E H locs cells slots la hP hS hc hs hl
  rw [e2] at hn
  rw [e1]
  exact lv_lload F.1 F.2.1 hd (hl.2.2 _ _ hv) hn
theorem Rn.aload_n {d kc ks : Nat} {M : Mt} {k pc : Nat} {z : List Nat} {ls : List (Option Value)} {st : List Value} {S : Sg} {r : Option Value} {S' : Sg} {i : Fin 4} {x : Nat} (h : M.2.2.2.2.2[k]? = some (pc, .aload_n i, 1, z)) (hv : ls[(i : Nat)]? = some (some (.ref x))) (hn : Rn d kc ks M (k + 1) ls (.ref x :: st) S r S') : Rn d kc ks M k ls st S r S' := by
  refine ⟨hn.1, ?_⟩
  intro hM g p l e R s m args below meth c Z F E H locs cells slots la hP hS hc hs hl
  obtain ⟨hd, -, e1, e2⟩ := hM.entry h
  have e2 := e2 rfl
  have hn := hn.2 hM g p l e R s m args below meth c Z F E H locs cells slots la hP hS hc hs hl
  rw [e2] at hn
  rw [e1]
  exact lv_aload_n F.1 F.2.1 hd rfl (hl.2.2 _ _ hv) hn
theorem Rn.aload {d kc ks : Nat} {M : Mt} {k pc : Nat} {z : List Nat} {ls : List (Option Value)} {st : List Value} {S : Sg} {r : Option Value} {S' : Sg} {i : Nat} {x : Nat} (h : M.2.2.2.2.2[k]? = some (pc, .aload i, 2, z)) (hv : ls[i]? = some (some (.ref x))) (hn : Rn d kc ks M (k + 1) ls (.ref x :: st) S r S') : Rn d kc ks M k ls st S r S' := by
  refine ⟨hn.1, ?_⟩
  intro hM g p l e R s m args below meth c Z F E H locs cells slots la hP hS hc hs hl
  obtain ⟨hd, -, e1, e2⟩ := hM.entry h
  have e2 := e2 rfl
  have hn := hn.2 hM g p l e R s m args below meth c Z F E H locs cells slots la hP hS hc hs hl
  rw [e2] at hn
  rw [e1]
  exact lv_aload F.1 F.2.1 hd (hl.2.2 _ _ hv) hn
theorem Rn.aload_nN {d kc ks : Nat} {M : Mt} {k pc : Nat} {z : List Nat} {ls : List (Option Value)} {st : List Value} {S : Sg} {r : Option Value} {S' : Sg} {i : Fin 4} (h : M.2.2.2.2.2[k]? = some (pc, .aload_n i, 1, z)) (hv : ls[(i : Nat)]? = some (some .null)) (hn : Rn d kc ks M (k + 1) ls (.null :: st) S r S') : Rn d kc ks M k ls st S r S' := by
  refine ⟨hn.1, ?_⟩
  intro hM g p l e R s m args below meth c Z F E H locs cells slots la hP hS hc hs hl
  obtain ⟨hd, -, e1, e2⟩ := hM.entry h
  have e2 := e2 rfl
  have hn := hn.2 hM g p l e R s m args below meth c Z F E H locs cells slots la hP hS hc hs hl
  rw [e2] at hn
  rw [e1]
  exact lv_aload_nN F.1 F.2.1 hd rfl (hl.2.2 _ _ hv) hn
theorem Rn.aloadN {d kc ks : Nat} {M : Mt} {k pc : Nat} {z : List Nat} {ls : List (Option Value)} {st : List Value} {S : Sg} {r : Option Value} {S' : Sg} {i : Nat} (h : M.2.2.2.2.2[k]? = some (pc, .aload i, 2, z)) (hv : ls[i]? = some (some .null)) (hn : Rn d kc ks M (k + 1) ls (.null :: st) S r S') : Rn d kc ks M k ls st S r S' := by
  refine ⟨hn.1, ?_⟩
  intro hM g p l e R s m args below meth c Z F E H locs cells slots la hP hS hc hs hl
  obtain ⟨hd, -, e1, e2⟩ := hM.entry h
  have e2 := e2 rfl
  have hn := hn.2 hM g p l e R s m args below meth c Z F E H locs cells slots la hP hS hc hs hl
  rw [e2] at hn
  rw [e1]
  exact lv_aloadN F.1 F.2.1 hd (hl.2.2 _ _ hv) hn
theorem Rn.istore_n {d kc ks : Nat} {M : Mt} {k pc : Nat} {z : List Nat} {ls : List (Option Value)} {st : List Value} {S : Sg} {r : Option Value} {S' : Sg} {i : Fin 4} {x : Int32} (h : M.2.2.2.2.2[k]? = some (pc, .istore_n i, 1, z)) (hi : (i : Nat) < M.2.2.1) (ho : okS ls (i : Nat) = true) (hn : Rn d kc ks M (k + 1) (ls.set (i : Nat) (some (.int x))) st S r S') : Rn d kc ks M k ls (.int x :: st) S r S' := by
  refine ⟨hn.1, ?_⟩
  intro hM g p l e R s m args below meth c Z F E H locs cells slots la hP hS hc hs hl
  obtain ⟨hd, -, e1, e2⟩ := hM.entry h
  have e2 := e2 rfl
  rw [e1]
  refine lv_istore_n F.1 F.2.1 hd rfl hl.has hi rfl (fun la' hl' => ?_)
  have hn := hn.2 hM g p l e R s m args below meth c Z F E H locs cells slots la' hP hS hc hs (xL.set1 (v := .int x) hl' ho)
  rw [e2] at hn
  exact hn
theorem Rn.istore {d kc ks : Nat} {M : Mt} {k pc : Nat} {z : List Nat} {ls : List (Option Value)} {st : List Value} {S : Sg} {r : Option Value} {S' : Sg} {i : Nat} {x : Int32} (h : M.2.2.2.2.2[k]? = some (pc, .istore i, 2, z)) (hi : (i : Nat) < M.2.2.1) (ho : okS ls (i : Nat) = true) (hn : Rn d kc ks M (k + 1) (ls.set (i : Nat) (some (.int x))) st S r S') : Rn d kc ks M k ls (.int x :: st) S r S' := by
  refine ⟨hn.1, ?_⟩
  intro hM g p l e R s m args below meth c Z F E H locs cells slots la hP hS hc hs hl
  obtain ⟨hd, -, e1, e2⟩ := hM.entry h
  have e2 := e2 rfl
  rw [e1]
  refine lv_istore F.1 F.2.1 hd hl.has hi rfl (fun la' hl' => ?_)
  have hn := hn.2 hM g p l e R s m args below meth c Z F E H locs cells slots la' hP hS hc hs (xL.set1 (v := .int x) hl' ho)
  rw [e2] at hn
  exact hn
theorem Rn.lstore_n {d kc ks : Nat} {M : Mt} {k pc : Nat} {z : List Nat} {ls : List (Option Value)} {st : List Value} {S : Sg} {r : Option Value} {S' : Sg} {i : Fin 4} {x : Int64} (h : M.2.2.2.2.2[k]? = some (pc, .lstore_n i, 1, z)) (hi : (i : Nat) + 1 < M.2.2.1) (ho : okS ls (i : Nat) = true) (hn : Rn d kc ks M (k + 1) ((ls.set (i : Nat) (some (.long x))).set ((i : Nat) + 1) none) st S r S') : Rn d kc ks M k ls (.long x :: st) S r S' := by
  refine ⟨hn.1, ?_⟩
  intro hM g p l e R s m args below meth c Z F E H locs cells slots la hP hS hc hs hl
  obtain ⟨hd, -, e1, e2⟩ := hM.entry h
  have e2 := e2 rfl
  rw [e1]
  refine lv_lstore_n F.1 F.2.1 hd rfl hl.has hi rfl (fun la' hl' => ?_)
  have hn := hn.2 hM g p l e R s m args below meth c Z F E H locs cells slots la' hP hS hc hs (xL.set2 (v := .long x) hl' ho)
  rw [e2] at hn
  exact hn
theorem Rn.lstore {d kc ks : Nat} {M : Mt} {k pc : Nat} {z : List Nat} {ls : List (Option Value)} {st : List Value} {S : Sg} {r : Option Value} {S' : Sg} {i : Nat} {x : Int64} (h : M.2.2.2.2.2[k]? = some (pc, .lstore i, 2, z)) (hi : (i : Nat) + 1 < M.2.2.1) (ho : okS ls (i : Nat) = true) (hn : Rn d kc ks M (k + 1) ((ls.set (i : Nat) (some (.long x))).set ((i : Nat) + 1) none) st S r S') : Rn d kc ks M k ls (.long x :: st) S r S' := by
  refine ⟨hn.1, ?_⟩
  intro hM g p l e R s m args below meth c Z F E H locs cells slots la hP hS hc hs hl
  obtain ⟨hd, -, e1, e2⟩ := hM.entry h
  have e2 := e2 rfl
  rw [e1]
  refine lv_lstore F.1 F.2.1 hd hl.has hi rfl (fun la' hl' => ?_)
  have hn := hn.2 hM g p l e R s m args below meth c Z F E H locs cells slots la' hP hS hc hs (xL.set2 (v := .long x) hl' ho)
  rw [e2] at hn
  exact hn
theorem Rn.astore_n {d kc ks : Nat} {M : Mt} {k pc : Nat} {z : List Nat} {ls : List (Option Value)} {st : List Value} {S : Sg} {r : Option Value} {S' : Sg} {i : Fin 4} {x : Nat} (h : M.2.2.2.2.2[k]? = some (pc, .astore_n i, 1, z)) (hi : (i : Nat) < M.2.2.1) (ho : okS ls (i : Nat) = true) (hn : Rn d kc ks M (k + 1) (ls.set (i : Nat) (some (.ref x))) st S r S') : Rn d kc ks M k ls (.ref x :: st) S r S' := by
  refine ⟨hn.1, ?_⟩
  intro hM g p l e R s m args below meth c Z F E H locs cells slots la hP hS hc hs hl
  obtain ⟨hd, -, e1, e2⟩ := hM.entry h
  have e2 := e2 rfl
  rw [e1]
  refine lv_astore_n F.1 F.2.1 hd rfl hl.has hi rfl (fun la' hl' => ?_)
  have hn := hn.2 hM g p l e R s m args below meth c Z F E H locs cells slots la' hP hS hc hs (xL.set1 (v := .ref x) hl' ho)
  rw [e2] at hn
  exact hn
theorem Rn.astore {d kc ks : Nat} {M : Mt} {k pc : Nat} {z : List Nat} {ls : List (Option Value)} {st : List Value} {S : Sg} {r : Option Value} {S' : Sg} {i : Nat} {x : Nat} (h : M.2.2.2.2.2[k]? = some (pc, .astore i, 2, z)) (hi : (i : Nat) < M.2.2.1) (ho : okS ls (i : Nat) = true) (hn : Rn d kc ks M (k + 1) (ls.set (i : Nat) (some (.ref x))) st S r S') : Rn d kc ks M k ls (.ref x :: st) S r S' := by
  refine ⟨hn.1, ?_⟩
  intro hM g p l e R s m args below meth c Z F E H locs cells slots la hP hS hc hs hl
  obtain ⟨hd, -, e1, e2⟩ := hM.entry h
  have e2 := e2 rfl
  rw [e1]
  refine lv_astore F.1 F.2.1 hd hl.has hi rfl (fun la' hl' => ?_)
  have hn := hn.2 hM g p l e R s m args below meth c Z F E H locs cells slots la' hP hS hc hs (xL.set1 (v := .ref x) hl' ho)
  rw [e2] at hn
  exact hn
theorem Rn.astore_nN {d kc ks : Nat} {M : Mt} {k pc : Nat} {z : List Nat} {ls : List (Option Value)} {st : List Value} {S : Sg} {r : Option Value} {S' : Sg} {i : Fin 4} (h : M.2.2.2.2.2[k]? = some (pc, .astore_n i, 1, z)) (hi : (i : Nat) < M.2.2.1) (ho : okS ls (i : Nat) = true) (hn : Rn d kc ks M (k + 1) (ls.set (i : Nat) (some (.null))) st S r S') : Rn d kc ks M k ls (.null :: st) S r S' := by
  refine ⟨hn.1, ?_⟩
  intro hM g p l e R s m args below meth c Z F E H locs cells slots la hP hS hc hs hl
  obtain ⟨hd, -, e1, e2⟩ := hM.entry h
  have e2 := e2 rfl
  rw [e1]
  refine lv_astore_nN F.1 F.2.1 hd rfl hl.has hi rfl (fun la' hl' => ?_)
  have hn := hn.2 hM g p l e R s m args below meth c Z F E H locs cells slots la' hP hS hc hs (xL.set1 (v := .null) hl' ho)
  rw [e2] at hn
  exact hn
theorem Rn.astoreN {d kc ks : Nat} {M : Mt} {k pc : Nat} {z : List Nat} {ls : List (Option Value)} {st : List Value} {S : Sg} {r : Option Value} {S' : Sg} {i : Nat} (h : M.2.2.2.2.2[k]? = some (pc, .astore i, 2, z)) (hi : (i : Nat) < M.2.2.1) (ho : okS ls (i : Nat) = true) (hn : Rn d kc ks M (k + 1) (ls.set (i : Nat) (some (.null))) st S r S') : Rn d kc ks M k ls (.null :: st) S r S' := by
  refine ⟨hn.1, ?_⟩
  intro hM g p l e R s m args below meth c Z F E H locs cells slots la hP hS hc hs hl
  obtain ⟨hd, -, e1, e2⟩ := hM.entry h
  have e2 := e2 rfl
  rw [e1]
  refine lv_astoreN F.1 F.2.1 hd hl.has hi rfl (fun la' hl' => ?_)
  have hn := hn.2 hM g p l e R s m args below meth c Z F E H locs cells slots la' hP hS hc hs (xL.set1 (v := .null) hl' ho)
  rw [e2] at hn
  exact hn
theorem Rn.iinc {d kc ks : Nat} {M : Mt} {k pc : Nat} {z : List Nat} {ls : List (Option Value)} {st : List Value} {S : Sg} {r : Option Value} {S' : Sg} {i : Nat} {n : Int} {x v : Int32} (h : M.2.2.2.2.2[k]? = some (pc, .iinc i n, 3, z)) (hx : ls[i]? = some (some (.int x))) (hv : x + Int32.ofInt n = v) (hi : i < M.2.2.1) (ho : okS ls i = true) (hn : Rn d kc ks M (k + 1) (ls.set i (some (.int v))) st S r S') : Rn d kc ks M k ls st S r S' := by
  refine ⟨hn.1, ?_⟩
  intro hM g p l e R s m args below meth c Z F E H locs cells slots la hP hS hc hs hl
  obtain ⟨hd, -, e1, e2⟩ := hM.entry h
  have e2 := e2 rfl
  rw [e1]
  obtain ⟨j, hj⟩ := List.getElem?_of_mem (xp_mem.mpr ⟨_, hx, rfl⟩ : (i, xv g (.int x)) ∈ xp g ls)
  refine lv_iinc F.1 F.2.1 hd hl.has hj hv hi rfl (fun la' hl' => ?_)
  have hn := hn.2 hM g p l e R s m args below meth c Z F E H locs cells slots la' hP hS hc hs (xL.set1 (v := .int v) hl' ho)
  rw [e2] at hn
  exact hn
theorem Rn.if_eq {d kc ks : Nat} {M : Mt} {k pc : Nat} {ls : List (Option Value)} {st : List Value} {S : Sg} {r : Option Value} {S' : Sg} {off : Int} {t : Nat} {x : Int32} (h : M.2.2.2.2.2[k]? = some (pc, .ifCond .eq off, 3, [t])) (kt : x = 0 → Rn d kc ks M t ls st S r S') (kf : ¬ x = 0 → Rn d kc ks M (k + 1) ls st S r S') : Rn d kc ks M k ls (.int x :: st) S r S' := by
  refine ⟨by rcases Classical.em (x = 0) with q | q; exact (kt q).1; first | exact (kf q).1 | exact (kf (Classical.not_not.mp q)).1, ?_⟩
  intro hM g p l e R s m args below meth c Z F E H locs cells slots la hP hS hc hs hl
  obtain ⟨hd, hL, e1, e2⟩ := hM.entry h
  have e2 := e2 rfl
  rw [e1]
  have ht : (pc : Int) + off = (pcAt M t : Int) := of_decide_eq_true hL
  refine lv_if_eq F.1 F.2.1 hd ht (fun q => (kt q).2 hM g p l e R s m args below meth c Z F E H locs cells slots la hP hS hc hs hl) (fun q => ?_)
  have hn := (kf q).2 hM g p l e R s m args below meth c Z F E H locs cells slots la hP hS hc hs hl
  rw [e2] at hn
  exact hn
theorem Rn.if_ne {d kc ks : Nat} {M : Mt} {k pc : Nat} {ls : List (Option Value)} {st : List Value} {S : Sg} {r : Option Value} {S' : Sg} {off : Int} {t : Nat} {x : Int32} (h : M.2.2.2.2.2[k]? = some (pc, .ifCond .ne off, 3, [t])) (kt : ¬ x = 0 → Rn d kc ks M t ls st S r S') (kf : x = 0 → Rn d kc ks M (k + 1) ls st S r S') : Rn d kc ks M k ls (.int x :: st) S r S' := by
  refine ⟨by rcases Classical.em (¬ x = 0) with q | q; exact (kt q).1; first | exact (kf q).1 | exact (kf (Classical.not_not.mp q)).1, ?_⟩
  intro hM g p l e R s m args below meth c Z F E H locs cells slots la hP hS hc hs hl
  obtain ⟨hd, hL, e1, e2⟩ := hM.entry h
  have e2 := e2 rfl
  rw [e1]
  have ht : (pc : Int) + off = (pcAt M t : Int) := of_decide_eq_true hL
  refine lv_if_ne F.1 F.2.1 hd ht (fun q => (kt q).2 hM g p l e R s m args below meth c Z F E H locs cells slots la hP hS hc hs hl) (fun q => ?_)
  have hn := (kf q).2 hM g p l e R s m args below meth c Z F E H locs cells slots la hP hS hc hs hl
  rw [e2] at hn
  exact hn
theorem Rn.if_lt {d kc ks : Nat} {M : Mt} {k pc : Nat} {ls : List (Option Value)} {st : List Value} {S : Sg} {r : Option Value} {S' : Sg} {off : Int} {t : Nat} {x : Int32} (h : M.2.2.2.2.2[k]? = some (pc, .ifCond .lt off, 3, [t])) (kt : x < 0 → Rn d kc ks M t ls st S r S') (kf : ¬ x < 0 → Rn d kc ks M (k + 1) ls st S r S') : Rn d kc ks M k ls (.int x :: st) S r S' := by
  refine ⟨by rcases Classical.em (x < 0) with q | q; exact (kt q).1; first | exact (kf q).1 | exact (kf (Classical.not_not.mp q)).1, ?_⟩
  intro hM g p l e R s m args below meth c Z F E H locs cells slots la hP hS hc hs hl
  obtain ⟨hd, hL, e1, e2⟩ := hM.entry h
  have e2 := e2 rfl
  rw [e1]
  have ht : (pc : Int) + off = (pcAt M t : Int) := of_decide_eq_true hL
  refine lv_if_lt F.1 F.2.1 hd ht (fun q => (kt q).2 hM g p l e R s m args below meth c Z F E H locs cells slots la hP hS hc hs hl) (fun q => ?_)
  have hn := (kf q).2 hM g p l e R s m args below meth c Z F E H locs cells slots la hP hS hc hs hl
  rw [e2] at hn
  exact hn
theorem Rn.if_ge {d kc ks : Nat} {M : Mt} {k pc : Nat} {ls : List (Option Value)} {st : List Value} {S : Sg} {r : Option Value} {S' : Sg} {off : Int} {t : Nat} {x : Int32} (h : M.2.2.2.2.2[k]? = some (pc, .ifCond .ge off, 3, [t])) (kt : 0 ≤ x → Rn d kc ks M t ls st S r S') (kf : ¬ 0 ≤ x → Rn d kc ks M (k + 1) ls st S r S') : Rn d kc ks M k ls (.int x :: st) S r S' := by
  refine ⟨by rcases Classical.em (0 ≤ x) with q | q; exact (kt q).1; first | exact (kf q).1 | exact (kf (Classical.not_not.mp q)).1, ?_⟩
  intro hM g p l e R s m args below meth c Z F E H locs cells slots la hP hS hc hs hl
  obtain ⟨hd, hL, e1, e2⟩ := hM.entry h
  have e2 := e2 rfl
  rw [e1]
  have ht : (pc : Int) + off = (pcAt M t : Int) := of_decide_eq_true hL
  refine lv_if_ge F.1 F.2.1 hd ht (fun q => (kt q).2 hM g p l e R s m args below meth c Z F E H locs cells slots la hP hS hc hs hl) (fun q => ?_)
  have hn := (kf q).2 hM g p l e R s m args below meth c Z F E H locs cells slots la hP hS hc hs hl
  rw [e2] at hn
  exact hn
theorem Rn.if_gt {d kc ks : Nat} {M : Mt} {k pc : Nat} {ls : List (Option Value)} {st : List Value} {S : Sg} {r : Option Value} {S' : Sg} {off : Int} {t : Nat} {x : Int32} (h : M.2.2.2.2.2[k]? = some (pc, .ifCond .gt off, 3, [t])) (kt : 0 < x → Rn d kc ks M t ls st S r S') (kf : ¬ 0 < x → Rn d kc ks M (k + 1) ls st S r S') : Rn d kc ks M k ls (.int x :: st) S r S' := by
  refine ⟨by rcases Classical.em (0 < x) with q | q; exact (kt q).1; first | exact (kf q).1 | exact (kf (Classical.not_not.mp q)).1, ?_⟩
  intro hM g p l e R s m args below meth c Z F E H locs cells slots la hP hS hc hs hl
  obtain ⟨hd, hL, e1, e2⟩ := hM.entry h
  have e2 := e2 rfl
  rw [e1]
  have ht : (pc : Int) + off = (pcAt M t : Int) := of_decide_eq_true hL
  refine lv_if_gt F.1 F.2.1 hd ht (fun q => (kt q).2 hM g p l e R s m args below meth c Z F E H locs cells slots la hP hS hc hs hl) (fun q => ?_)
  have hn := (kf q).2 hM g p l e R s m args below meth c Z F E H locs cells slots la hP hS hc hs hl
  rw [e2] at hn
  exact hn
theorem Rn.if_le {d kc ks : Nat} {M : Mt} {k pc : Nat} {ls : List (Option Value)} {st : List Value} {S : Sg} {r : Option Value} {S' : Sg} {off : Int} {t : Nat} {x : Int32} (h : M.2.2.2.2.2[k]? = some (pc, .ifCond .le off, 3, [t])) (kt : x ≤ 0 → Rn d kc ks M t ls st S r S') (kf : ¬ x ≤ 0 → Rn d kc ks M (k + 1) ls st S r S') : Rn d kc ks M k ls (.int x :: st) S r S' := by
  refine ⟨by rcases Classical.em (x ≤ 0) with q | q; exact (kt q).1; first | exact (kf q).1 | exact (kf (Classical.not_not.mp q)).1, ?_⟩
  intro hM g p l e R s m args below meth c Z F E H locs cells slots la hP hS hc hs hl
  obtain ⟨hd, hL, e1, e2⟩ := hM.entry h
  have e2 := e2 rfl
  rw [e1]
  have ht : (pc : Int) + off = (pcAt M t : Int) := of_decide_eq_true hL
  refine lv_if_le F.1 F.2.1 hd ht (fun q => (kt q).2 hM g p l e R s m args below meth c Z F E H locs cells slots la hP hS hc hs hl) (fun q => ?_)
  have hn := (kf q).2 hM g p l e R s m args below meth c Z F E H locs cells slots la hP hS hc hs hl
  rw [e2] at hn
  exact hn
theorem Rn.icmp_eq {d kc ks : Nat} {M : Mt} {k pc : Nat} {ls : List (Option Value)} {st : List Value} {S : Sg} {r : Option Value} {S' : Sg} {off : Int} {t : Nat} {x y : Int32} (h : M.2.2.2.2.2[k]? = some (pc, .if_icmp .eq off, 3, [t])) (kt : x = y → Rn d kc ks M t ls st S r S') (kf : ¬ x = y → Rn d kc ks M (k + 1) ls st S r S') : Rn d kc ks M k ls (.int y :: .int x :: st) S r S' := by
  refine ⟨by rcases Classical.em (x = y) with q | q; exact (kt q).1; first | exact (kf q).1 | exact (kf (Classical.not_not.mp q)).1, ?_⟩
  intro hM g p l e R s m args below meth c Z F E H locs cells slots la hP hS hc hs hl
  obtain ⟨hd, hL, e1, e2⟩ := hM.entry h
  have e2 := e2 rfl
  rw [e1]
  have ht : (pc : Int) + off = (pcAt M t : Int) := of_decide_eq_true hL
  refine lv_icmp_eq F.1 F.2.1 hd ht (fun q => (kt q).2 hM g p l e R s m args below meth c Z F E H locs cells slots la hP hS hc hs hl) (fun q => ?_)
  have hn := (kf q).2 hM g p l e R s m args below meth c Z F E H locs cells slots la hP hS hc hs hl
  rw [e2] at hn
  exact hn
theorem Rn.icmp_ne {d kc ks : Nat} {M : Mt} {k pc : Nat} {ls : List (Option Value)} {st : List Value} {S : Sg} {r : Option Value} {S' : Sg} {off : Int} {t : Nat} {x y : Int32} (h : M.2.2.2.2.2[k]? = some (pc, .if_icmp .ne off, 3, [t])) (kt : ¬ x = y → Rn d kc ks M t ls st S r S') (kf : x = y → Rn d kc ks M (k + 1) ls st S r S') : Rn d kc ks M k ls (.int y :: .int x :: st) S r S' := by
  refine ⟨by rcases Classical.em (¬ x = y) with q | q; exact (kt q).1; first | exact (kf q).1 | exact (kf (Classical.not_not.mp q)).1, ?_⟩
  intro hM g p l e R s m args below meth c Z F E H locs cells slots la hP hS hc hs hl
  obtain ⟨hd, hL, e1, e2⟩ := hM.entry h
  have e2 := e2 rfl
  rw [e1]
  have ht : (pc : Int) + off = (pcAt M t : Int) := of_decide_eq_true hL
  refine lv_icmp_ne F.1 F.2.1 hd ht (fun q => (kt q).2 hM g p l e R s m args below meth c Z F E H locs cells slots la hP hS hc hs hl) (fun q => ?_)
  have hn := (kf q).2 hM g p l e R s m args below meth c Z F E H locs cells slots la hP hS hc hs hl
  rw [e2] at hn
  exact hn
theorem Rn.icmp_lt {d kc ks : Nat} {M : Mt} {k pc : Nat} {ls : List (Option Value)} {st : List Value} {S : Sg} {r : Option Value} {S' : Sg} {off : Int} {t : Nat} {x y : Int32} (h : M.2.2.2.2.2[k]? = some (pc, .if_icmp .lt off, 3, [t])) (kt : x < y → Rn d kc ks M t ls st S r S') (kf : ¬ x < y → Rn d kc ks M (k + 1) ls st S r S') : Rn d kc ks M k ls (.int y :: .int x :: st) S r S' := by
  refine ⟨by rcases Classical.em (x < y) with q | q; exact (kt q).1; first | exact (kf q).1 | exact (kf (Classical.not_not.mp q)).1, ?_⟩
  intro hM g p l e R s m args below meth c Z F E H locs cells slots la hP hS hc hs hl
  obtain ⟨hd, hL, e1, e2⟩ := hM.entry h
  have e2 := e2 rfl
  rw [e1]
  have ht : (pc : Int) + off = (pcAt M t : Int) := of_decide_eq_true hL
  refine lv_icmp_lt F.1 F.2.1 hd ht (fun q => (kt q).2 hM g p l e R s m args below meth c Z F E H locs cells slots la hP hS hc hs hl) (fun q => ?_)
  have hn := (kf q).2 hM g p l e R s m args below meth c Z F E H locs cells slots la hP hS hc hs hl
  rw [e2] at hn
  exact hn
theorem Rn.icmp_ge {d kc ks : Nat} {M : Mt} {k pc : Nat} {ls : List (Option Value)} {st : List Value} {S : Sg} {r : Option Value} {S' : Sg} {off : Int} {t : Nat} {x y : Int32} (h : M.2.2.2.2.2[k]? = some (pc, .if_icmp .ge off, 3, [t])) (kt : y ≤ x → Rn d kc ks M t ls st S r S') (kf : ¬ y ≤ x → Rn d kc ks M (k + 1) ls st S r S') : Rn d kc ks M k ls (.int y :: .int x :: st) S r S' := by
  refine ⟨by rcases Classical.em (y ≤ x) with q | q; exact (kt q).1; first | exact (kf q).1 | exact (kf (Classical.not_not.mp q)).1, ?_⟩
  intro hM g p l e R s m args below meth c Z F E H locs cells slots la hP hS hc hs hl
  obtain ⟨hd, hL, e1, e2⟩ := hM.entry h
  have e2 := e2 rfl
  rw [e1]
  have ht : (pc : Int) + off = (pcAt M t : Int) := of_decide_eq_true hL
  refine lv_icmp_ge F.1 F.2.1 hd ht (fun q => (kt q).2 hM g p l e R s m args below meth c Z F E H locs cells slots la hP hS hc hs hl) (fun q => ?_)
  have hn := (kf q).2 hM g p l e R s m args below meth c Z F E H locs cells slots la hP hS hc hs hl
  rw [e2] at hn
  exact hn
theorem Rn.icmp_gt {d kc ks : Nat} {M : Mt} {k pc : Nat} {ls : List (Option Value)} {st : List Value} {S : Sg} {r : Option Value} {S' : Sg} {off : Int} {t : Nat} {x y : Int32} (h : M.2.2.2.2.2[k]? = some (pc, .if_icmp .gt off, 3, [t])) (kt : y < x → Rn d kc ks M t ls st S r S') (kf : ¬ y < x → Rn d kc ks M (k + 1) ls st S r S') : Rn d kc ks M k ls (.int y :: .int x :: st) S r S' := by
  refine ⟨by rcases Classical.em (y < x) with q | q; exact (kt q).1; first | exact (kf q).1 | exact (kf (Classical.not_not.mp q)).1, ?_⟩
  intro hM g p l e R s m args below meth c Z F E H locs cells slots la hP hS hc hs hl
  obtain ⟨hd, hL, e1, e2⟩ := hM.entry h
  have e2 := e2 rfl
  rw [e1]
  have ht : (pc : Int) + off = (pcAt M t : Int) := of_decide_eq_true hL
  refine lv_icmp_gt F.1 F.2.1 hd ht (fun q => (kt q).2 hM g p l e R s m args below meth c Z F E H locs cells slots la hP hS hc hs hl) (fun q => ?_)
  have hn := (kf q).2 hM g p l e R s m args below meth c Z F E H locs cells slots la hP hS hc hs hl
  rw [e2] at hn
  exact hn
theorem Rn.icmp_le {d kc ks : Nat} {M : Mt} {k pc : Nat} {ls : List (Option Value)} {st : List Value} {S : Sg} {r : Option Value} {S' : Sg} {off : Int} {t : Nat} {x y : Int32} (h : M.2.2.2.2.2[k]? = some (pc, .if_icmp .le off, 3, [t])) (kt : x ≤ y → Rn d kc ks M t ls st S r S') (kf : ¬ x ≤ y → Rn d kc ks M (k + 1) ls st S r S') : Rn d kc ks M k ls (.int y :: .int x :: st) S r S' := by
  refine ⟨by rcases Classical.em (x ≤ y) with q | q; exact (kt q).1; first | exact (kf q).1 | exact (kf (Classical.not_not.mp q)).1, ?_⟩
  intro hM g p l e R s m args below meth c Z F E H locs cells slots la hP hS hc hs hl
  obtain ⟨hd, hL, e1, e2⟩ := hM.entry h
  have e2 := e2 rfl
  rw [e1]
  have ht : (pc : Int) + off = (pcAt M t : Int) := of_decide_eq_true hL
  refine lv_icmp_le F.1 F.2.1 hd ht (fun q => (kt q).2 hM g p l e R s m args below meth c Z F E H locs cells slots la hP hS hc hs hl) (fun q => ?_)
  have hn := (kf q).2 hM g p l e R s m args below meth c Z F E H locs cells slots la hP hS hc hs hl
  rw [e2] at hn
  exact hn
theorem Rn.goto {d kc ks : Nat} {M : Mt} {k pc : Nat} {ls : List (Option Value)} {st : List Value} {S : Sg} {r : Option Value} {S' : Sg} {off : Int} {t : Nat} (h : M.2.2.2.2.2[k]? = some (pc, .goto off, 3, [t])) (kt : Rn d kc ks M t ls st S r S') : Rn d kc ks M k ls st S r S' := by
  refine ⟨kt.1, ?_⟩
  intro hM g p l e R s m args below meth c Z F E H locs cells slots la hP hS hc hs hl
  obtain ⟨hd, hL, e1, -⟩ := hM.entry h
  rw [e1]
  have ht : (pc : Int) + off = (pcAt M t : Int) := of_decide_eq_true hL
  exact lv_goto F.1 F.2.1 hd ht (kt.2 hM g p l e R s m args below meth c Z F E H locs cells slots la hP hS hc hs hl)
theorem Rn.ifnonnull {d kc ks : Nat} {M : Mt} {k pc : Nat} {ls : List (Option Value)} {st : List Value} {S : Sg} {r : Option Value} {S' : Sg} {off : Int} {t x : Nat} (h : M.2.2.2.2.2[k]? = some (pc, .ifnonnull off, 3, [t])) (kt : Rn d kc ks M t ls st S r S') : Rn d kc ks M k ls (.ref x :: st) S r S' := by
  refine ⟨kt.1, ?_⟩
  intro hM g p l e R s m args below meth c Z F E H locs cells slots la hP hS hc hs hl
  obtain ⟨hd, hL, e1, -⟩ := hM.entry h
  rw [e1]
  have ht : (pc : Int) + off = (pcAt M t : Int) := of_decide_eq_true hL
  exact lv_ifnonnull F.1 F.2.1 hd ht (kt.2 hM g p l e R s m args below meth c Z F E H locs cells slots la hP hS hc hs hl)
theorem Rn.ifnonnullN {d kc ks : Nat} {M : Mt} {k pc : Nat} {z : List Nat} {ls : List (Option Value)} {st : List Value} {S : Sg} {r : Option Value} {S' : Sg} {off : Int} (h : M.2.2.2.2.2[k]? = some (pc, .ifnonnull off, 3, z))  (hn : Rn d kc ks M (k + 1) ls st S r S') : Rn d kc ks M k ls (.null :: st) S r S' := by
  refine ⟨hn.1, ?_⟩
  intro hM g p l e R s m args below meth c Z F E H locs cells slots la hP hS hc hs hl
  obtain ⟨hd, -, e1, e2⟩ := hM.entry h
  have e2 := e2 rfl
  have hn := hn.2 hM g p l e R s m args below meth c Z F E H locs cells slots la hP hS hc hs hl
  rw [e2] at hn
  rw [e1]
  exact lv_ifnonnullN F.1 F.2.1 hd hn
theorem Rn.tableOut {d kc ks : Nat} {M : Mt} {k pc : Nat} {z : List Nat} {ls : List (Option Value)} {st : List Value} {S : Sg} {r : Option Value} {S' : Sg} {dflt lo hi : Int} {offs : Array Int} {len t : Nat} {x : Int32} (h : M.2.2.2.2.2[k]? = some (pc, .tableswitch dflt lo hi offs, len, z)) (hx : x.toInt < lo ∨ hi < x.toInt) (ht : (pc : Int) + dflt = (pcAt M t : Int)) (kt : Rn d kc ks M t ls st S r S') : Rn d kc ks M k ls (.int x :: st) S r S' := by
  refine ⟨kt.1, ?_⟩
  intro hM g p l e R s m args below meth c Z F E H locs cells slots la hP hS hc hs hl
  obtain ⟨hd, hL, e1, -⟩ := hM.entry h
  rw [e1]
  exact lv_tableOut F.1 F.2.1 hd hx ht (kt.2 hM g p l e R s m args below meth c Z F E H locs cells slots la hP hS hc hs hl)
theorem Rn.tableIn {d kc ks : Nat} {M : Mt} {k pc : Nat} {z : List Nat} {ls : List (Option Value)} {st : List Value} {S : Sg} {r : Option Value} {S' : Sg} {dflt lo hi : Int} {offs : Array Int} {len t : Nat} {x : Int32} {off : Int} (h : M.2.2.2.2.2[k]? = some (pc, .tableswitch dflt lo hi offs, len, z)) (h1 : ¬ x.toInt < lo) (h2 : ¬ hi < x.toInt) (ho : offs[(x.toInt - lo).toNat]? = some off) (ht : (pc : Int) + off = (pcAt M t : Int)) (kt : Rn d kc ks M t ls st S r S') : Rn d kc ks M k ls (.int x :: st) S r S' := by
  refine ⟨kt.1, ?_⟩
  intro hM g p l e R s m args below meth c Z F E H locs cells slots la hP hS hc hs hl
  obtain ⟨hd, hL, e1, -⟩ := hM.entry h
  rw [e1]
  exact lv_tableIn F.1 F.2.1 hd h1 h2 ho ht (kt.2 hM g p l e R s m args below meth c Z F E H locs cells slots la hP hS hc hs hl)
theorem Rn.lookup {d kc ks : Nat} {M : Mt} {k pc : Nat} {z : List Nat} {ls : List (Option Value)} {st : List Value} {S : Sg} {r : Option Value} {S' : Sg} {dflt : Int} {ps : Array (Int × Int)} {len t : Nat} {x : Int32} {off : Int} (h : M.2.2.2.2.2[k]? = some (pc, .lookupswitch dflt ps, len, z)) (hp : (ps.toList.zip (ps.toList.drop 1)).all (fun (a, next) => a.1 < next.1) = true) (ho : Op.lookupswitch.offset ps.toList dflt x.toInt = off) (ht : (pc : Int) + off = (pcAt M t : Int)) (kt : Rn d kc ks M t ls st S r S') : Rn d kc ks M k ls (.int x :: st) S r S' := by
  refine ⟨kt.1, ?_⟩
  intro hM g p l e R s m args below meth c Z F E H locs cells slots la hP hS hc hs hl
  obtain ⟨hd, hL, e1, -⟩ := hM.entry h
  rw [e1]
  exact lv_lookup F.1 F.2.1 hd hp ho ht (kt.2 hM g p l e R s m args below meth c Z F E H locs cells slots la hP hS hc hs hl)
theorem Rn.reti {d kc ks : Nat} {M : Mt} {k pc : Nat} {z : List Nat} {ls : List (Option Value)} {S : Sg} {v : Int32} {ty : FieldType} (h : M.2.2.2.2.2[k]? = some (pc, .ireturn, 1, z)) (ht : M.2.2.2.1 = some ty) (hn : narrow ty (.int v) = .int v) : Rn d kc ks M k ls [.int v] S (some (.int v)) S := by
  refine ⟨xlow.rf, ?_⟩
  intro hM g p l e R s m args below meth c Z F E H locs cells slots la hP hS hc hs hl
  exact E H locs cells slots k la ⟨_, h, rfl, rfl, ty, ht, hn⟩ hP hS (by omega) (by omega)
theorem Rn.retl {d kc ks : Nat} {M : Mt} {k pc : Nat} {z : List Nat} {ls : List (Option Value)} {S : Sg} {v : Int64} (h : M.2.2.2.2.2[k]? = some (pc, .lreturn, 1, z)) (ht : M.2.2.2.1 = some .long) : Rn d kc ks M k ls [.long v] S (some (.long v)) S := by
  refine ⟨xlow.rf, ?_⟩
  intro hM g p l e R s m args below meth c Z F E H locs cells slots la hP hS hc hs hl
  exact E H locs cells slots k la ⟨_, h, rfl, rfl, ht⟩ hP hS (by omega) (by omega)
theorem Rn.reta {d kc ks : Nat} {M : Mt} {k pc a : Nat} {z : List Nat} {ls : List (Option Value)} {S : Sg} {n : String} (h : M.2.2.2.2.2[k]? = some (pc, .areturn, 1, z)) (ht : M.2.2.2.1 = some (.object n)) : Rn d kc ks M k ls [.ref a] S (some (.ref a)) S := by
  refine ⟨xlow.rf, ?_⟩
  intro hM g p l e R s m args below meth c Z F E H locs cells slots la hP hS hc hs hl
  exact E H locs cells slots k la ⟨_, h, rfl, rfl, n, ht⟩ hP hS (by omega) (by omega)
theorem Rn.retN {d kc ks : Nat} {M : Mt} {k pc : Nat} {z : List Nat} {ls : List (Option Value)} {S : Sg} {n : String} (h : M.2.2.2.2.2[k]? = some (pc, .areturn, 1, z)) (ht : M.2.2.2.1 = some (.object n)) : Rn d kc ks M k ls [.null] S (some .null) S := by
  refine ⟨xlow.rf, ?_⟩
  intro hM g p l e R s m args below meth c Z F E H locs cells slots la hP hS hc hs hl
  exact E H locs cells slots k la ⟨_, h, rfl, rfl, n, ht⟩ hP hS (by omega) (by omega)
theorem Rn.retv {d kc ks : Nat} {M : Mt} {k pc : Nat} {z : List Nat} {ls : List (Option Value)} {S : Sg} (h : M.2.2.2.2.2[k]? = some (pc, .return_, 1, z)) (ht : M.2.2.2.1 = none) : Rn d kc ks M k ls [] S none S := by
  refine ⟨xlow.rf, ?_⟩
  intro hM g p l e R s m args below meth c Z F E H locs cells slots la hP hS hc hs hl
  exact E H locs cells slots k la ⟨_, h, rfl, rfl, ht⟩ hP hS (by omega) (by omega)
