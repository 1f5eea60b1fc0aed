theorem of_w32 (x : Int) : Int32.ofInt (w32 x) = Int32.ofInt x := Int32.toInt_inj.1 (by rw [i32_of (w32_rng x), Int32.toInt_ofInt]; exact (bmod_w32 x).symm)
theorem of_w64 (x : Int) : Int64.ofInt (w64 x) = Int64.ofInt x := Int64.toInt_inj.1 (by rw [i64_of (w64_rng x), Int64.toInt_ofInt]; exact (bmod_w64 x).symm)
theorem i32_add (x y : Int) : Int32.ofInt x + Int32.ofInt y = Int32.ofInt (w32 (x + y)) := by rw [of_w32, Int32.ofInt_add]
theorem i32_sub (x y : Int) : Int32.ofInt x - Int32.ofInt y = Int32.ofInt (w32 (x - y)) := by rw [of_w32, Int32.ofInt_sub]
theorem i32_mul (x y : Int) : Int32.ofInt x * Int32.ofInt y = Int32.ofInt (w32 (x * y)) := by rw [of_w32, Int32.ofInt_mul]
theorem i32_neg (x : Int) : -Int32.ofInt x = Int32.ofInt (w32 (-x)) := by rw [of_w32, Int32.ofInt_neg]
theorem i64_add (x y : Int) : Int64.ofInt x + Int64.ofInt y = Int64.ofInt (w64 (x + y)) := by rw [of_w64, Int64.ofInt_add]
theorem i64_sub (x y : Int) : Int64.ofInt x - Int64.ofInt y = Int64.ofInt (w64 (x - y)) := by rw [of_w64, Int64.ofInt_sub]
theorem i64_mul (x y : Int) : Int64.ofInt x * Int64.ofInt y = Int64.ofInt (w64 (x * y)) := by rw [of_w64, Int64.ofInt_mul]
abbrev R32 (x : Int) : Prop := -2147483648 ≤ x ∧ x < 2147483648
abbrev R64 (x : Int) : Prop := -9223372036854775808 ≤ x ∧ x < 9223372036854775808
theorem i32_div {x y : Int} (hx : R32 x) (hy : R32 y) : Int32.ofInt x / Int32.ofInt y = Int32.ofInt (w32 (x.tdiv y)) := i32_eq (by rw [Int32.toInt_div, i32_of hx, i32_of hy]; exact bmod_w32 _)
theorem i64_div {x y : Int} (hx : R64 x) (hy : R64 y) : Int64.ofInt x / Int64.ofInt y = Int64.ofInt (w64 (x.tdiv y)) := i64_eq (by rw [Int64.toInt_div, i64_of hx, i64_of hy]; exact bmod_w64 _)
theorem i32_mod {x y : Int} (hx : R32 x) (hy : R32 y) : Int32.ofInt x % Int32.ofInt y = Int32.ofInt (x.tmod y) := by
  rw [i32_back (Int32.ofInt x % Int32.ofInt y), Int32.toInt_mod, i32_of hx, i32_of hy]
theorem i64_mod {x y : Int} (hx : R64 x) (hy : R64 y) : Int64.ofInt x % Int64.ofInt y = Int64.ofInt (x.tmod y) := by
  rw [i64_back (Int64.ofInt x % Int64.ofInt y), Int64.toInt_mod, i64_of hx, i64_of hy]
theorem i32_rem {x y : Int} (hx : R32 x) (hy : R32 y) : Int32.ofInt x - Int32.ofInt x / Int32.ofInt y * Int32.ofInt y = Int32.ofInt (x.tmod y) := by
  rw [i32_div hx hy, of_w32, ← Int32.ofInt_mul, ← Int32.ofInt_sub, Int.tmod_def, Int.mul_comm]
theorem i64_rem {x y : Int} (hx : R64 x) (hy : R64 y) : Int64.ofInt x - Int64.ofInt x / Int64.ofInt y * Int64.ofInt y = Int64.ofInt (x.tmod y) := by
  rw [i64_div hx hy, of_w64, ← Int64.ofInt_mul, ← Int64.ofInt_sub, Int.tmod_def, Int.mul_comm]
theorem r32_mod {x y : Int} (hx : R32 x) (hy : R32 y) : R32 (x.tmod y) := by
  have h := i32_rng (Int32.ofInt x % Int32.ofInt y)
  rw [Int32.toInt_mod, i32_of hx, i32_of hy] at h
  exact h
theorem r64_mod {x y : Int} (hx : R64 x) (hy : R64 y) : R64 (x.tmod y) := by
  have h := i64_rng (Int64.ofInt x % Int64.ofInt y)
  rw [Int64.toInt_mod, i64_of hx, i64_of hy] at h
  exact h
theorem i32_lt {x y : Int} (hx : R32 x) (hy : R32 y) : Int32.ofInt x < Int32.ofInt y ↔ x < y := by rw [Int32.lt_iff_toInt_lt, i32_of hx, i32_of hy]
theorem i32_le {x y : Int} (hx : R32 x) (hy : R32 y) : Int32.ofInt x ≤ Int32.ofInt y ↔ x ≤ y := by rw [Int32.le_iff_toInt_le, i32_of hx, i32_of hy]
theorem i32_ne {x y : Int} (hx : R32 x) (hy : R32 y) : Int32.ofInt x = Int32.ofInt y ↔ x = y := by rw [← Int32.toInt_inj, i32_of hx, i32_of hy]
theorem i64_lt {x y : Int} (hx : R64 x) (hy : R64 y) : Int64.ofInt x < Int64.ofInt y ↔ x < y := by rw [Int64.lt_iff_toInt_lt, i64_of hx, i64_of hy]
theorem i64_ne {x y : Int} (hx : R64 x) (hy : R64 y) : Int64.ofInt x = Int64.ofInt y ↔ x = y := by rw [← Int64.toInt_inj, i64_of hx, i64_of hy]
theorem r32_0 : R32 0 := by decide
theorem aNs_I {x : Int} {st : List AV} (h : aNs (aI x :: st)) : R32 x := (h _ List.mem_cons_self).1 rfl
theorem aNs_L {x : Int} {st : List AV} (h : aNs (aL x :: st)) : R64 x := (h _ List.mem_cons_self).2 rfl
theorem aNs_t {a : AV} {st : List AV} (h : aNs (a :: st)) : aNs st := fun b hb => h b (List.mem_cons_of_mem _ hb)
theorem aNs_c {a : AV} {st : List AV} (ha : aNr a) (h : aNs st) : aNs (a :: st) := List.forall_mem_cons.mpr ⟨ha, h⟩
theorem aV_ref (b j : Nat) : aV b (aR (j : Int)) = .ref (b + j) := by
  show (if (j : Int) < 0 then Value.null else .ref (b + (j : Int).toNat)) = _
  rw [if_neg (by omega), Int.toNat_natCast]
theorem aV_null (b : Nat) : aV b (aR (-1)) = .null := rfl
def xShl (x y : Int) : Int := (Int32.ofInt x <<< (Int32.ofInt y &&& 31)).toInt
def xShr (x y : Int) : Int := (Int32.ofInt x >>> (Int32.ofInt y &&& 31)).toInt
def xUshr (x y : Int) : Int := (((Int32.ofInt x).toUInt32 >>> ((Int32.ofInt y).toUInt32 &&& Int32.toUInt32 31)).toInt32).toInt
def xAnd (x y : Int) : Int := (Int32.ofInt x &&& Int32.ofInt y).toInt
def xLor (x y : Int) : Int := (Int64.ofInt x ||| Int64.ofInt y).toInt
def xLshl (x y : Int) : Int := (Int64.ofInt x <<< ((Int32.ofInt y).toInt64 &&& 63)).toInt
def xI2c (x : Int) : Int := (((Int32.ofInt x).toUInt32 % 65536).toInt32).toInt
theorem v_iconst {E : EN} {mi : MI} {k C S : Nat} {sh : Sp} {mem : Mm} {cs : Nat × Nat} {pc : Nat} {al : List (Nat × AV)} {st : List AV} {Q : PQ} {n : Int} (hd : decode mi.2.1 pc = .ok (.iconst n, 1)) (hr : R32 n) (h : VG E mi k C S sh mem cs (pc + 1) al (aI n :: st) Q) : VG E mi k C S sh mem cs pc al st Q := by
  intro p e s m args below meth c H locs ls hx hc hW hS hl hna hns
  exact lv_iconst hx hc.1 hd rfl (h p e s m args below meth c H locs ls hx hc hW hS hl hna (aNs_c (aNr_I hr) hns))
theorem v_bipush {E : EN} {mi : MI} {k C S : Nat} {sh : Sp} {mem : Mm} {cs : Nat × Nat} {pc : Nat} {al : List (Nat × AV)} {st : List AV} {Q : PQ} {n : Int} (hd : decode mi.2.1 pc = .ok (.bipush n, 2)) (hr : -128 ≤ n ∧ n < 128) (h : VG E mi k C S sh mem cs (pc + 2) al (aI n :: st) Q) : VG E mi k C S sh mem cs pc al st Q := by
  intro p e s m args below meth c H locs ls hx hc hW hS hl hna hns
  refine lv_bipush (v := Int32.ofInt n) hx hc.1 hd ?_ (h p e s m args below meth c H locs ls hx hc hW hS hl hna (aNs_c (aNr_I (by omega)) hns))
  exact Int32.toInt_inj.1 (by rw [Int8.toInt_toInt32, Int8.toInt_ofInt_of_le hr.1 hr.2, i32_of (by omega)])
theorem v_sipush {E : EN} {mi : MI} {k C S : Nat} {sh : Sp} {mem : Mm} {cs : Nat × Nat} {pc : Nat} {al : List (Nat × AV)} {st : List AV} {Q : PQ} {n : Int} (hd : decode mi.2.1 pc = .ok (.sipush n, 3)) (hr : -32768 ≤ n ∧ n < 32768) (h : VG E mi k C S sh mem cs (pc + 3) al (aI n :: st) Q) : VG E mi k C S sh mem cs pc al st Q := by
  intro p e s m args below meth c H locs ls hx hc hW hS hl hna hns
  refine lv_sipush (v := Int32.ofInt n) hx hc.1 hd ?_ (h p e s m args below meth c H locs ls hx hc hW hS hl hna (aNs_c (aNr_I (by omega)) hns))
  exact Int32.toInt_inj.1 (by rw [Int16.toInt_toInt32, Int16.toInt_ofInt_of_le hr.1 hr.2, i32_of (by omega)])
theorem v_lconst0 {E : EN} {mi : MI} {k C S : Nat} {sh : Sp} {mem : Mm} {cs : Nat × Nat} {pc : Nat} {al : List (Nat × AV)} {st : List AV} {Q : PQ} (hd : decode mi.2.1 pc = .ok (.lconst 0, 1)) (h : VG E mi k C S sh mem cs (pc + 1) al (aL 0 :: st) Q) : VG E mi k C S sh mem cs pc al st Q := by
  intro p e s m args below meth c H locs ls hx hc hW hS hl hna hns
  exact lv_lconst (v := Int64.ofInt 0) hx hc.1 hd (by decide) (h p e s m args below meth c H locs ls hx hc hW hS hl hna (aNs_c (aNr_L (by decide)) hns))
theorem v_lconst1 {E : EN} {mi : MI} {k C S : Nat} {sh : Sp} {mem : Mm} {cs : Nat × Nat} {pc : Nat} {al : List (Nat × AV)} {st : List AV} {Q : PQ} (hd : decode mi.2.1 pc = .ok (.lconst 1, 1)) (h : VG E mi k C S sh mem cs (pc + 1) al (aL 1 :: st) Q) : VG E mi k C S sh mem cs pc al st Q := by
  intro p e s m args below meth c H locs ls hx hc hW hS hl hna hns
  exact lv_lconst (v := Int64.ofInt 1) hx hc.1 hd (by decide) (h p e s m args below meth c H locs ls hx hc hW hS hl hna (aNs_c (aNr_L (by decide)) hns))
theorem v_ldc {E : EN} {mi : MI} {k C S : Nat} {sh : Sp} {mem : Mm} {cs : Nat × Nat} {pc : Nat} {al : List (Nat × AV)} {st : List AV} {Q : PQ} {index : Nat} {n : Int} (hd : decode mi.2.1 pc = .ok (.ldc index, 2)) (hw : Cond.constant mi.1.cls index (Int32.ofInt n) ∈ lw_gd) (hr : R32 n) (h : VG E mi k C S sh mem cs (pc + 2) al (aI n :: st) Q) : VG E mi k C S sh mem cs pc al st Q := by
  intro p e s m args below meth c H locs ls hx hc hW hS hl hna hns
  exact lv_ldc hx hc.1 hc.2.2.2.1 (hc.2.2.2.2.1 _ hw) hd (h p e s m args below meth c H locs ls hx hc hW hS hl hna (aNs_c (aNr_I hr) hns))
theorem v_ldcw {E : EN} {mi : MI} {k C S : Nat} {sh : Sp} {mem : Mm} {cs : Nat × Nat} {pc : Nat} {al : List (Nat × AV)} {st : List AV} {Q : PQ} {index : Nat} {n : Int} (hd : decode mi.2.1 pc = .ok (.ldc_w index, 3)) (hw : Cond.constant mi.1.cls index (Int32.ofInt n) ∈ lw_gd) (hr : R32 n) (h : VG E mi k C S sh mem cs (pc + 3) al (aI n :: st) Q) : VG E mi k C S sh mem cs pc al st Q := by
  intro p e s m args below meth c H locs ls hx hc hW hS hl hna hns
  exact lv_ldcw hx hc.1 hc.2.2.2.1 (hc.2.2.2.2.1 _ hw) hd (h p e s m args below meth c H locs ls hx hc hW hS hl hna (aNs_c (aNr_I hr) hns))
theorem v_ldc2 {E : EN} {mi : MI} {k C S : Nat} {sh : Sp} {mem : Mm} {cs : Nat × Nat} {pc : Nat} {al : List (Nat × AV)} {st : List AV} {Q : PQ} {index : Nat} {n : Int} (hd : decode mi.2.1 pc = .ok (.ldc2_w index, 3)) (hw : Cond.constantLong mi.1.cls index (Int64.ofInt n) ∈ lw_gd) (hr : R64 n) (h : VG E mi k C S sh mem cs (pc + 3) al (aL n :: st) Q) : VG E mi k C S sh mem cs pc al st Q := by
  intro p e s m args below meth c H locs ls hx hc hW hS hl hna hns
  exact lv_ldc2 hx hc.1 hc.2.2.2.1 (hc.2.2.2.2.1 _ hw) hd (h p e s m args below meth c H locs ls hx hc hW hS hl hna (aNs_c (aNr_L hr) hns))
theorem v_null {E : EN} {mi : MI} {k C S : Nat} {sh : Sp} {mem : Mm} {cs : Nat × Nat} {pc : Nat} {al : List (Nat × AV)} {st : List AV} {Q : PQ} (hd : decode mi.2.1 pc = .ok (.aconst_null, 1)) (h : VG E mi k C S sh mem cs (pc + 1) al (aR (-1) :: st) Q) : VG E mi k C S sh mem cs pc al st Q := by
  intro p e s m args below meth c H locs ls hx hc hW hS hl hna hns
  exact lv_null hx hc.1 hd (h p e s m args below meth c H locs ls hx hc hW hS hl hna (aNs_c (aNr_R _) hns))
theorem aLv_at {b n : Nat} {ls : Array Slot} {al : List (Nat × AV)} (h : lv_has ls n (aLv b al)) (j : Nat) {i : Nat} {v : AV} (hj : al[j]? = some (i, v)) : ls[i]? = some (.val (aV b v)) := lv_at h j (by rw [List.getElem?_map, hj]; rfl)
theorem aNl_at {al : List (Nat × AV)} (h : aNl al) (j : Nat) {i : Nat} {v : AV} (hj : al[j]? = some (i, v)) : aNr v := h _ (List.mem_of_getElem? hj)
theorem v_iload {E : EN} {mi : MI} {k C S : Nat} {sh : Sp} {mem : Mm} {cs : Nat × Nat} {pc : Nat} {al : List (Nat × AV)} {st : List AV} {Q : PQ} {i : Nat} {x : Int} (hd : decode mi.2.1 pc = .ok (.iload i, 2)) (j : Nat) (hj : al[j]? = some (i, aI x)) (h : VG E mi k C S sh mem cs (pc + 2) al (aI x :: st) Q) : VG E mi k C S sh mem cs pc al st Q := by
  intro p e s m args below meth c H locs ls hx hc hW hS hl hna hns
  exact lv_iload hx hc.1 hd (aLv_at hl j hj) (h p e s m args below meth c H locs ls hx hc hW hS hl hna (aNs_c (aNl_at hna j hj) hns))
theorem v_iload_n {E : EN} {mi : MI} {k C S : Nat} {sh : Sp} {mem : Mm} {cs : Nat × Nat} {pc : Nat} {al : List (Nat × AV)} {st : List AV} {Q : PQ} {i : Fin 4} {x : Int} (hd : decode mi.2.1 pc = .ok (.iload_n i, 1)) (j : Nat) (hj : al[j]? = some ((i : Nat), aI x)) (h : VG E mi k C S sh mem cs (pc + 1) al (aI x :: st) Q) : VG E mi k C S sh mem cs pc al st Q := by
  intro p e s m args below meth c H locs ls hx hc hW hS hl hna hns
  exact lv_iload_n hx hc.1 hd rfl (aLv_at hl j hj) (h p e s m args below meth c H locs ls hx hc hW hS hl hna (aNs_c (aNl_at hna j hj) hns))
theorem v_lload {E : EN} {mi : MI} {k C S : Nat} {sh : Sp} {mem : Mm} {cs : Nat × Nat} {pc : Nat} {al : List (Nat × AV)} {st : List AV} {Q : PQ} {i : Nat} {x : Int} (hd : decode mi.2.1 pc = .ok (.lload i, 2)) (j : Nat) (hj : al[j]? = some (i, aL x)) (h : VG E mi k C S sh mem cs (pc + 2) al (aL x :: st) Q) : VG E mi k C S sh mem cs pc al st Q := by
  intro p e s m args below meth c H locs ls hx hc hW hS hl hna hns
  exact lv_lload hx hc.1 hd (aLv_at hl j hj) (h p e s m args below meth c H locs ls hx hc hW hS hl hna (aNs_c (aNl_at hna j hj) hns))
theorem v_lload_n {E : EN} {mi : MI} {k C S : Nat} {sh : Sp} {mem : Mm} {cs : Nat × Nat} {pc : Nat} {al : List (Nat × AV)} {st : List AV} {Q : PQ} {i : Fin 4} {x : Int} (hd : decode mi.2.1 pc = .ok (.lload_n i, 1)) (j : Nat) (hj : al[j]? = some ((i : Nat), aL x)) (h : VG E mi k C S sh mem cs (pc + 1) al (aL x :: st) Q) : VG E mi k C S sh mem cs pc al st Q := by
  intro p e s m args below meth c H locs ls hx hc hW hS hl hna hns
  exact lv_lload_n hx hc.1 hd rfl (aLv_at hl j hj) (h p e s m args below meth c H locs ls hx hc hW hS hl hna (aNs_c (aNl_at hna j hj) hns))
theorem v_aload {E : EN} {mi : MI} {k C S : Nat} {sh : Sp} {mem : Mm} {cs : Nat × Nat} {pc : Nat} {al : List (Nat × AV)} {st : List AV} {Q : PQ} {i : Nat} {x : Int} (hd : decode mi.2.1 pc = .ok (.aload i, 2)) (j : Nat) (hj : al[j]? = some ((i : Nat), aR x)) (h : VG E mi k C S sh mem cs (pc + 2) al (aR x :: st) Q) : VG E mi k C S sh mem cs pc al st Q := by
  intro p e s m args below meth c H locs ls hx hc hW hS hl hna hns
  have h1 := aLv_at hl j hj
  have h2 := h p e s m args below meth c H locs ls hx hc hW hS hl hna (aNs_c (aNl_at hna j hj) hns)
  have e1 : aSt (eB E) (aR x :: st) = aV (eB E) (aR x) :: aSt (eB E) st := rfl
  rw [e1] at h2
  rcases (show x < 0 ∨ 0 ≤ x by omega) with q | q
  · have e : aV (eB E) (aR x) = .null := if_pos q
    rw [e] at h1 h2
    exact lv_aloadN hx hc.1 hd h1 h2
  · have e : aV (eB E) (aR x) = .ref (eB E + x.toNat) := if_neg (show ¬ x < 0 by omega)
    rw [e] at h1 h2
    exact lv_aload hx hc.1 hd h1 h2
theorem v_aloadF {E : EN} {mi : MI} {k C S : Nat} {sh : Sp} {mem : Mm} {cs : Nat × Nat} {pc : Nat} {al : List (Nat × AV)} {st : List AV} {Q : PQ} {i : Nat} {x : Int} (hd : decode mi.2.1 pc = .ok (.aload i, 2)) (j : Nat) (hj : al[j]? = some ((i : Nat), aF x)) (h : VG E mi k C S sh mem cs (pc + 2) al (aF x :: st) Q) : VG E mi k C S sh mem cs pc al st Q := by
  intro p e s m args below meth c H locs ls hx hc hW hS hl hna hns
  exact lv_aload hx hc.1 hd (aLv_at hl j hj) (h p e s m args below meth c H locs ls hx hc hW hS hl hna (aNs_c (aNl_at hna j hj) hns))
theorem v_aload_n {E : EN} {mi : MI} {k C S : Nat} {sh : Sp} {mem : Mm} {cs : Nat × Nat} {pc : Nat} {al : List (Nat × AV)} {st : List AV} {Q : PQ} {i : Fin 4} {x : Int} (hd : decode mi.2.1 pc = .ok (.aload_n i, 1)) (j : Nat) (hj : al[j]? = some ((i : Nat), aR x)) (h : VG E mi k C S sh mem cs (pc + 1) al (aR x :: st) Q) : VG E mi k C S sh mem cs pc al st Q := by
  intro p e s m args below meth c H locs ls hx hc hW hS hl hna hns
  have h1 := aLv_at hl j hj
  have h2 := h p e s m args below meth c H locs ls hx hc hW hS hl hna (aNs_c (aNl_at hna j hj) hns)
  have e1 : aSt (eB E) (aR x :: st) = aV (eB E) (aR x) :: aSt (eB E) st := rfl
  rw [e1] at h2
  rcases (show x < 0 ∨ 0 ≤ x by omega) with q | q
  · have e : aV (eB E) (aR x) = .null := if_pos q
    rw [e] at h1 h2
    exact lv_aload_nN hx hc.1 hd rfl h1 h2
  · have e : aV (eB E) (aR x) = .ref (eB E + x.toNat) := if_neg (show ¬ x < 0 by omega)
    rw [e] at h1 h2
    exact lv_aload_n hx hc.1 hd rfl h1 h2
theorem v_aload_nF {E : EN} {mi : MI} {k C S : Nat} {sh : Sp} {mem : Mm} {cs : Nat × Nat} {pc : Nat} {al : List (Nat × AV)} {st : List AV} {Q : PQ} {i : Fin 4} {x : Int} (hd : decode mi.2.1 pc = .ok (.aload_n i, 1)) (j : Nat) (hj : al[j]? = some ((i : Nat), aF x)) (h : VG E mi k C S sh mem cs (pc + 1) al (aF x :: st) Q) : VG E mi k C S sh mem cs pc al st Q := by
  intro p e s m args below meth c H locs ls hx hc hW hS hl hna hns
  exact lv_aload_n hx hc.1 hd rfl (aLv_at hl j hj) (h p e s m args below meth c H locs ls hx hc hW hS hl hna (aNs_c (aNl_at hna j hj) hns))
def aSto (i : Nat) (v : AV) (al : List (Nat × AV)) : List (Nat × AV) := (i, v) :: al.filter fun q => !(q.1 == i) && !(q.1 + 1 == i && aC q.2 == 2)
def aSto2 (i : Nat) (v : AV) (al : List (Nat × AV)) : List (Nat × AV) := (i, v) :: al.filter fun q => !(q.1 == i) && (!(q.1 == i + 1) && !(q.1 + 1 == i && aC q.2 == 2))
theorem aSto_lv (b i : Nat) (v : AV) (al : List (Nat × AV)) : (i, aV b v) :: (aLv b al).filter (fun q => !(q.1 == i) && !(q.1 + 1 == i && q.2.category == 2)) = aLv b (aSto i v al) := by
  show _ = (i, aV b v) :: aLv b (al.filter _)
  congr 1
  induction al with
  | nil => rfl
  | cons q t ih =>
    show List.filter _ ((q.1, aV b q.2) :: aLv b t) = _
    rw [List.filter_cons, List.filter_cons]
    dsimp only
    rw [aV_cat]
    split
    · show _ = (q.1, aV b q.2) :: aLv b _
      rw [ih]
    · exact ih
theorem aSto2_lv (b i : Nat) (v : AV) (al : List (Nat × AV)) : (i, aV b v) :: (aLv b al).filter (fun q => !(q.1 == i) && (!(q.1 == i + 1) && !(q.1 + 1 == i && q.2.category == 2))) = aLv b (aSto2 i v al) := by
  show _ = (i, aV b v) :: aLv b (al.filter _)
  congr 1
  induction al with
  | nil => rfl
  | cons q t ih =>
    show List.filter _ ((q.1, aV b q.2) :: aLv b t) = _
    rw [List.filter_cons, List.filter_cons]
    dsimp only
    rw [aV_cat]
    split
    · show _ = (q.1, aV b q.2) :: aLv b _
      rw [ih]
    · exact ih
theorem aNl_sto {i : Nat} {v : AV} {al : List (Nat × AV)} (hv : aNr v) (h : aNl al) : aNl (aSto i v al) := fun q hq => by
  rcases List.mem_cons.mp hq with e | e
  · rw [e]; exact hv
  · exact h q (List.mem_filter.mp e).1
theorem aNl_sto2 {i : Nat} {v : AV} {al : List (Nat × AV)} (hv : aNr v) (h : aNl al) : aNl (aSto2 i v al) := fun q hq => by
  rcases List.mem_cons.mp hq with e | e
  · rw [e]; exact hv
  · exact h q (List.mem_filter.mp e).1
theorem v_istore {E : EN} {mi : MI} {k C S : Nat} {sh : Sp} {mem : Mm} {cs : Nat × Nat} {pc : Nat} {al : List (Nat × AV)} {st : List AV} {Q : PQ} {al2 : List (Nat × AV)} {i : Nat} {x : Int} (hd : decode mi.2.1 pc = .ok (.istore i, 2)) (hi : (i : Nat) < mi.2.2.1) (ha : aSto (i : Nat) (aI x) al = al2) (h : VG E mi k C S sh mem cs (pc + 2) al2 st Q) : VG E mi k C S sh mem cs pc al (aI x :: st) Q := by
  subst ha
  intro p e s m args below meth c H locs ls hx hc hW hS hl hna hns
  exact lv_istore hx hc.1 hd hl hi (aSto_lv _ _ (aI x) _) fun ls2 hl2 => h p e s m args below meth c H locs ls2 hx hc hW hS hl2 (aNl_sto (hns _ List.mem_cons_self) hna) (aNs_t hns)
theorem v_istore_n {E : EN} {mi : MI} {k C S : Nat} {sh : Sp} {mem : Mm} {cs : Nat × Nat} {pc : Nat} {al : List (Nat × AV)} {st : List AV} {Q : PQ} {al2 : List (Nat × AV)} {i : Fin 4} {x : Int} (hd : decode mi.2.1 pc = .ok (.istore_n i, 1)) (hi : (i : Nat) < mi.2.2.1) (ha : aSto (i : Nat) (aI x) al = al2) (h : VG E mi k C S sh mem cs (pc + 1) al2 st Q) : VG E mi k C S sh mem cs pc al (aI x :: st) Q := by
  subst ha
  intro p e s m args below meth c H locs ls hx hc hW hS hl hna hns
  exact lv_istore_n hx hc.1 hd rfl hl hi (aSto_lv _ _ (aI x) _) fun ls2 hl2 => h p e s m args below meth c H locs ls2 hx hc hW hS hl2 (aNl_sto (hns _ List.mem_cons_self) hna) (aNs_t hns)
theorem v_lstore {E : EN} {mi : MI} {k C S : Nat} {sh : Sp} {mem : Mm} {cs : Nat × Nat} {pc : Nat} {al : List (Nat × AV)} {st : List AV} {Q : PQ} {al2 : List (Nat × AV)} {i : Nat} {x : Int} (hd : decode mi.2.1 pc = .ok (.lstore i, 2)) (hi : (i : Nat) + 1 < mi.2.2.1) (ha : aSto2 (i : Nat) (aL x) al = al2) (h : VG E mi k C S sh mem cs (pc + 2) al2 st Q) : VG E mi k C S sh mem cs pc al (aL x :: st) Q := by
  subst ha
  intro p e s m args below meth c H locs ls hx hc hW hS hl hna hns
  exact lv_lstore hx hc.1 hd hl hi (aSto2_lv _ _ (aL x) _) fun ls2 hl2 => h p e s m args below meth c H locs ls2 hx hc hW hS hl2 (aNl_sto2 (hns _ List.mem_cons_self) hna) (aNs_t hns)
theorem v_lstore_n {E : EN} {mi : MI} {k C S : Nat} {sh : Sp} {mem : Mm} {cs : Nat × Nat} {pc : Nat} {al : List (Nat × AV)} {st : List AV} {Q : PQ} {al2 : List (Nat × AV)} {i : Fin 4} {x : Int} (hd : decode mi.2.1 pc = .ok (.lstore_n i, 1)) (hi : (i : Nat) + 1 < mi.2.2.1) (ha : aSto2 (i : Nat) (aL x) al = al2) (h : VG E mi k C S sh mem cs (pc + 1) al2 st Q) : VG E mi k C S sh mem cs pc al (aL x :: st) Q := by
  subst ha
  intro p e s m args below meth c H locs ls hx hc hW hS hl hna hns
  exact lv_lstore_n hx hc.1 hd rfl hl hi (aSto2_lv _ _ (aL x) _) fun ls2 hl2 => h p e s m args below meth c H locs ls2 hx hc hW hS hl2 (aNl_sto2 (hns _ List.mem_cons_self) hna) (aNs_t hns)
theorem v_astore {E : EN} {mi : MI} {k C S : Nat} {sh : Sp} {mem : Mm} {cs : Nat × Nat} {pc : Nat} {al : List (Nat × AV)} {st : List AV} {Q : PQ} {al2 : List (Nat × AV)} {i : Nat} {x : Int} (hd : decode mi.2.1 pc = .ok (.astore i, 2)) (hi : (i : Nat) < mi.2.2.1) (ha : aSto (i : Nat) (aR x) al = al2) (h : VG E mi k C S sh mem cs (pc + 2) al2 st Q) : VG E mi k C S sh mem cs pc al (aR x :: st) Q := by
  subst ha
  intro p e s m args below meth c H locs ls hx hc hW hS hl hna hns
  have e1 : aSt (eB E) (aR x :: st) = aV (eB E) (aR x) :: aSt (eB E) st := rfl
  have h3 := aSto_lv (eB E) (i : Nat) (aR x) al
  rw [e1]
  have kk := fun ls2 hl2 => h p e s m args below meth c H locs ls2 hx hc hW hS hl2 (aNl_sto (hns _ List.mem_cons_self) hna) (aNs_t hns)
  rcases (show x < 0 ∨ 0 ≤ x by omega) with q | q
  · have e : aV (eB E) (aR x) = .null := if_pos q
    rw [e] at h3 ⊢
    exact lv_astoreN hx hc.1 hd hl hi h3 kk
  · have e : aV (eB E) (aR x) = .ref (eB E + x.toNat) := if_neg (show ¬ x < 0 by omega)
    rw [e] at h3 ⊢
    exact lv_astore hx hc.1 hd hl hi h3 kk
theorem v_astore_n {E : EN} {mi : MI} {k C S : Nat} {sh : Sp} {mem : Mm} {cs : Nat × Nat} {pc : Nat} {al : List (Nat × AV)} {st : List AV} {Q : PQ} {al2 : List (Nat × AV)} {i : Fin 4} {x : Int} (hd : decode mi.2.1 pc = .ok (.astore_n i, 1)) (hi : (i : Nat) < mi.2.2.1) (ha : aSto (i : Nat) (aR x) al = al2) (h : VG E mi k C S sh mem cs (pc + 1) al2 st Q) : VG E mi k C S sh mem cs pc al (aR x :: st) Q := by
  subst ha
  intro p e s m args below meth c H locs ls hx hc hW hS hl hna hns
  have e1 : aSt (eB E) (aR x :: st) = aV (eB E) (aR x) :: aSt (eB E) st := rfl
  have h3 := aSto_lv (eB E) (i : Nat) (aR x) al
  rw [e1]
  have kk := fun ls2 hl2 => h p e s m args below meth c H locs ls2 hx hc hW hS hl2 (aNl_sto (hns _ List.mem_cons_self) hna) (aNs_t hns)
  rcases (show x < 0 ∨ 0 ≤ x by omega) with q | q
  · have e : aV (eB E) (aR x) = .null := if_pos q
    rw [e] at h3 ⊢
    exact lv_astore_nN hx hc.1 hd rfl hl hi h3 kk
  · have e : aV (eB E) (aR x) = .ref (eB E + x.toNat) := if_neg (show ¬ x < 0 by omega)
    rw [e] at h3 ⊢
    exact lv_astore_n hx hc.1 hd rfl hl hi h3 kk
theorem v_iinc {E : EN} {mi : MI} {k C S : Nat} {sh : Sp} {mem : Mm} {cs : Nat × Nat} {pc : Nat} {al : List (Nat × AV)} {st : List AV} {Q : PQ} {al2 : List (Nat × AV)} {i : Nat} {n x : Int} (hd : decode mi.2.1 pc = .ok (.iinc i n, 3)) (j : Nat) (hj : al[j]? = some (i, aI x)) (hi : i < mi.2.2.1) (ha : aSto i (aI (w32 (x + n))) al = al2) (h : VG E mi k C S sh mem cs (pc + 3) al2 st Q) : VG E mi k C S sh mem cs pc al st Q := by
  subst ha
  intro p e s m args below meth c H locs ls hx hc hW hS hl hna hns
  exact lv_iinc (k := j) (x := Int32.ofInt x) (v := Int32.ofInt (w32 (x + n))) hx hc.1 hd hl (by rw [List.getElem?_map, hj]; rfl) (i32_add x n) hi (aSto_lv _ _ (aI (w32 (x + n))) _) fun ls2 hl2 => h p e s m args below meth c H locs ls2 hx hc hW hS hl2 (aNl_sto (aNr_I (w32_rng _)) hna) hns
theorem v_iadd {E : EN} {mi : MI} {k C S : Nat} {sh : Sp} {mem : Mm} {cs : Nat × Nat} {pc : Nat} {al : List (Nat × AV)} {st : List AV} {Q : PQ} {x y : Int} (hd : decode mi.2.1 pc = .ok (.iadd, 1)) (h : VG E mi k C S sh mem cs (pc + 1) al (aI (w32 (x + y)) :: st) Q) : VG E mi k C S sh mem cs pc al (aI y :: aI x :: st) Q := by
  intro p e s m args below meth c H locs ls hx hc hW hS hl hna hns
  have hy := aNs_I hns
  have hx1 := aNs_I (aNs_t hns)
  refine lv_iadd (x := Int32.ofInt x) (y := Int32.ofInt y) (rest := aSt (eB E) st) hx hc.1 hd ?_
  rw [i32_add]
  exact h p e s m args below meth c H locs ls hx hc hW hS hl hna (aNs_c (aNr_I (w32_rng _)) (aNs_t (aNs_t hns)))
theorem v_isub {E : EN} {mi : MI} {k C S : Nat} {sh : Sp} {mem : Mm} {cs : Nat × Nat} {pc : Nat} {al : List (Nat × AV)} {st : List AV} {Q : PQ} {x y : Int} (hd : decode mi.2.1 pc = .ok (.isub, 1)) (h : VG E mi k C S sh mem cs (pc + 1) al (aI (w32 (x - y)) :: st) Q) : VG E mi k C S sh mem cs pc al (aI y :: aI x :: st) Q := by
  intro p e s m args below meth c H locs ls hx hc hW hS hl hna hns
  have hy := aNs_I hns
  have hx1 := aNs_I (aNs_t hns)
  refine lv_isub (x := Int32.ofInt x) (y := Int32.ofInt y) (rest := aSt (eB E) st) hx hc.1 hd ?_
  rw [i32_sub]
  exact h p e s m args below meth c H locs ls hx hc hW hS hl hna (aNs_c (aNr_I (w32_rng _)) (aNs_t (aNs_t hns)))
theorem v_imul {E : EN} {mi : MI} {k C S : Nat} {sh : Sp} {mem : Mm} {cs : Nat × Nat} {pc : Nat} {al : List (Nat × AV)} {st : List AV} {Q : PQ} {x y : Int} (hd : decode mi.2.1 pc = .ok (.imul, 1)) (h : VG E mi k C S sh mem cs (pc + 1) al (aI (w32 (x * y)) :: st) Q) : VG E mi k C S sh mem cs pc al (aI y :: aI x :: st) Q := by
  intro p e s m args below meth c H locs ls hx hc hW hS hl hna hns
  have hy := aNs_I hns
  have hx1 := aNs_I (aNs_t hns)
  refine lv_imul (x := Int32.ofInt x) (y := Int32.ofInt y) (rest := aSt (eB E) st) hx hc.1 hd ?_
  rw [i32_mul]
  exact h p e s m args below meth c H locs ls hx hc hW hS hl hna (aNs_c (aNr_I (w32_rng _)) (aNs_t (aNs_t hns)))
theorem v_idiv {E : EN} {mi : MI} {k C S : Nat} {sh : Sp} {mem : Mm} {cs : Nat × Nat} {pc : Nat} {al : List (Nat × AV)} {st : List AV} {Q : PQ} {x y : Int} (hd : decode mi.2.1 pc = .ok (.idiv, 1)) (hz : ¬ y = 0) (h : VG E mi k C S sh mem cs (pc + 1) al (aI (w32 (x.tdiv y)) :: st) Q) : VG E mi k C S sh mem cs pc al (aI y :: aI x :: st) Q := by
  intro p e s m args below meth c H locs ls hx hc hW hS hl hna hns
  have hy := aNs_I hns
  have hx1 := aNs_I (aNs_t hns)
  refine lv_idiv (x := Int32.ofInt x) (y := Int32.ofInt y) (rest := aSt (eB E) st) hx hc.1 hd (fun q => hz ((i32_ne hy r32_0).1 q)) ?_
  rw [i32_div hx1 hy]
  exact h p e s m args below meth c H locs ls hx hc hW hS hl hna (aNs_c (aNr_I (w32_rng _)) (aNs_t (aNs_t hns)))
theorem v_irem {E : EN} {mi : MI} {k C S : Nat} {sh : Sp} {mem : Mm} {cs : Nat × Nat} {pc : Nat} {al : List (Nat × AV)} {st : List AV} {Q : PQ} {x y : Int} (hd : decode mi.2.1 pc = .ok (.irem, 1)) (hz : ¬ y = 0) (h : VG E mi k C S sh mem cs (pc + 1) al (aI (x.tmod y) :: st) Q) : VG E mi k C S sh mem cs pc al (aI y :: aI x :: st) Q := by
  intro p e s m args below meth c H locs ls hx hc hW hS hl hna hns
  have hy := aNs_I hns
  have hx1 := aNs_I (aNs_t hns)
  refine lv_irem (x := Int32.ofInt x) (y := Int32.ofInt y) (rest := aSt (eB E) st) hx hc.1 hd (fun q => hz ((i32_ne hy r32_0).1 q)) ?_
  rw [i32_rem hx1 hy]
  exact h p e s m args below meth c H locs ls hx hc hW hS hl hna (aNs_c (aNr_I (r32_mod hx1 hy)) (aNs_t (aNs_t hns)))
theorem v_iand {E : EN} {mi : MI} {k C S : Nat} {sh : Sp} {mem : Mm} {cs : Nat × Nat} {pc : Nat} {al : List (Nat × AV)} {st : List AV} {Q : PQ} {x y : Int} (hd : decode mi.2.1 pc = .ok (.iand, 1)) (h : VG E mi k C S sh mem cs (pc + 1) al (aI (xAnd x y) :: st) Q) : VG E mi k C S sh mem cs pc al (aI y :: aI x :: st) Q := by
  intro p e s m args below meth c H locs ls hx hc hW hS hl hna hns
  have hy := aNs_I hns
  have hx1 := aNs_I (aNs_t hns)
  refine lv_iand (x := Int32.ofInt x) (y := Int32.ofInt y) (rest := aSt (eB E) st) hx hc.1 hd ?_
  rw [i32_back (Int32.ofInt x &&& Int32.ofInt y)]
  exact h p e s m args below meth c H locs ls hx hc hW hS hl hna (aNs_c (aNr_I (i32_rng _)) (aNs_t (aNs_t hns)))
theorem v_ishl {E : EN} {mi : MI} {k C S : Nat} {sh : Sp} {mem : Mm} {cs : Nat × Nat} {pc : Nat} {al : List (Nat × AV)} {st : List AV} {Q : PQ} {x y : Int} (hd : decode mi.2.1 pc = .ok (.ishl, 1)) (h : VG E mi k C S sh mem cs (pc + 1) al (aI (xShl x y) :: st) Q) : VG E mi k C S sh mem cs pc al (aI y :: aI x :: st) Q := by
  intro p e s m args below meth c H locs ls hx hc hW hS hl hna hns
  have hy := aNs_I hns
  have hx1 := aNs_I (aNs_t hns)
  refine lv_ishl (x := Int32.ofInt x) (y := Int32.ofInt y) (rest := aSt (eB E) st) hx hc.1 hd ?_
  rw [i32_back (Int32.ofInt x <<< (Int32.ofInt y &&& 31))]
  exact h p e s m args below meth c H locs ls hx hc hW hS hl hna (aNs_c (aNr_I (i32_rng _)) (aNs_t (aNs_t hns)))
theorem v_ishr {E : EN} {mi : MI} {k C S : Nat} {sh : Sp} {mem : Mm} {cs : Nat × Nat} {pc : Nat} {al : List (Nat × AV)} {st : List AV} {Q : PQ} {x y : Int} (hd : decode mi.2.1 pc = .ok (.ishr, 1)) (h : VG E mi k C S sh mem cs (pc + 1) al (aI (xShr x y) :: st) Q) : VG E mi k C S sh mem cs pc al (aI y :: aI x :: st) Q := by
  intro p e s m args below meth c H locs ls hx hc hW hS hl hna hns
  have hy := aNs_I hns
  have hx1 := aNs_I (aNs_t hns)
  refine lv_ishr (x := Int32.ofInt x) (y := Int32.ofInt y) (rest := aSt (eB E) st) hx hc.1 hd ?_
  rw [i32_back (Int32.ofInt x >>> (Int32.ofInt y &&& 31))]
  exact h p e s m args below meth c H locs ls hx hc hW hS hl hna (aNs_c (aNr_I (i32_rng _)) (aNs_t (aNs_t hns)))
theorem v_iushr {E : EN} {mi : MI} {k C S : Nat} {sh : Sp} {mem : Mm} {cs : Nat × Nat} {pc : Nat} {al : List (Nat × AV)} {st : List AV} {Q : PQ} {x y : Int} (hd : decode mi.2.1 pc = .ok (.iushr, 1)) (h : VG E mi k C S sh mem cs (pc + 1) al (aI (xUshr x y) :: st) Q) : VG E mi k C S sh mem cs pc al (aI y :: aI x :: st) Q := by
  intro p e s m args below meth c H locs ls hx hc hW hS hl hna hns
  exact lv_iushr (x := Int32.ofInt x) (y := Int32.ofInt y) (rest := aSt (eB E) st) (v := Int32.ofInt (xUshr x y)) hx hc.1 hd (i32_back _) (h p e s m args below meth c H locs ls hx hc hW hS hl hna (aNs_c (aNr_I (i32_rng _)) (aNs_t (aNs_t hns))))
theorem v_ineg {E : EN} {mi : MI} {k C S : Nat} {sh : Sp} {mem : Mm} {cs : Nat × Nat} {pc : Nat} {al : List (Nat × AV)} {st : List AV} {Q : PQ} {x : Int} (hd : decode mi.2.1 pc = .ok (.ineg, 1)) (h : VG E mi k C S sh mem cs (pc + 1) al (aI (w32 (-x)) :: st) Q) : VG E mi k C S sh mem cs pc al (aI x :: st) Q := by
  intro p e s m args below meth c H locs ls hx hc hW hS hl hna hns
  refine lv_ineg (x := Int32.ofInt x) (rest := aSt (eB E) st) hx hc.1 hd ?_
  rw [i32_neg]
  exact h p e s m args below meth c H locs ls hx hc hW hS hl hna (aNs_c (aNr_I (w32_rng _)) (aNs_t hns))
theorem v_ladd {E : EN} {mi : MI} {k C S : Nat} {sh : Sp} {mem : Mm} {cs : Nat × Nat} {pc : Nat} {al : List (Nat × AV)} {st : List AV} {Q : PQ} {x y : Int} (hd : decode mi.2.1 pc = .ok (.ladd, 1)) (h : VG E mi k C S sh mem cs (pc + 1) al (aL (w64 (x + y)) :: st) Q) : VG E mi k C S sh mem cs pc al (aL y :: aL x :: st) Q := by
  intro p e s m args below meth c H locs ls hx hc hW hS hl hna hns
  have hy := aNs_L hns
  have hx1 := aNs_L (aNs_t hns)
  refine lv_ladd (x := Int64.ofInt x) (y := Int64.ofInt y) (rest := aSt (eB E) st) hx hc.1 hd ?_
  rw [i64_add]
  exact h p e s m args below meth c H locs ls hx hc hW hS hl hna (aNs_c (aNr_L (w64_rng _)) (aNs_t (aNs_t hns)))
theorem v_lsub {E : EN} {mi : MI} {k C S : Nat} {sh : Sp} {mem : Mm} {cs : Nat × Nat} {pc : Nat} {al : List (Nat × AV)} {st : List AV} {Q : PQ} {x y : Int} (hd : decode mi.2.1 pc = .ok (.lsub, 1)) (h : VG E mi k C S sh mem cs (pc + 1) al (aL (w64 (x - y)) :: st) Q) : VG E mi k C S sh mem cs pc al (aL y :: aL x :: st) Q := by
  intro p e s m args below meth c H locs ls hx hc hW hS hl hna hns
  have hy := aNs_L hns
  have hx1 := aNs_L (aNs_t hns)
  refine lv_lsub (x := Int64.ofInt x) (y := Int64.ofInt y) (rest := aSt (eB E) st) hx hc.1 hd ?_
  rw [i64_sub]
  exact h p e s m args below meth c H locs ls hx hc hW hS hl hna (aNs_c (aNr_L (w64_rng _)) (aNs_t (aNs_t hns)))
theorem v_lmul {E : EN} {mi : MI} {k C S : Nat} {sh : Sp} {mem : Mm} {cs : Nat × Nat} {pc : Nat} {al : List (Nat × AV)} {st : List AV} {Q : PQ} {x y : Int} (hd : decode mi.2.1 pc = .ok (.lmul, 1)) (h : VG E mi k C S sh mem cs (pc + 1) al (aL (w64 (x * y)) :: st) Q) : VG E mi k C S sh mem cs pc al (aL y :: aL x :: st) Q := by
  intro p e s m args below meth c H locs ls hx hc hW hS hl hna hns
  have hy := aNs_L hns
  have hx1 := aNs_L (aNs_t hns)
  refine lv_lmul (x := Int64.ofInt x) (y := Int64.ofInt y) (rest := aSt (eB E) st) hx hc.1 hd ?_
  rw [i64_mul]
  exact h p e s m args below meth c H locs ls hx hc hW hS hl hna (aNs_c (aNr_L (w64_rng _)) (aNs_t (aNs_t hns)))
theorem v_ldiv {E : EN} {mi : MI} {k C S : Nat} {sh : Sp} {mem : Mm} {cs : Nat × Nat} {pc : Nat} {al : List (Nat × AV)} {st : List AV} {Q : PQ} {x y : Int} (hd : decode mi.2.1 pc = .ok (.ldiv, 1)) (hz : ¬ y = 0) (h : VG E mi k C S sh mem cs (pc + 1) al (aL (w64 (x.tdiv y)) :: st) Q) : VG E mi k C S sh mem cs pc al (aL y :: aL x :: st) Q := by
  intro p e s m args below meth c H locs ls hx hc hW hS hl hna hns
  have hy := aNs_L hns
  have hx1 := aNs_L (aNs_t hns)
  refine lv_ldiv (x := Int64.ofInt x) (y := Int64.ofInt y) (rest := aSt (eB E) st) hx hc.1 hd (fun q => hz ((i64_ne hy (by decide)).1 q)) ?_
  rw [i64_div hx1 hy]
  exact h p e s m args below meth c H locs ls hx hc hW hS hl hna (aNs_c (aNr_L (w64_rng _)) (aNs_t (aNs_t hns)))
theorem v_lrem {E : EN} {mi : MI} {k C S : Nat} {sh : Sp} {mem : Mm} {cs : Nat × Nat} {pc : Nat} {al : List (Nat × AV)} {st : List AV} {Q : PQ} {x y : Int} (hd : decode mi.2.1 pc = .ok (.lrem, 1)) (hz : ¬ y = 0) (h : VG E mi k C S sh mem cs (pc + 1) al (aL (x.tmod y) :: st) Q) : VG E mi k C S sh mem cs pc al (aL y :: aL x :: st) Q := by
  intro p e s m args below meth c H locs ls hx hc hW hS hl hna hns
  have hy := aNs_L hns
  have hx1 := aNs_L (aNs_t hns)
  refine lv_lrem (x := Int64.ofInt x) (y := Int64.ofInt y) (rest := aSt (eB E) st) hx hc.1 hd (fun q => hz ((i64_ne hy (by decide)).1 q)) ?_
  rw [i64_rem hx1 hy]
  exact h p e s m args below meth c H locs ls hx hc hW hS hl hna (aNs_c (aNr_L (r64_mod hx1 hy)) (aNs_t (aNs_t hns)))
theorem v_lor {E : EN} {mi : MI} {k C S : Nat} {sh : Sp} {mem : Mm} {cs : Nat × Nat} {pc : Nat} {al : List (Nat × AV)} {st : List AV} {Q : PQ} {x y : Int} (hd : decode mi.2.1 pc = .ok (.lor, 1)) (h : VG E mi k C S sh mem cs (pc + 1) al (aL (xLor x y) :: st) Q) : VG E mi k C S sh mem cs pc al (aL y :: aL x :: st) Q := by
  intro p e s m args below meth c H locs ls hx hc hW hS hl hna hns
  have hy := aNs_L hns
  have hx1 := aNs_L (aNs_t hns)
  refine lv_lor (x := Int64.ofInt x) (y := Int64.ofInt y) (rest := aSt (eB E) st) hx hc.1 hd ?_
  rw [i64_back (Int64.ofInt x ||| Int64.ofInt y)]
  exact h p e s m args below meth c H locs ls hx hc hW hS hl hna (aNs_c (aNr_L (i64_rng _)) (aNs_t (aNs_t hns)))
theorem v_lshl {E : EN} {mi : MI} {k C S : Nat} {sh : Sp} {mem : Mm} {cs : Nat × Nat} {pc : Nat} {al : List (Nat × AV)} {st : List AV} {Q : PQ} {x y : Int} (hd : decode mi.2.1 pc = .ok (.lshl, 1)) (h : VG E mi k C S sh mem cs (pc + 1) al (aL (xLshl x y) :: st) Q) : VG E mi k C S sh mem cs pc al (aI y :: aL x :: st) Q := by
  intro p e s m args below meth c H locs ls hx hc hW hS hl hna hns
  exact lv_lshl (x := Int64.ofInt x) (y := Int32.ofInt y) (rest := aSt (eB E) st) (v := Int64.ofInt (xLshl x y)) hx hc.1 hd (i64_back _) (h p e s m args below meth c H locs ls hx hc hW hS hl hna (aNs_c (aNr_L (i64_rng _)) (aNs_t (aNs_t hns))))
theorem v_i2l {E : EN} {mi : MI} {k C S : Nat} {sh : Sp} {mem : Mm} {cs : Nat × Nat} {pc : Nat} {al : List (Nat × AV)} {st : List AV} {Q : PQ} {x : Int} (hd : decode mi.2.1 pc = .ok (.i2l, 1)) (h : VG E mi k C S sh mem cs (pc + 1) al (aL x :: st) Q) : VG E mi k C S sh mem cs pc al (aI x :: st) Q := by
  intro p e s m args below meth c H locs ls hx hc hW hS hl hna hns
  have hx1 := aNs_I hns
  have h64 : R64 x := ⟨by omega, by omega⟩
  exact lv_i2l (x := Int32.ofInt x) (rest := aSt (eB E) st) (v := Int64.ofInt x) hx hc.1 hd (Int64.toInt_inj.1 (by rw [Int32.toInt_toInt64, i32_of hx1, i64_of h64])) (h p e s m args below meth c H locs ls hx hc hW hS hl hna (aNs_c (aNr_L h64) (aNs_t hns)))
theorem v_l2i {E : EN} {mi : MI} {k C S : Nat} {sh : Sp} {mem : Mm} {cs : Nat × Nat} {pc : Nat} {al : List (Nat × AV)} {st : List AV} {Q : PQ} {x : Int} (hd : decode mi.2.1 pc = .ok (.l2i, 1)) (h : VG E mi k C S sh mem cs (pc + 1) al (aI (w32 x) :: st) Q) : VG E mi k C S sh mem cs pc al (aL x :: st) Q := by
  intro p e s m args below meth c H locs ls hx hc hW hS hl hna hns
  exact lv_l2i (x := Int64.ofInt x) (rest := aSt (eB E) st) (v := Int32.ofInt (w32 x)) hx hc.1 hd (by rw [of_w32, Int64.toInt32_ofInt]) (h p e s m args below meth c H locs ls hx hc hW hS hl hna (aNs_c (aNr_I (w32_rng _)) (aNs_t hns)))
theorem v_i2c {E : EN} {mi : MI} {k C S : Nat} {sh : Sp} {mem : Mm} {cs : Nat × Nat} {pc : Nat} {al : List (Nat × AV)} {st : List AV} {Q : PQ} {x : Int} (hd : decode mi.2.1 pc = .ok (.i2c, 1)) (h : VG E mi k C S sh mem cs (pc + 1) al (aI (xI2c x) :: st) Q) : VG E mi k C S sh mem cs pc al (aI x :: st) Q := by
  intro p e s m args below meth c H locs ls hx hc hW hS hl hna hns
  exact lv_i2c (x := Int32.ofInt x) (rest := aSt (eB E) st) (v := Int32.ofInt (xI2c x)) hx hc.1 hd (i32_back _) (h p e s m args below meth c H locs ls hx hc hW hS hl hna (aNs_c (aNr_I (i32_rng _)) (aNs_t hns)))
theorem v_dup {E : EN} {mi : MI} {k C S : Nat} {sh : Sp} {mem : Mm} {cs : Nat × Nat} {pc : Nat} {al : List (Nat × AV)} {st : List AV} {Q : PQ} {a : AV} (hd : decode mi.2.1 pc = .ok (.dup, 1)) (ha : aC a = 1) (h : VG E mi k C S sh mem cs (pc + 1) al (a :: a :: st) Q) : VG E mi k C S sh mem cs pc al (a :: st) Q := by
  intro p e s m args below meth c H locs ls hx hc hW hS hl hna hns
  exact lv_dup (va := aV (eB E) a) (rest := aSt (eB E) st) hx hc.1 hd ((aV_cat _ _).trans ha) (h p e s m args below meth c H locs ls hx hc hW hS hl hna (aNs_c (hns _ List.mem_cons_self) hns))
theorem v_pop {E : EN} {mi : MI} {k C S : Nat} {sh : Sp} {mem : Mm} {cs : Nat × Nat} {pc : Nat} {al : List (Nat × AV)} {st : List AV} {Q : PQ} {a : AV} (hd : decode mi.2.1 pc = .ok (.pop, 1)) (ha : aC a = 1) (h : VG E mi k C S sh mem cs (pc + 1) al st Q) : VG E mi k C S sh mem cs pc al (a :: st) Q := by
  intro p e s m args below meth c H locs ls hx hc hW hS hl hna hns
  exact lv_pop (va := aV (eB E) a) (rest := aSt (eB E) st) hx hc.1 hd ((aV_cat _ _).trans ha) (h p e s m args below meth c H locs ls hx hc hW hS hl hna (aNs_t hns))
theorem v_dup_x1 {E : EN} {mi : MI} {k C S : Nat} {sh : Sp} {mem : Mm} {cs : Nat × Nat} {pc : Nat} {al : List (Nat × AV)} {st : List AV} {Q : PQ} {a b : AV} (hd : decode mi.2.1 pc = .ok (.dup_x1, 1)) (ha : aC a = 1) (hb : aC b = 1) (h : VG E mi k C S sh mem cs (pc + 1) al (a :: b :: a :: st) Q) : VG E mi k C S sh mem cs pc al (a :: b :: st) Q := by
  intro p e s m args below meth c H locs ls hx hc hW hS hl hna hns
  exact lv_dup_x1 (va := aV (eB E) a) (vb := aV (eB E) b) (rest := aSt (eB E) st) hx hc.1 hd ((aV_cat _ _).trans ha) ((aV_cat _ _).trans hb) (h p e s m args below meth c H locs ls hx hc hW hS hl hna (aNs_c (hns _ List.mem_cons_self) (aNs_c (hns _ (List.mem_cons_of_mem _ List.mem_cons_self)) (aNs_c (hns _ List.mem_cons_self) (aNs_t (aNs_t hns))))))
theorem v_dup2 {E : EN} {mi : MI} {k C S : Nat} {sh : Sp} {mem : Mm} {cs : Nat × Nat} {pc : Nat} {al : List (Nat × AV)} {st : List AV} {Q : PQ} {a b : AV} (hd : decode mi.2.1 pc = .ok (.dup2, 1)) (ha : aC a = 1) (hb : aC b = 1) (h : VG E mi k C S sh mem cs (pc + 1) al (a :: b :: a :: b :: st) Q) : VG E mi k C S sh mem cs pc al (a :: b :: st) Q := by
  intro p e s m args below meth c H locs ls hx hc hW hS hl hna hns
  exact lv_dup2_11 (va := aV (eB E) a) (vb := aV (eB E) b) (rest := aSt (eB E) st) hx hc.1 hd ((aV_cat _ _).trans ha) ((aV_cat _ _).trans hb) (h p e s m args below meth c H locs ls hx hc hW hS hl hna (aNs_c (hns _ List.mem_cons_self) (aNs_c (hns _ (List.mem_cons_of_mem _ List.mem_cons_self)) hns)))
theorem v_dup2L {E : EN} {mi : MI} {k C S : Nat} {sh : Sp} {mem : Mm} {cs : Nat × Nat} {pc : Nat} {al : List (Nat × AV)} {st : List AV} {Q : PQ} {a : AV} (hd : decode mi.2.1 pc = .ok (.dup2, 1)) (ha : aC a = 2) (h : VG E mi k C S sh mem cs (pc + 1) al (a :: a :: st) Q) : VG E mi k C S sh mem cs pc al (a :: st) Q := by
  intro p e s m args below meth c H locs ls hx hc hW hS hl hna hns
  exact lv_dup2_2 (va := aV (eB E) a) (rest := aSt (eB E) st) hx hc.1 hd ((aV_cat _ _).trans ha) (h p e s m args below meth c H locs ls hx hc hW hS hl hna (aNs_c (hns _ List.mem_cons_self) hns))
theorem v_icmpeq {E : EN} {mi : MI} {k C S : Nat} {sh : Sp} {mem : Mm} {cs : Nat × Nat} {pc : Nat} {al : List (Nat × AV)} {st : List AV} {Q : PQ} {x y off : Int} {tgt : Nat} (hd : decode mi.2.1 pc = .ok (.if_icmp .eq off, 3)) (ht : (pc : Int) + off = (tgt : Int)) (kt : x = y → VG E mi k C S sh mem cs tgt al st Q) (kf : ¬ x = y → VG E mi k C S sh mem cs (pc + 3) al st Q) : VG E mi k C S sh mem cs pc al (aI y :: aI x :: st) Q := by
  intro p e s m args below meth c H locs ls hx hc hW hS hl hna hns
  have hy := aNs_I hns
  have hx1 := aNs_I (aNs_t hns)
  exact lv_icmp_eq (x := Int32.ofInt x) (y := Int32.ofInt y) (rest := aSt (eB E) st) hx hc.1 hd ht (fun q => kt ((i32_ne hx1 hy).1 q) p e s m args below meth c H locs ls hx hc hW hS hl hna (aNs_t (aNs_t hns))) (fun q => kf (fun g => q ((i32_ne hx1 hy).2 g)) p e s m args below meth c H locs ls hx hc hW hS hl hna (aNs_t (aNs_t hns)))
theorem v_ifeq {E : EN} {mi : MI} {k C S : Nat} {sh : Sp} {mem : Mm} {cs : Nat × Nat} {pc : Nat} {al : List (Nat × AV)} {st : List AV} {Q : PQ} {x off : Int} {tgt : Nat} (hd : decode mi.2.1 pc = .ok (.ifCond .eq off, 3)) (ht : (pc : Int) + off = (tgt : Int)) (kt : x = 0 → VG E mi k C S sh mem cs tgt al st Q) (kf : ¬ x = 0 → VG E mi k C S sh mem cs (pc + 3) al st Q) : VG E mi k C S sh mem cs pc al (aI x :: st) Q := by
  intro p e s m args below meth c H locs ls hx hc hW hS hl hna hns
  have hx1 := aNs_I hns
  exact lv_if_eq (x := Int32.ofInt x) (rest := aSt (eB E) st) hx hc.1 hd ht (fun q => kt ((i32_ne hx1 r32_0).1 q) p e s m args below meth c H locs ls hx hc hW hS hl hna (aNs_t hns)) (fun q => kf (fun g => q ((i32_ne hx1 r32_0).2 g)) p e s m args below meth c H locs ls hx hc hW hS hl hna (aNs_t hns))
theorem v_icmpne {E : EN} {mi : MI} {k C S : Nat} {sh : Sp} {mem : Mm} {cs : Nat × Nat} {pc : Nat} {al : List (Nat × AV)} {st : List AV} {Q : PQ} {x y off : Int} {tgt : Nat} (hd : decode mi.2.1 pc = .ok (.if_icmp .ne off, 3)) (ht : (pc : Int) + off = (tgt : Int)) (kt : ¬ x = y → VG E mi k C S sh mem cs tgt al st Q) (kf : x = y → VG E mi k C S sh mem cs (pc + 3) al st Q) : VG E mi k C S sh mem cs pc al (aI y :: aI x :: st) Q := by
  intro p e s m args below meth c H locs ls hx hc hW hS hl hna hns
  have hy := aNs_I hns
  have hx1 := aNs_I (aNs_t hns)
  exact lv_icmp_ne (x := Int32.ofInt x) (y := Int32.ofInt y) (rest := aSt (eB E) st) hx hc.1 hd ht (fun q => kt (fun g => q ((i32_ne hx1 hy).2 g)) p e s m args below meth c H locs ls hx hc hW hS hl hna (aNs_t (aNs_t hns))) (fun q => kf ((i32_ne hx1 hy).1 q) p e s m args below meth c H locs ls hx hc hW hS hl hna (aNs_t (aNs_t hns)))
theorem v_ifne {E : EN} {mi : MI} {k C S : Nat} {sh : Sp} {mem : Mm} {cs : Nat × Nat} {pc : Nat} {al : List (Nat × AV)} {st : List AV} {Q : PQ} {x off : Int} {tgt : Nat} (hd : decode mi.2.1 pc = .ok (.ifCond .ne off, 3)) (ht : (pc : Int) + off = (tgt : Int)) (kt : ¬ x = 0 → VG E mi k C S sh mem cs tgt al st Q) (kf : x = 0 → VG E mi k C S sh mem cs (pc + 3) al st Q) : VG E mi k C S sh mem cs pc al (aI x :: st) Q := by
  intro p e s m args below meth c H locs ls hx hc hW hS hl hna hns
  have hx1 := aNs_I hns
  exact lv_if_ne (x := Int32.ofInt x) (rest := aSt (eB E) st) hx hc.1 hd ht (fun q => kt (fun g => q ((i32_ne hx1 r32_0).2 g)) p e s m args below meth c H locs ls hx hc hW hS hl hna (aNs_t hns)) (fun q => kf ((i32_ne hx1 r32_0).1 q) p e s m args below meth c H locs ls hx hc hW hS hl hna (aNs_t hns))
theorem v_icmplt {E : EN} {mi : MI} {k C S : Nat} {sh : Sp} {mem : Mm} {cs : Nat × Nat} {pc : Nat} {al : List (Nat × AV)} {st : List AV} {Q : PQ} {x y off : Int} {tgt : Nat} (hd : decode mi.2.1 pc = .ok (.if_icmp .lt off, 3)) (ht : (pc : Int) + off = (tgt : Int)) (kt : x < y → VG E mi k C S sh mem cs tgt al st Q) (kf : y ≤ x → VG E mi k C S sh mem cs (pc + 3) al st Q) : VG E mi k C S sh mem cs pc al (aI y :: aI x :: st) Q := by
  intro p e s m args below meth c H locs ls hx hc hW hS hl hna hns
  have hy := aNs_I hns
  have hx1 := aNs_I (aNs_t hns)
  exact lv_icmp_lt (x := Int32.ofInt x) (y := Int32.ofInt y) (rest := aSt (eB E) st) hx hc.1 hd ht (fun q => kt ((i32_lt hx1 hy).1 q) p e s m args below meth c H locs ls hx hc hW hS hl hna (aNs_t (aNs_t hns))) (fun q => kf (Int.not_lt.mp fun g => q ((i32_lt hx1 hy).2 g)) p e s m args below meth c H locs ls hx hc hW hS hl hna (aNs_t (aNs_t hns)))
theorem v_iflt {E : EN} {mi : MI} {k C S : Nat} {sh : Sp} {mem : Mm} {cs : Nat × Nat} {pc : Nat} {al : List (Nat × AV)} {st : List AV} {Q : PQ} {x off : Int} {tgt : Nat} (hd : decode mi.2.1 pc = .ok (.ifCond .lt off, 3)) (ht : (pc : Int) + off = (tgt : Int)) (kt : x < 0 → VG E mi k C S sh mem cs tgt al st Q) (kf : 0 ≤ x → VG E mi k C S sh mem cs (pc + 3) al st Q) : VG E mi k C S sh mem cs pc al (aI x :: st) Q := by
  intro p e s m args below meth c H locs ls hx hc hW hS hl hna hns
  have hx1 := aNs_I hns
  exact lv_if_lt (x := Int32.ofInt x) (rest := aSt (eB E) st) hx hc.1 hd ht (fun q => kt ((i32_lt hx1 r32_0).1 q) p e s m args below meth c H locs ls hx hc hW hS hl hna (aNs_t hns)) (fun q => kf (Int.not_lt.mp fun g => q ((i32_lt hx1 r32_0).2 g)) p e s m args below meth c H locs ls hx hc hW hS hl hna (aNs_t hns))
theorem v_icmpge {E : EN} {mi : MI} {k C S : Nat} {sh : Sp} {mem : Mm} {cs : Nat × Nat} {pc : Nat} {al : List (Nat × AV)} {st : List AV} {Q : PQ} {x y off : Int} {tgt : Nat} (hd : decode mi.2.1 pc = .ok (.if_icmp .ge off, 3)) (ht : (pc : Int) + off = (tgt : Int)) (kt : y ≤ x → VG E mi k C S sh mem cs tgt al st Q) (kf : x < y → VG E mi k C S sh mem cs (pc + 3) al st Q) : VG E mi k C S sh mem cs pc al (aI y :: aI x :: st) Q := by
  intro p e s m args below meth c H locs ls hx hc hW hS hl hna hns
  have hy := aNs_I hns
  have hx1 := aNs_I (aNs_t hns)
  exact lv_icmp_ge (x := Int32.ofInt x) (y := Int32.ofInt y) (rest := aSt (eB E) st) hx hc.1 hd ht (fun q => kt ((i32_le hy hx1).1 q) p e s m args below meth c H locs ls hx hc hW hS hl hna (aNs_t (aNs_t hns))) (fun q => kf (Int.not_le.mp fun g => q ((i32_le hy hx1).2 g)) p e s m args below meth c H locs ls hx hc hW hS hl hna (aNs_t (aNs_t hns)))
theorem v_ifge {E : EN} {mi : MI} {k C S : Nat} {sh : Sp} {mem : Mm} {cs : Nat × Nat} {pc : Nat} {al : List (Nat × AV)} {st : List AV} {Q : PQ} {x off : Int} {tgt : Nat} (hd : decode mi.2.1 pc = .ok (.ifCond .ge off, 3)) (ht : (pc : Int) + off = (tgt : Int)) (kt : 0 ≤ x → VG E mi k C S sh mem cs tgt al st Q) (kf : x < 0 → VG E mi k C S sh mem cs (pc + 3) al st Q) : VG E mi k C S sh mem cs pc al (aI x :: st) Q := by
  intro p e s m args below meth c H locs ls hx hc hW hS hl hna hns
  have hx1 := aNs_I hns
  exact lv_if_ge (x := Int32.ofInt x) (rest := aSt (eB E) st) hx hc.1 hd ht (fun q => kt ((i32_le r32_0 hx1).1 q) p e s m args below meth c H locs ls hx hc hW hS hl hna (aNs_t hns)) (fun q => kf (Int.not_le.mp fun g => q ((i32_le r32_0 hx1).2 g)) p e s m args below meth c H locs ls hx hc hW hS hl hna (aNs_t hns))
theorem v_icmpgt {E : EN} {mi : MI} {k C S : Nat} {sh : Sp} {mem : Mm} {cs : Nat × Nat} {pc : Nat} {al : List (Nat × AV)} {st : List AV} {Q : PQ} {x y off : Int} {tgt : Nat} (hd : decode mi.2.1 pc = .ok (.if_icmp .gt off, 3)) (ht : (pc : Int) + off = (tgt : Int)) (kt : y < x → VG E mi k C S sh mem cs tgt al st Q) (kf : x ≤ y → VG E mi k C S sh mem cs (pc + 3) al st Q) : VG E mi k C S sh mem cs pc al (aI y :: aI x :: st) Q := by
  intro p e s m args below meth c H locs ls hx hc hW hS hl hna hns
  have hy := aNs_I hns
  have hx1 := aNs_I (aNs_t hns)
  exact lv_icmp_gt (x := Int32.ofInt x) (y := Int32.ofInt y) (rest := aSt (eB E) st) hx hc.1 hd ht (fun q => kt ((i32_lt hy hx1).1 q) p e s m args below meth c H locs ls hx hc hW hS hl hna (aNs_t (aNs_t hns))) (fun q => kf (Int.not_lt.mp fun g => q ((i32_lt hy hx1).2 g)) p e s m args below meth c H locs ls hx hc hW hS hl hna (aNs_t (aNs_t hns)))
theorem v_ifgt {E : EN} {mi : MI} {k C S : Nat} {sh : Sp} {mem : Mm} {cs : Nat × Nat} {pc : Nat} {al : List (Nat × AV)} {st : List AV} {Q : PQ} {x off : Int} {tgt : Nat} (hd : decode mi.2.1 pc = .ok (.ifCond .gt off, 3)) (ht : (pc : Int) + off = (tgt : Int)) (kt : 0 < x → VG E mi k C S sh mem cs tgt al st Q) (kf : x ≤ 0 → VG E mi k C S sh mem cs (pc + 3) al st Q) : VG E mi k C S sh mem cs pc al (aI x :: st) Q := by
  intro p e s m args below meth c H locs ls hx hc hW hS hl hna hns
  have hx1 := aNs_I hns
  exact lv_if_gt (x := Int32.ofInt x) (rest := aSt (eB E) st) hx hc.1 hd ht (fun q => kt ((i32_lt r32_0 hx1).1 q) p e s m args below meth c H locs ls hx hc hW hS hl hna (aNs_t hns)) (fun q => kf (Int.not_lt.mp fun g => q ((i32_lt r32_0 hx1).2 g)) p e s m args below meth c H locs ls hx hc hW hS hl hna (aNs_t hns))
theorem v_icmple {E : EN} {mi : MI} {k C S : Nat} {sh : Sp} {mem : Mm} {cs : Nat × Nat} {pc : Nat} {al : List (Nat × AV)} {st : List AV} {Q : PQ} {x y off : Int} {tgt : Nat} (hd : decode mi.2.1 pc = .ok (.if_icmp .le off, 3)) (ht : (pc : Int) + off = (tgt : Int)) (kt : x ≤ y → VG E mi k C S sh mem cs tgt al st Q) (kf : y < x → VG E mi k C S sh mem cs (pc + 3) al st Q) : VG E mi k C S sh mem cs pc al (aI y :: aI x :: st) Q := by
  intro p e s m args below meth c H locs ls hx hc hW hS hl hna hns
  have hy := aNs_I hns
  have hx1 := aNs_I (aNs_t hns)
  exact lv_icmp_le (x := Int32.ofInt x) (y := Int32.ofInt y) (rest := aSt (eB E) st) hx hc.1 hd ht (fun q => kt ((i32_le hx1 hy).1 q) p e s m args below meth c H locs ls hx hc hW hS hl hna (aNs_t (aNs_t hns))) (fun q => kf (Int.not_le.mp fun g => q ((i32_le hx1 hy).2 g)) p e s m args below meth c H locs ls hx hc hW hS hl hna (aNs_t (aNs_t hns)))
theorem v_ifle {E : EN} {mi : MI} {k C S : Nat} {sh : Sp} {mem : Mm} {cs : Nat × Nat} {pc : Nat} {al : List (Nat × AV)} {st : List AV} {Q : PQ} {x off : Int} {tgt : Nat} (hd : decode mi.2.1 pc = .ok (.ifCond .le off, 3)) (ht : (pc : Int) + off = (tgt : Int)) (kt : x ≤ 0 → VG E mi k C S sh mem cs tgt al st Q) (kf : 0 < x → VG E mi k C S sh mem cs (pc + 3) al st Q) : VG E mi k C S sh mem cs pc al (aI x :: st) Q := by
  intro p e s m args below meth c H locs ls hx hc hW hS hl hna hns
  have hx1 := aNs_I hns
  exact lv_if_le (x := Int32.ofInt x) (rest := aSt (eB E) st) hx hc.1 hd ht (fun q => kt ((i32_le hx1 r32_0).1 q) p e s m args below meth c H locs ls hx hc hW hS hl hna (aNs_t hns)) (fun q => kf (Int.not_le.mp fun g => q ((i32_le hx1 r32_0).2 g)) p e s m args below meth c H locs ls hx hc hW hS hl hna (aNs_t hns))
theorem lg_lt {x y : Int} (hx : R64 x) (hy : R64 y) : lg_cmp (Int64.ofInt x) (Int64.ofInt y) = Int32.ofInt (if y < x then 1 else if x = y then 0 else -1) := by
  unfold lg_cmp
  by_cases h1 : y < x
  · rw [if_pos h1, if_pos ((i64_lt hy hx).2 h1)]; rfl
  · rw [if_neg h1, if_neg (fun q => h1 ((i64_lt hy hx).1 q))]
    by_cases h2 : x = y
    · rw [if_pos h2, if_pos ((i64_ne hx hy).2 h2)]; rfl
    · rw [if_neg h2, if_neg (fun q => h2 ((i64_ne hx hy).1 q))]; rfl
theorem v_lcmp {E : EN} {mi : MI} {k C S : Nat} {sh : Sp} {mem : Mm} {cs : Nat × Nat} {pc : Nat} {al : List (Nat × AV)} {st : List AV} {Q : PQ} {x y : Int} (hd : decode mi.2.1 pc = .ok (.lcmp, 1)) (h : VG E mi k C S sh mem cs (pc + 1) al (aI (if y < x then 1 else if x = y then 0 else -1) :: st) Q) : VG E mi k C S sh mem cs pc al (aL y :: aL x :: st) Q := by
  intro p e s m args below meth c H locs ls hx hc hW hS hl hna hns
  have hy := aNs_L hns
  have hx1 := aNs_L (aNs_t hns)
  refine W.lcmp (x := Int64.ofInt x) (y := Int64.ofInt y) (rest := aSt (eB E) st) hx hc.1 hd ?_
  rw [lg_lt hx1 hy]
  exact h p e s m args below meth c H locs ls hx hc hW hS hl hna (aNs_c (aNr_I (by split <;> (first | decide | (split <;> decide)))) (aNs_t (aNs_t hns)))
theorem v_lcmpeq {E : EN} {mi : MI} {k C S : Nat} {sh : Sp} {mem : Mm} {cs : Nat × Nat} {pc : Nat} {al : List (Nat × AV)} {st : List AV} {Q : PQ} {x y off : Int} {tgt : Nat} (hd : decode mi.2.1 pc = .ok (.lcmp, 1)) (hd2 : decode mi.2.1 (pc + 1) = .ok (.ifCond .eq off, 3)) (ht : ((pc + 1 : Nat) : Int) + off = (tgt : Int)) (kt : x = y → VG E mi k C S sh mem cs tgt al st Q) (kf : ¬ x = y → VG E mi k C S sh mem cs (pc + 4) al st Q) : VG E mi k C S sh mem cs pc al (aL y :: aL x :: st) Q := by
  refine v_lcmp hd (v_ifeq hd2 ht (fun q => kt ?_) (fun q => kf ?_))
  · split at q <;> (first | omega | (split at q <;> omega))
  · split at q <;> (first | omega | (split at q <;> omega))
theorem v_lcmpne {E : EN} {mi : MI} {k C S : Nat} {sh : Sp} {mem : Mm} {cs : Nat × Nat} {pc : Nat} {al : List (Nat × AV)} {st : List AV} {Q : PQ} {x y off : Int} {tgt : Nat} (hd : decode mi.2.1 pc = .ok (.lcmp, 1)) (hd2 : decode mi.2.1 (pc + 1) = .ok (.ifCond .ne off, 3)) (ht : ((pc + 1 : Nat) : Int) + off = (tgt : Int)) (kt : ¬ x = y → VG E mi k C S sh mem cs tgt al st Q) (kf : x = y → VG E mi k C S sh mem cs (pc + 4) al st Q) : VG E mi k C S sh mem cs pc al (aL y :: aL x :: st) Q := by
  refine v_lcmp hd (v_ifne hd2 ht (fun q => kt ?_) (fun q => kf ?_))
  · split at q <;> (first | omega | (split at q <;> omega))
  · split at q <;> (first | omega | (split at q <;> omega))
theorem v_lcmplt {E : EN} {mi : MI} {k C S : Nat} {sh : Sp} {mem : Mm} {cs : Nat × Nat} {pc : Nat} {al : List (Nat × AV)} {st : List AV} {Q : PQ} {x y off : Int} {tgt : Nat} (hd : decode mi.2.1 pc = .ok (.lcmp, 1)) (hd2 : decode mi.2.1 (pc + 1) = .ok (.ifCond .lt off, 3)) (ht : ((pc + 1 : Nat) : Int) + off = (tgt : Int)) (kt : x < y → VG E mi k C S sh mem cs tgt al st Q) (kf : y ≤ x → VG E mi k C S sh mem cs (pc + 4) al st Q) : VG E mi k C S sh mem cs pc al (aL y :: aL x :: st) Q := by
  refine v_lcmp hd (v_iflt hd2 ht (fun q => kt ?_) (fun q => kf ?_))
  · split at q <;> (first | omega | (split at q <;> omega))
  · split at q <;> (first | omega | (split at q <;> omega))
theorem v_lcmpge {E : EN} {mi : MI} {k C S : Nat} {sh : Sp} {mem : Mm} {cs : Nat × Nat} {pc : Nat} {al : List (Nat × AV)} {st : List AV} {Q : PQ} {x y off : Int} {tgt : Nat} (hd : decode mi.2.1 pc = .ok (.lcmp, 1)) (hd2 : decode mi.2.1 (pc + 1) = .ok (.ifCond .ge off, 3)) (ht : ((pc + 1 : Nat) : Int) + off = (tgt : Int)) (kt : y ≤ x → VG E mi k C S sh mem cs tgt al st Q) (kf : x < y → VG E mi k C S sh mem cs (pc + 4) al st Q) : VG E mi k C S sh mem cs pc al (aL y :: aL x :: st) Q := by
  refine v_lcmp hd (v_ifge hd2 ht (fun q => kt ?_) (fun q => kf ?_))
  · split at q <;> (first | omega | (split at q <;> omega))
  · split at q <;> (first | omega | (split at q <;> omega))
theorem v_lcmpgt {E : EN} {mi : MI} {k C S : Nat} {sh : Sp} {mem : Mm} {cs : Nat × Nat} {pc : Nat} {al : List (Nat × AV)} {st : List AV} {Q : PQ} {x y off : Int} {tgt : Nat} (hd : decode mi.2.1 pc = .ok (.lcmp, 1)) (hd2 : decode mi.2.1 (pc + 1) = .ok (.ifCond .gt off, 3)) (ht : ((pc + 1 : Nat) : Int) + off = (tgt : Int)) (kt : y < x → VG E mi k C S sh mem cs tgt al st Q) (kf : x ≤ y → VG E mi k C S sh mem cs (pc + 4) al st Q) : VG E mi k C S sh mem cs pc al (aL y :: aL x :: st) Q := by
  refine v_lcmp hd (v_ifgt hd2 ht (fun q => kt ?_) (fun q => kf ?_))
  · split at q <;> (first | omega | (split at q <;> omega))
  · split at q <;> (first | omega | (split at q <;> omega))
theorem v_lcmple {E : EN} {mi : MI} {k C S : Nat} {sh : Sp} {mem : Mm} {cs : Nat × Nat} {pc : Nat} {al : List (Nat × AV)} {st : List AV} {Q : PQ} {x y off : Int} {tgt : Nat} (hd : decode mi.2.1 pc = .ok (.lcmp, 1)) (hd2 : decode mi.2.1 (pc + 1) = .ok (.ifCond .le off, 3)) (ht : ((pc + 1 : Nat) : Int) + off = (tgt : Int)) (kt : x ≤ y → VG E mi k C S sh mem cs tgt al st Q) (kf : y < x → VG E mi k C S sh mem cs (pc + 4) al st Q) : VG E mi k C S sh mem cs pc al (aL y :: aL x :: st) Q := by
  refine v_lcmp hd (v_ifle hd2 ht (fun q => kt ?_) (fun q => kf ?_))
  · split at q <;> (first | omega | (split at q <;> omega))
  · split at q <;> (first | omega | (split at q <;> omega))
theorem v_goto {E : EN} {mi : MI} {k C S : Nat} {sh : Sp} {mem : Mm} {cs : Nat × Nat} {pc : Nat} {al : List (Nat × AV)} {st : List AV} {Q : PQ} {off : Int} {tgt : Nat} (hd : decode mi.2.1 pc = .ok (.goto off, 3)) (ht : (pc : Int) + off = (tgt : Int)) (h : VG E mi k C S sh mem cs tgt al st Q) : VG E mi k C S sh mem cs pc al st Q := by
  intro p e s m args below meth c H locs ls hx hc hW hS hl hna hns
  exact lv_goto hx hc.1 hd ht (h p e s m args below meth c H locs ls hx hc hW hS hl hna hns)
theorem v_ifnull {E : EN} {mi : MI} {k C S : Nat} {sh : Sp} {mem : Mm} {cs : Nat × Nat} {pc : Nat} {al : List (Nat × AV)} {st : List AV} {Q : PQ} {x off : Int} {tgt : Nat} (hd : decode mi.2.1 pc = .ok (.ifnull off, 3)) (ht : (pc : Int) + off = (tgt : Int)) (kt : x < 0 → VG E mi k C S sh mem cs tgt al st Q) (kf : 0 ≤ x → VG E mi k C S sh mem cs (pc + 3) al st Q) : VG E mi k C S sh mem cs pc al (aR x :: st) Q := by
  intro p e s m args below meth c H locs ls hx hc hW hS hl hna hns
  show W p E.1 e (aRm k C S) s m args below meth c H locs cs.1 cs.2 _ (F0 m pc ls (aV (eB E) (aR x) :: aSt (eB E) st))
  rcases (show x < 0 ∨ 0 ≤ x by omega) with q | q
  · rw [show aV (eB E) (aR x) = .null from if_pos q]
    exact lv_ifnullN hx hc.1 hd ht (kt q p e s m args below meth c H locs ls hx hc hW hS hl hna (aNs_t hns))
  · rw [show aV (eB E) (aR x) = .ref (eB E + x.toNat) from if_neg (show ¬ x < 0 by omega)]
    exact lv_ifnull hx hc.1 hd (kf q p e s m args below meth c H locs ls hx hc hW hS hl hna (aNs_t hns))
theorem v_ifnonnull {E : EN} {mi : MI} {k C S : Nat} {sh : Sp} {mem : Mm} {cs : Nat × Nat} {pc : Nat} {al : List (Nat × AV)} {st : List AV} {Q : PQ} {x off : Int} {tgt : Nat} (hd : decode mi.2.1 pc = .ok (.ifnonnull off, 3)) (ht : (pc : Int) + off = (tgt : Int)) (kt : 0 ≤ x → VG E mi k C S sh mem cs tgt al st Q) (kf : x < 0 → VG E mi k C S sh mem cs (pc + 3) al st Q) : VG E mi k C S sh mem cs pc al (aR x :: st) Q := by
  intro p e s m args below meth c H locs ls hx hc hW hS hl hna hns
  show W p E.1 e (aRm k C S) s m args below meth c H locs cs.1 cs.2 _ (F0 m pc ls (aV (eB E) (aR x) :: aSt (eB E) st))
  rcases (show x < 0 ∨ 0 ≤ x by omega) with q | q
  · rw [show aV (eB E) (aR x) = .null from if_pos q]
    exact lv_ifnonnullN hx hc.1 hd (kf q p e s m args below meth c H locs ls hx hc hW hS hl hna (aNs_t hns))
  · rw [show aV (eB E) (aR x) = .ref (eB E + x.toNat) from if_neg (show ¬ x < 0 by omega)]
    exact lv_ifnonnull hx hc.1 hd ht (kt q p e s m args below meth c H locs ls hx hc hW hS hl hna (aNs_t hns))
theorem v_tabIn {E : EN} {mi : MI} {k C S : Nat} {sh : Sp} {mem : Mm} {cs : Nat × Nat} {pc : Nat} {al : List (Nat × AV)} {st : List AV} {Q : PQ} {x dflt lo hi off : Int} {offs : Array Int} {len tgt : Nat} (hd : decode mi.2.1 pc = .ok (.tableswitch dflt lo hi offs, len)) (h1 : lo ≤ x) (h2 : x ≤ hi) (ho : offs[(x - lo).toNat]? = some off) (ht : (pc : Int) + off = (tgt : Int)) (h : VG E mi k C S sh mem cs tgt al st Q) : VG E mi k C S sh mem cs pc al (aI x :: st) Q := by
  intro p e s m args below meth c H locs ls hx hc hW hS hl hna hns
  have hx1 := i32_of (aNs_I hns)
  exact lv_tableIn (x := Int32.ofInt x) (rest := aSt (eB E) st) hx hc.1 hd (by rw [hx1]; omega) (by rw [hx1]; omega) (by rw [hx1]; exact ho) ht (h p e s m args below meth c H locs ls hx hc hW hS hl hna (aNs_t hns))
theorem v_tabOut {E : EN} {mi : MI} {k C S : Nat} {sh : Sp} {mem : Mm} {cs : Nat × Nat} {pc : Nat} {al : List (Nat × AV)} {st : List AV} {Q : PQ} {x dflt lo hi : Int} {offs : Array Int} {len tgt : Nat} (hd : decode mi.2.1 pc = .ok (.tableswitch dflt lo hi offs, len)) (h1 : x < lo ∨ hi < x) (ht : (pc : Int) + dflt = (tgt : Int)) (h : VG E mi k C S sh mem cs tgt al st Q) : VG E mi k C S sh mem cs pc al (aI x :: st) Q := by
  intro p e s m args below meth c H locs ls hx hc hW hS hl hna hns
  have hx1 := i32_of (aNs_I hns)
  exact lv_tableOut (x := Int32.ofInt x) (rest := aSt (eB E) st) hx hc.1 hd (by rw [hx1]; exact h1) ht (h p e s m args below meth c H locs ls hx hc hW hS hl hna (aNs_t hns))
theorem v_lookup {E : EN} {mi : MI} {k C S : Nat} {sh : Sp} {mem : Mm} {cs : Nat × Nat} {pc : Nat} {al : List (Nat × AV)} {st : List AV} {Q : PQ} {x dflt off : Int} {ps : Array (Int × Int)} {len tgt : Nat} (hd : decode mi.2.1 pc = .ok (.lookupswitch dflt ps, len)) (hp : (ps.toList.zip (ps.toList.drop 1)).all (fun (a, next) => a.1 < next.1) = true) (ho : Op.lookupswitch.offset ps.toList dflt x = off) (ht : (pc : Int) + off = (tgt : Int)) (h : VG E mi k C S sh mem cs tgt al st Q) : VG E mi k C S sh mem cs pc al (aI x :: st) Q := by
  intro p e s m args below meth c H locs ls hx hc hW hS hl hna hns
  have hx1 := i32_of (aNs_I hns)
  exact lv_lookup (x := Int32.ofInt x) (rest := aSt (eB E) st) hx hc.1 hd hp (by rw [hx1]; exact ho) ht (h p e s m args below meth c H locs ls hx hc hW hS hl hna (aNs_t hns))
