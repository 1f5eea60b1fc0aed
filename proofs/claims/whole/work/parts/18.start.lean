-- what the Statement gives of the start, as an environment for the judgement
def strT (i : Nat) : Term := Term.string (strTab.getD i ("", 0, "")).1 (strTab.getD i ("", 0, "")).2.1
def flN : List Cond := flatC (Jvm.Cond.and given_1 narrow_1)
theorem flN_mem {n : Nat} {c : Cond} (h : flN[n]? = some c) : c ∈ flatC (Jvm.Cond.and given_1 narrow_1) := List.mem_of_getElem? h
def ix1 : List (Nat × Nat × Nat × Nat) := [(48, 49, 50, 51), (71, 72, 73, 74), (251, 252, 253, 254), (223, 224, 225, 226), (235, 236, 237, 238), (298, 299, 300, 301), (316, 317, 318, 319), (265, 266, 267, 268), (281, 282, 283, 284), (201, 202, 203, 204), (212, 213, 214, 215), (96, 97, 98, 99), (138, 139, 140, 141)]
def ixE : List (Nat × Nat × Nat) := [(0, 0, 52), (0, 1, 53), (0, 2, 54), (0, 3, 55), (0, 4, 56), (0, 5, 57), (0, 6, 58), (0, 7, 59), (0, 8, 60), (0, 9, 61), (0, 10, 62), (0, 11, 63), (0, 12, 64), (0, 13, 65), (0, 14, 66), (0, 15, 67), (0, 16, 68), (0, 17, 69), (0, 18, 70), (1, 0, 75), (1, 1, 76), (1, 2, 77), (1, 3, 78), (1, 4, 79), (1, 5, 80), (1, 6, 81), (1, 7, 82), (1, 8, 83), (1, 9, 84), (1, 10, 85), (1, 11, 86), (1, 12, 87), (1, 13, 88), (1, 14, 89), (1, 15, 90), (1, 16, 91), (1, 17, 92), (1, 18, 93), (1, 19, 94), (2, 0, 255), (2, 1, 256), (3, 0, 227), (3, 1, 228), (4, 0, 239), (4, 1, 240), (4, 2, 241), (4, 3, 242), (4, 4, 243), (5, 0, 302), (5, 1, 303), (5, 2, 304), (6, 0, 320), (6, 1, 321), (7, 0, 269), (7, 1, 270), (7, 2, 271), (8, 0, 285), (8, 1, 286), (8, 2, 287), (9, 0, 205), (9, 1, 206), (9, 2, 207), (10, 0, 216), (10, 1, 217), (11, 0, 100), (11, 1, 101), (11, 2, 102), (11, 3, 103), (11, 4, 104), (11, 5, 105), (11, 6, 106), (11, 7, 107), (11, 8, 108), (11, 9, 109), (11, 10, 110), (11, 11, 111), (11, 12, 112), (11, 13, 113), (11, 14, 114), (11, 15, 115), (11, 16, 116), (11, 17, 117), (11, 18, 118), (11, 19, 119), (11, 20, 120), (11, 21, 121), (11, 22, 122), (11, 23, 123), (11, 24, 124), (11, 25, 125), (11, 26, 126), (11, 27, 127), (11, 28, 128), (11, 29, 129), (11, 30, 130), (11, 31, 131), (11, 32, 132), (11, 33, 133), (11, 34, 134), (11, 35, 135), (12, 0, 142), (12, 1, 143), (12, 2, 144), (12, 3, 145), (12, 4, 146), (12, 5, 147), (12, 6, 148), (12, 7, 149), (12, 8, 150), (12, 9, 151), (12, 10, 152), (12, 11, 153), (12, 12, 154), (12, 13, 155), (12, 14, 156), (12, 15, 157), (12, 16, 158), (12, 17, 159), (12, 18, 160), (12, 19, 161), (12, 20, 162), (12, 21, 163), (12, 22, 164), (12, 23, 165), (12, 24, 166), (12, 25, 167), (12, 26, 168), (12, 27, 169), (12, 28, 170), (12, 29, 171), (12, 30, 172), (12, 31, 173), (12, 32, 174), (12, 33, 175), (12, 34, 176), (12, 35, 177), (12, 36, 178), (12, 37, 179), (12, 38, 180), (12, 39, 181), (12, 40, 182), (12, 41, 183), (12, 42, 184), (12, 43, 185), (12, 44, 186), (12, 45, 187), (12, 46, 188), (12, 47, 189), (12, 48, 190), (12, 49, 191), (12, 50, 192), (12, 51, 193), (12, 52, 194), (12, 53, 195), (12, 54, 196), (12, 55, 197)]
def ixN : List (Nat × Nat × Nat) := [(0, 1, 95), (0, 2, 257), (0, 3, 229), (0, 4, 244), (0, 5, 305), (0, 6, 322), (0, 7, 272), (0, 8, 288), (0, 9, 208), (0, 10, 218), (0, 11, 136), (0, 12, 198), (1, 2, 258), (1, 3, 230), (1, 4, 245), (1, 5, 306), (1, 6, 323), (1, 7, 273), (1, 8, 289), (1, 9, 209), (1, 10, 219), (1, 11, 137), (1, 12, 199), (2, 5, 313), (2, 6, 330), (2, 7, 280), (2, 8, 296), (3, 2, 263), (3, 4, 250), (3, 5, 311), (3, 6, 328), (3, 7, 278), (3, 8, 294), (4, 2, 264), (4, 5, 312), (4, 6, 329), (4, 7, 279), (4, 8, 295), (5, 6, 333), (7, 5, 314), (7, 6, 331), (7, 8, 297), (8, 5, 315), (8, 6, 332), (9, 2, 261), (9, 3, 233), (9, 4, 248), (9, 5, 309), (9, 6, 326), (9, 7, 276), (9, 8, 292), (9, 10, 222), (10, 2, 262), (10, 3, 234), (10, 4, 249), (10, 5, 310), (10, 6, 327), (10, 7, 277), (10, 8, 293), (11, 2, 259), (11, 3, 231), (11, 4, 246), (11, 5, 307), (11, 6, 324), (11, 7, 274), (11, 8, 290), (11, 9, 210), (11, 10, 220), (11, 12, 200), (12, 2, 260), (12, 3, 232), (12, 4, 247), (12, 5, 308), (12, 6, 325), (12, 7, 275), (12, 8, 291), (12, 9, 211), (12, 10, 221)]
theorem t_1 : (List.range 13).all (fun i => decide (flN[(ix1.getD i (0, 0, 0, 0)).1]? = some (Cond.exactly (strT i) "java/lang/String")) && decide (flN[(ix1.getD i (0, 0, 0, 0)).2.1]? = some (Cond.eq (.field (strT i) "java/lang/String" "coder" "B") (.int 0))) && decide (flN[(ix1.getD i (0, 0, 0, 0)).2.2.1]? = some (Cond.arrayOf (.field (strT i) "java/lang/String" "value" "[B") .byte)) && decide (flN[(ix1.getD i (0, 0, 0, 0)).2.2.2]? = some (Cond.eq (.length (.field (strT i) "java/lang/String" "value" "[B")) (.int (Int32.ofNat (strL.getD i 0)))))) = true := by decide +kernel
theorem t_E : ixE.all (fun q => decide (flN[q.2.2]? = some (Cond.eq (.elem (.field (strT q.1) "java/lang/String" "value" "[B") (.int (Int32.ofNat q.2.1))) (.int ((strBy.getD q.1 []).getD q.2.1 0))))) = true := by decide +kernel
theorem t_N : ixN.all (fun q => decide (flN[q.2.2]? = some (Cond.not (Cond.eq (strT q.1) (strT q.2.1))))) = true := by decide +kernel
theorem t_Ei : ∀ i : Fin 13, ∀ j : Fin 100, j.1 < strL.getD i.1 0 → ixE.any (fun q => q.1 == i.1 && q.2.1 == j.1) = true := by decide +kernel
theorem t_Ni : ∀ i : Fin 13, ∀ j : Fin 13, i.1 ≠ j.1 → ixN.any (fun q => q.1 == i.1 && q.2.1 == j.1) = true ∨ ixN.any (fun q => q.1 == j.1 && q.2.1 == i.1) = true := by decide +kernel
theorem t_1i (i : Fin 13) : (Cond.exactly (strT i.1) "java/lang/String" ∈ flatC (Jvm.Cond.and given_1 narrow_1)) ∧ (Cond.eq (.field (strT i.1) "java/lang/String" "coder" "B") (.int 0) ∈ flatC (Jvm.Cond.and given_1 narrow_1)) ∧ (Cond.arrayOf (.field (strT i.1) "java/lang/String" "value" "[B") .byte ∈ flatC (Jvm.Cond.and given_1 narrow_1)) ∧ Cond.eq (.length (.field (strT i.1) "java/lang/String" "value" "[B")) (.int (Int32.ofNat (strL.getD i.1 0))) ∈ flatC (Jvm.Cond.and given_1 narrow_1) := by
  have h := List.all_eq_true.mp t_1 i.1 (List.mem_range.mpr i.2)
  simp only [Bool.and_eq_true, decide_eq_true_eq] at h
  exact ⟨flN_mem h.1.1.1, flN_mem h.1.1.2, flN_mem h.1.2, flN_mem h.2⟩
theorem st_el (i : Fin 13) (j : Fin 100) (hj : j.1 < strL.getD i.1 0) : Cond.eq (.elem (.field (strT i.1) "java/lang/String" "value" "[B") (.int (Int32.ofNat j.1))) (.int ((strBy.getD i.1 []).getD j.1 0)) ∈ flatC (Jvm.Cond.and given_1 narrow_1) := by
  obtain ⟨q, hq, h⟩ := List.any_eq_true.mp (t_Ei i j hj)
  have h2 := of_decide_eq_true (List.all_eq_true.mp t_E q hq)
  simp only [Bool.and_eq_true, beq_iff_eq] at h
  rw [h.1, h.2] at h2
  exact flN_mem h2
theorem ne_at {i j : Nat} (h : ixN.any (fun q => q.1 == i && q.2.1 == j) = true) : Cond.not (Cond.eq (strT i) (strT j)) ∈ flatC (Jvm.Cond.and given_1 narrow_1) := by
  obtain ⟨q, hq, h⟩ := List.any_eq_true.mp h
  have h2 := of_decide_eq_true (List.all_eq_true.mp t_N q hq)
  simp only [Bool.and_eq_true, beq_iff_eq] at h
  rw [h.1, h.2] at h2
  exact flN_mem h2
theorem st_cs : Cond.eq (.static "java/lang/String" "COMPACT_STRINGS" "Z") (.int 1) ∈ flatC (Jvm.Cond.and given_1 narrow_1) := flN_mem (n := 4) (by decide +kernel)
theorem st_fm : Cond.isRef (.static "jdk/internal/util/Preconditions" "SIOOBE_FORMATTER" "Ljava/util/function/BiFunction;") ∈ flatC (Jvm.Cond.and given_1 narrow_1) := flN_mem (n := 5) (by decide +kernel)
theorem st_l1 : Cond.laysStatic "java/lang/String" "COMPACT_STRINGS" "Z" ∈ lw_tbl := ch3 (List.mem_of_getElem? (i := 159) rfl)
theorem st_l2 : Cond.laysStatic "jdk/internal/util/Preconditions" "SIOOBE_FORMATTER" "Ljava/util/function/BiFunction;" ∈ lw_tbl := ch3 (List.mem_of_getElem? (i := 175) rfl)
theorem st_i1 : Cond.initialized "java/lang/String" ∈ lw_tbl := ch1 (List.mem_of_getElem? (i := 15) rfl)
theorem st_i2 : Cond.initialized "jdk/internal/util/Preconditions" ∈ lw_tbl := ch1 (List.mem_of_getElem? (i := 17) rfl)
theorem st_r0 : Cond.stringRef "YardYear$Reader" 71 "bury buy raise pass" ∈ lw_tbl := ch3 (List.mem_of_getElem? (i := 144) rfl)
theorem st_r1 : Cond.stringRef "YardYear$Reader" 73 "moves digs goes bars" ∈ lw_tbl := ch3 (List.mem_of_getElem? (i := 145) rfl)
theorem st_r2 : Cond.stringRef "YardYear$Reader" 94 "if" ∈ lw_tbl := ch4 (List.mem_of_getElem? (i := 59) rfl)
theorem st_r3 : Cond.stringRef "YardYear$Reader" 112 "at" ∈ lw_tbl := ch4 (List.mem_of_getElem? (i := 53) rfl)
theorem st_r4 : Cond.stringRef "YardYear$Reader" 117 "times" ∈ lw_tbl := ch4 (List.mem_of_getElem? (i := 58) rfl)
theorem st_r5 : Cond.stringRef "YardYear$Reader" 133 "and" ∈ lw_tbl := ch4 (List.mem_of_getElem? (i := 74) rfl)
theorem st_r6 : Cond.stringRef "YardYear$Reader" 135 "or" ∈ lw_tbl := ch4 (List.mem_of_getElem? (i := 75) rfl)
theorem st_r7 : Cond.stringRef "YardYear$Reader" 137 "not" ∈ lw_tbl := ch4 (List.mem_of_getElem? (i := 68) rfl)
theorem st_r8 : Cond.stringRef "YardYear$Reader" 139 "<>=" ∈ lw_tbl := ch4 (List.mem_of_getElem? (i := 69) rfl)
theorem st_r9 : Cond.stringRef "YardYear$Reader" 147 "*/%" ∈ lw_tbl := ch3 (List.mem_of_getElem? (i := 232) rfl)
theorem st_r10 : Cond.stringRef "YardYear$Reader" 149 "+-" ∈ lw_tbl := ch4 (List.mem_of_getElem? (i := 52) rfl)
theorem st_r11 : Cond.stringRef "YardYear$Reader" 151 "year plots done moved at kind bought" ∈ lw_tbl := ch3 (List.mem_of_getElem? (i := 226) rfl)
theorem st_r12 : Cond.stringRef "YardYear$Reader" 153 "plot cell kind price bought family small years year mood" ∈ lw_tbl := ch3 (List.mem_of_getElem? (i := 227) rfl)
/-- what is said of texts, statics and the script, of any state -/
def xAll (adK adV : Nat → Nat) (bb b L : Nat) (xs : Nat → Int32) (U : State) : Prop :=
  (∀ (i : Nat) (own : String) (k : Nat) (tx : String), strTab[i]? = some (own, k, tx) → vk_R own k tx (adK i) U) ∧ vk_S 13 strL strBy adK adV (fun q => bb ≤ q) U U.heap ∧ va_Z "java/lang/String" "COMPACT_STRINGS" "Z" (.int 1) (fun q => bb ≤ q) U U.heap ∧ va_Zq "jdk/internal/util/Preconditions" "SIOOBE_FORMATTER" "Ljava/util/function/BiFunction;" (fun q => bb ≤ q) U U.heap ∧ va_X b L xs U U.heap ∧ b < U.heap.size
theorem va_X_moved {b L : Nat} {xs : Nat → Int32} {u U : State} {H : Heap} (hvm : u.vm.Alike U.vm) (h : va_X b L xs u H) : va_X b L xs U H := by
  obtain ⟨scr, h1, h2, h3⟩ := h
  exact ⟨scr, h1, State.isArrayOf_alike hvm h2, h3⟩
theorem va_Z_kept {C n d : String} {v : Value} {A : Nat → Prop} {U : State} {H H1 : Heap} (h : va_Z C n d v A U H) (hq : ∀ a : Nat, a < H.size → ¬ A a → H1[a]? = H[a]?) : va_Z C n d v A U H1 := by
  obtain ⟨cf, kf, fi, f, a, cell, h1, h2, h3, h4, h5, h6, h7, h8⟩ := h
  exact ⟨cf, kf, fi, f, a, cell, h1, h2, h3, h4, by rw [hq a (Array.getElem?_eq_some_iff.mp h5).1 h8]; exact h5, h6, h7, h8⟩
theorem xAll_ok {adK adV : Nat → Nat} {bb b L : Nat} {xs : Nat → Int32} (hb : b < bb) : (∀ (U : State) (g : JFrame) (mk : MethodId) (a : Array Value), xAll adK adV bb b L xs U → xAll adK adV bb b L xs (U.calling g mk a)) ∧ ∀ s U : State, xAll adK adV bb b L xs s → s.WarmedH U.vm → s.heap.size ≤ U.heap.size → (∀ q : Nat, q < s.heap.size → ¬ bb ≤ q → U.heap[q]? = s.heap[q]?) → xAll adK adV bb b L xs U := by
  refine ⟨fun U g mk a h => ?_, fun s U h hW hz hk => ?_⟩
  · obtain ⟨h1, h2, h3, h4, h5, h6⟩ := h
    have hv : U.vm.Alike (U.calling g mk a).vm := Vm.Alike.refl U.vm
    exact ⟨fun i own k tx ht => vk_R.same (u := U) rfl (h1 i own k tx ht), vk_S.moved hv h2, va_Z.moved hv h3, va_Zq.moved hv h4, va_X_moved hv h5, h6⟩
  · obtain ⟨h1, h2, h3, h4, h5, h6⟩ := h
    have hv := hW.alike
    refine ⟨fun i own k tx ht => vk_R.warm hW (h1 i own k tx ht), (vk_S.moved hv h2).kept hk, va_Z_kept (va_Z.moved hv h3) hk, ?_, (va_X_moved hv h5).kept (hk b h6 (by omega)), by omega⟩
    rcases va_Zq.moved hv h4 with q | ⟨t, q⟩
    · exact Or.inl (va_Z_kept q hk)
    · exact Or.inr ⟨t, va_Z_kept q hk⟩
theorem cls_of {s : State} {b : Nat} (hts : ∀ w ∈ lw_tbl, w.before #[Value.ref b] s = true) : ∃ (dC : Nat → ClassId) (dI : Nat → Nat → Nat), ∀ (k : Nat) (q : vw_C), vwCl[k]? = some q → u_Kn s q.1 q.2.1 q.2.2 (dC k) (dI k) := by
  have hg : ∀ w ∈ lw_gd, w.before #[Value.ref b] s = true := fun w hw => hts w (List.mem_filter.mp hw).1
  have key : ∀ k : Nat, ∃ x : ClassId × (Nat → Nat), ∀ q, vwCl[k]? = some q → u_Kn s q.1 q.2.1 q.2.2 x.1 x.2 := by
    intro k
    have mk : ∀ {C : String} {T : u_T} {N : Nat}, vwCl[k]? = some (C, T, N) → aCk k C T N → Cond.instantiable C N ∈ lw_gd → ∃ x : ClassId × (Nat → Nat), ∀ q, vwCl[k]? = some q → u_Kn s q.1 q.2.1 q.2.2 x.1 x.2 := by
      intro C T N hv hc hi
      obtain ⟨cC, iS, hk⟩ := u_known hg hc.2.2.1 (hg _ hi)
      refine ⟨(cC, iS), fun q hq => ?_⟩
      rw [hv] at hq
      cases hq
      exact hk
    match k with
    | 0 => exact mk rfl ck0 in0
    | 1 => exact mk rfl ck1 in1
    | 2 => exact mk rfl ck2 in2
    | 3 => exact mk rfl ck3 in3
    | 4 => exact mk rfl ck4 in4
    | 5 => exact mk rfl ck5 in5
    | 6 => exact mk rfl ck6 in6
    | 7 => exact mk rfl ck7 in7
    | 8 => exact mk rfl ck8 in8
    | 9 => exact mk rfl ck9 in9
    | 10 => exact mk rfl ck10 in10
    | 11 => exact mk rfl ck11 in11
    | 12 => exact mk rfl ck12 in12
    | k + 13 => exact ⟨(0, fun _ => 0), fun q hq => by cases hq⟩
  obtain ⟨f, hf⟩ := Classical.axiomOfChoice key
  exact ⟨fun k => (f k).1, fun k => (f k).2, hf⟩
theorem arr_of {s : State} {b : Nat} {ty : FieldType} (h : (Cond.arrayClass ty).before #[Value.ref b] s = true) (hp : refKind ty = false) : ∃ c : ClassId, ArrOfT s c ty ∧ va_RA s c ty := by
  obtain ⟨c, k, comp, h1, h2, h3⟩ := Cond.arrayClass_spec h
  refine ⟨c, fun N z => ⟨(fun q g => by cases g), k, h2, comp, h3⟩, ?_⟩
  cases ty <;> first | exact h1 | cases hp
theorem arq_of {s : State} {b : Nat} {C : String} (h : (Cond.arrayOver (.object C)).before #[Value.ref b] s = true) : ∃ c : ClassId, ArrOfT s c (.object C) ∧ va_RA s c (.object C) := by
  obtain ⟨comp, c, k, h1, h2, h3, h4, h5⟩ := Cond.arrayOver_spec h
  exact ⟨c, fun N z => ⟨(fun q g => by cases g), k, h3, comp, h4⟩, k, comp, h3, h4, h1, h5⟩
theorem E_of (l : Launch) {s : State} {b L : Nat} {xs : Nat → Int32} (hL : L ≤ 3072) (hts : ∀ w ∈ lw_tbl, w.before #[Value.ref b] s = true) (hX : va_X b L xs s s.heap) (hbl : b < s.heap.size) (hgv : (Jvm.Cond.and given_1 narrow_1).before #[Value.ref b] s = true) : ∃ E : EN, E.1 = l ∧ E.2.2.2.2.2.1 = false ∧ eB E = s.heap.size ∧ aIn E s ∧ aScr E b L xs ∧ aStr E := by
  have hs := flat_of_before _ hgv
  obtain ⟨dC, dI, hdc⟩ := cls_of hts
  obtain ⟨c0, a0, r0⟩ := arr_of (hts _ (List.mem_filter.mp ac_int).1) rfl
  obtain ⟨c1, a1, r1⟩ := arr_of (hts _ (List.mem_filter.mp ac_long).1) rfl
  obtain ⟨c2, a2, r2⟩ := arr_of (hts _ (List.mem_filter.mp ac_boolean).1) rfl
  obtain ⟨c3, a3, r3⟩ := arq_of (hts _ aoX2)
  obtain ⟨c4, a4, r4⟩ := arq_of (hts _ aoX9)
  obtain ⟨c5, a5, r5⟩ := arq_of (hts _ aoX10)
  have hA : ∀ a : Nat, a < s.heap.size → ¬ s.heap.size ≤ a := fun a h => by omega
  have hl13 : ∀ i : Nat, i < 13 → strL.getD i 0 < 100 := strN_lt
  obtain ⟨adK, adV, hS, hev⟩ := vk_Sof (N := 13) (tm := strT) (len := strL) (byt := strBy) (A := fun q => s.heap.size ≤ q) (fun i hi => Nat.lt_trans (hl13 i hi) (by decide)) (fun i hi => hs _ (t_1i ⟨i, hi⟩).1) (fun i hi => hs _ (t_1i ⟨i, hi⟩).2.1) (fun i hi => hs _ (t_1i ⟨i, hi⟩).2.2.1) (fun i hi => hs _ (t_1i ⟨i, hi⟩).2.2.2) (fun i hi j hj => hs _ (st_el ⟨i, hi⟩ ⟨j, Nat.lt_trans hj (hl13 i hi)⟩ hj)) (fun i j hi hj hij => (t_Ni ⟨i, hi⟩ ⟨j, hj⟩ hij).imp (fun q => hs _ (ne_at q)) (fun q => hs _ (ne_at q))) hA
  have hst : ∀ (i : Nat) (own : String) (k : Nat) (tx : String), strTab[i]? = some (own, k, tx) → vk_R own k tx (adK i) s := by
    intro i own k tx ht
    have hi : i < 13 := (List.getElem?_eq_some_iff.mp ht).1
    have he := hev i hi
    unfold strT at he
    rw [List.getD_eq_getElem?_getD, ht] at he
    have hr : Cond.stringRef own k tx ∈ lw_tbl := by
      have hall : ∀ q ∈ strTab, Cond.stringRef q.1 q.2.1 q.2.2 ∈ lw_tbl := List.forall_mem_cons.mpr ⟨st_r0, List.forall_mem_cons.mpr ⟨st_r1, List.forall_mem_cons.mpr ⟨st_r2, List.forall_mem_cons.mpr ⟨st_r3, List.forall_mem_cons.mpr ⟨st_r4, List.forall_mem_cons.mpr ⟨st_r5, List.forall_mem_cons.mpr ⟨st_r6, List.forall_mem_cons.mpr ⟨st_r7, List.forall_mem_cons.mpr ⟨st_r8, List.forall_mem_cons.mpr ⟨st_r9, List.forall_mem_cons.mpr ⟨st_r10, List.forall_mem_cons.mpr ⟨st_r11, List.forall_mem_cons.mpr ⟨st_r12, fun _ h => nomatch h⟩⟩⟩⟩⟩⟩⟩⟩⟩⟩⟩⟩⟩
      exact hall _ (List.mem_of_getElem? ht)
    exact vk_R.of (hts _ hr) he
  have hcs := va_Zof (A := fun q => s.heap.size ≤ q) (hts _ st_l1) (hts _ st_i1) (va_eqt (hs _ st_cs)) hA
  have hfm := va_Zqof (A := fun q => s.heap.size ≤ q) (hts _ st_l2) (hts _ st_i2) (hs _ st_fm) hA
  have hXA : xAll adK adV s.heap.size b L xs s := ⟨hst, hS, hcs, hfm, hX, hbl⟩
  -- one function for the array classes and the texts' addresses
  obtain ⟨cA, h0, h1, h2, h3, h4, h5, hK, hV⟩ : ∃ cA : Nat → Nat, cA 0 = c0 ∧ cA 1 = c1 ∧ cA 2 = c2 ∧ cA 3 = c3 ∧ cA 4 = c4 ∧ cA 5 = c5 ∧ (∀ i, i < 13 → cA (100 + i) = adK i) ∧ ∀ i, i < 13 → cA (200 + i) = adV i := by
    refine ⟨fun n => if n = 0 then c0 else if n = 1 then c1 else if n = 2 then c2 else if n = 3 then c3 else if n = 4 then c4 else if n = 5 then c5 else if n < 200 then adK (n - 100) else adV (n - 200), rfl, rfl, rfl, rfl, rfl, rfl, fun i hi => ?_, fun i hi => ?_⟩
    · dsimp only
      rw [if_neg (by omega), if_neg (by omega), if_neg (by omega), if_neg (by omega), if_neg (by omega), if_neg (by omega), if_pos (by omega), Nat.add_sub_cancel_left]
    · dsimp only
      rw [if_neg (by omega), if_neg (by omega), if_neg (by omega), if_neg (by omega), if_neg (by omega), if_neg (by omega), if_neg (by omega), Nat.add_sub_cancel_left]
  refine ⟨(l, dC, dI, cA, s.heap.size, false, xAll adK adV s.heap.size b L xs), rfl, rfl, rfl, ⟨⟨hdc, ?_⟩, ?_, xAll_ok hbl, hXA⟩, ⟨hbl, by omega, fun U hU => ⟨hU.2.2.2.2.1, hU.2.2.2.2.2⟩⟩, ?_⟩
  · intro k q hq
    match k with
    | 0 => cases hq; show ArrOfT s (cA 0) .int ∧ va_RA s (cA 0) .int; rw [h0]; exact ⟨a0, r0⟩
    | 1 => cases hq; show ArrOfT s (cA 1) .long ∧ va_RA s (cA 1) .long; rw [h1]; exact ⟨a1, r1⟩
    | 2 => cases hq; show ArrOfT s (cA 2) .boolean ∧ va_RA s (cA 2) .boolean; rw [h2]; exact ⟨a2, r2⟩
    | 3 => cases hq; show ArrOfT s (cA 3) (.object "YardYear$Image") ∧ va_RA s (cA 3) (.object "YardYear$Image"); rw [h3]; exact ⟨a3, r3⟩
    | 4 => cases hq; show ArrOfT s (cA 4) (.object "YardYear$Text") ∧ va_RA s (cA 4) (.object "YardYear$Text"); rw [h4]; exact ⟨a4, r4⟩
    | 5 => cases hq; show ArrOfT s (cA 5) (.object "YardYear$Yard") ∧ va_RA s (cA 5) (.object "YardYear$Yard"); rw [h5]; exact ⟨a5, r5⟩
    | k + 6 => cases hq
  · intro w hw hn
    have hww := hts w hw
    cases w with
    | fieldLinkNest => exact va_Nw.of rfl hww
    | methodLinkNest => exact va_Nw.of rfl hww
    | arrayOver ty =>
      cases ty with
      | object C => exact va_AO.of hww
      | _ => cases hn
    | _ => cases hn
  · intro U hU
    obtain ⟨q1, q2, q3, q4, -, -⟩ := hU
    refine ⟨fun i own k tx ht => ?_, ?_, q3, q4⟩
    · have hi : i < 13 := (List.getElem?_eq_some_iff.mp ht).1
      have := q1 i own k tx ht
      show vk_R own k tx (cA (100 + i)) U
      rw [hK i hi]
      exact this
    · refine ⟨fun i hi => ?_, fun i j hi hj he => ?_⟩
      · show va_O "java/lang/String" (cA (100 + i)) _ U U.heap ∧ va_OF "java/lang/String" "coder" "B" (.int 0) (cA (100 + i)) _ U U.heap ∧ va_OF "java/lang/String" "value" "[B" (.ref (cA (200 + i))) (cA (100 + i)) _ U U.heap ∧ va_T .byte (cA (200 + i)) _ _ _ U U.heap
        rw [hK i hi, hV i hi]
        exact q2.1 i hi
      · have he2 : cA (100 + i) = cA (100 + j) := he
        rw [hK i hi, hK j hj] at he2
        exact q2.2 i j hi hj he2
