theorem in0 : Cond.instantiable RX0 2 ∈ lw_gd := gd_tbl (ch2 (List.mem_of_getElem? (i := 106) rfl)) rfl
theorem nz0 : Cond.initialized RX0 ∈ lw_gd := gd_tbl (ch1 (List.mem_of_getElem? (i := 11) rfl)) rfl
theorem in1 : Cond.instantiable RX1 4 ∈ lw_gd := gd_tbl (ch1 (List.mem_of_getElem? (i := 167) rfl)) rfl
theorem nz1 : Cond.initialized RX1 ∈ lw_gd := gd_tbl (ch1 (List.mem_of_getElem? (i := 5) rfl)) rfl
theorem in2 : Cond.instantiable RX2 4 ∈ lw_gd := gd_tbl (ch2 (List.mem_of_getElem? (i := 17) rfl)) rfl
theorem nz2 : Cond.initialized RX2 ∈ lw_gd := gd_tbl (ch1 (List.mem_of_getElem? (i := 8) rfl)) rfl
theorem in3 : Cond.instantiable RX3 3 ∈ lw_gd := gd_tbl (ch1 (List.mem_of_getElem? (i := 187) rfl)) rfl
theorem nz3 : Cond.initialized RX3 ∈ lw_gd := gd_tbl (ch1 (List.mem_of_getElem? (i := 6) rfl)) rfl
theorem in4 : Cond.instantiable RX4 5 ∈ lw_gd := gd_tbl (ch2 (List.mem_of_getElem? (i := 83) rfl)) rfl
theorem nz4 : Cond.initialized RX4 ∈ lw_gd := gd_tbl (ch1 (List.mem_of_getElem? (i := 10) rfl)) rfl
theorem in5 : Cond.instantiable RX5 9 ∈ lw_gd := gd_tbl (ch2 (List.mem_of_getElem? (i := 43) rfl)) rfl
theorem nz5 : Cond.initialized RX5 ∈ lw_gd := gd_tbl (ch1 (List.mem_of_getElem? (i := 9) rfl)) rfl
theorem in6 : Cond.instantiable RX6 3 ∈ lw_gd := gd_tbl (ch1 (List.mem_of_getElem? (i := 111) rfl)) rfl
theorem nz6 : Cond.initialized RX6 ∈ lw_gd := gd_tbl (ch1 (List.mem_of_getElem? (i := 4) rfl)) rfl
theorem in7 : Cond.instantiable RX7 11 ∈ lw_gd := gd_tbl (ch2 (List.mem_of_getElem? (i := 122) rfl)) rfl
theorem nz7 : Cond.initialized RX7 ∈ lw_gd := gd_tbl (ch1 (List.mem_of_getElem? (i := 12) rfl)) rfl
theorem in8 : Cond.instantiable RX8 10 ∈ lw_gd := gd_tbl (ch1 (List.mem_of_getElem? (i := 30) rfl)) rfl
theorem nz8 : Cond.initialized RX8 ∈ lw_gd := gd_tbl (ch1 (List.mem_of_getElem? (i := 2) rfl)) rfl
theorem in9 : Cond.instantiable RX9 10 ∈ lw_gd := gd_tbl (ch1 (List.mem_of_getElem? (i := 194) rfl)) rfl
theorem nz9 : Cond.initialized RX9 ∈ lw_gd := gd_tbl (ch1 (List.mem_of_getElem? (i := 7) rfl)) rfl
theorem in10 : Cond.instantiable RX10 13 ∈ lw_gd := gd_tbl (ch1 (List.mem_of_getElem? (i := 36) rfl)) rfl
theorem nz10 : Cond.initialized RX10 ∈ lw_gd := gd_tbl (ch1 (List.mem_of_getElem? (i := 3) rfl)) rfl
theorem in11 : Cond.instantiable RX11 14 ∈ lw_gd := gd_tbl (ch1 (List.mem_of_getElem? (i := 22) rfl)) rfl
theorem nz11 : Cond.initialized RX11 ∈ lw_gd := gd_tbl (ch1 (List.mem_of_getElem? (i := 1) rfl)) rfl
theorem in12 : Cond.instantiable RX12 61 ∈ lw_gd := gd_tbl (ch5 (List.mem_of_getElem? (i := 217) rfl)) rfl
theorem nz12 : Cond.initialized RX12 ∈ lw_gd := gd_tbl (ch1 (List.mem_of_getElem? (i := 13) rfl)) rfl
theorem clL_7 : Cond.classLink RL 7 RX11 ∈ lw_gd := gd_tbl (ch1 (List.mem_of_getElem? (i := 21) rfl)) rfl
theorem loX11_5 : Cond.methodLink RX11 5 objectInit ∈ lw_gd := gd_tbl (ch1 (List.mem_of_getElem? (i := 26) rfl)) rfl
theorem clX11_11 : Cond.classLink RX11 11 RX8 ∈ lw_gd := gd_tbl (ch1 (List.mem_of_getElem? (i := 29) rfl)) rfl
theorem loX8_3 : Cond.methodLink RX8 3 objectInit ∈ lw_gd := gd_tbl (ch1 (List.mem_of_getElem? (i := 34) rfl)) rfl
theorem clX8_9 : Cond.classLink RX8 9 RX10 ∈ lw_gd := gd_tbl (ch1 (List.mem_of_getElem? (i := 35) rfl)) rfl
theorem loX10_3 : Cond.methodLink RX10 3 objectInit ∈ lw_gd := gd_tbl (ch1 (List.mem_of_getElem? (i := 40) rfl)) rfl
theorem ac_int : Cond.arrayClass .int ∈ lw_gd := gd_tbl (ch1 (List.mem_of_getElem? (i := 109) rfl)) rfl
theorem clX8_18 : Cond.classLink RX8 18 RX6 ∈ lw_gd := gd_tbl (ch1 (List.mem_of_getElem? (i := 110) rfl)) rfl
theorem loX6_3 : Cond.methodLink RX6 3 objectInit ∈ lw_gd := gd_tbl (ch1 (List.mem_of_getElem? (i := 115) rfl)) rfl
theorem clX6_9 : Cond.classLink RX6 9 RX10 ∈ lw_gd := gd_tbl (ch1 (List.mem_of_getElem? (i := 116) rfl)) rfl
theorem aoX10 : Cond.arrayOver (.object "YardYear$Yard") ∈ lw_tbl := ch1 (List.mem_of_getElem? (i := 117) rfl)
theorem clX11_28 : Cond.classLink RX11 28 RX1 ∈ lw_gd := gd_tbl (ch1 (List.mem_of_getElem? (i := 166) rfl)) rfl
theorem loX1_3 : Cond.methodLink RX1 3 objectInit ∈ lw_gd := gd_tbl (ch1 (List.mem_of_getElem? (i := 171) rfl)) rfl
theorem clX11_35 : Cond.classLink RX11 35 RX3 ∈ lw_gd := gd_tbl (ch1 (List.mem_of_getElem? (i := 186) rfl)) rfl
theorem loX3_3 : Cond.methodLink RX3 3 objectInit ∈ lw_gd := gd_tbl (ch1 (List.mem_of_getElem? (i := 191) rfl)) rfl
theorem clX3_9 : Cond.classLink RX3 9 RX9 ∈ lw_gd := gd_tbl (ch1 (List.mem_of_getElem? (i := 192) rfl)) rfl
theorem aoX9 : Cond.arrayOver (.object "YardYear$Text") ∈ lw_tbl := ch1 (List.mem_of_getElem? (i := 193) rfl)
theorem loX9_3 : Cond.methodLink RX9 3 objectInit ∈ lw_gd := gd_tbl (ch1 (List.mem_of_getElem? (i := 198) rfl)) rfl
theorem ac_long : Cond.arrayClass .long ∈ lw_gd := gd_tbl (ch2 (List.mem_of_getElem? (i := 2) rfl)) rfl
theorem clX11_42 : Cond.classLink RX11 42 RX2 ∈ lw_gd := gd_tbl (ch2 (List.mem_of_getElem? (i := 15) rfl)) rfl
theorem aoX2 : Cond.arrayOver (.object "YardYear$Image") ∈ lw_tbl := ch2 (List.mem_of_getElem? (i := 16) rfl)
theorem loX2_1 : Cond.methodLink RX2 1 objectInit ∈ lw_gd := gd_tbl (ch2 (List.mem_of_getElem? (i := 21) rfl)) rfl
theorem clX2_7 : Cond.classLink RX2 7 RX10 ∈ lw_gd := gd_tbl (ch2 (List.mem_of_getElem? (i := 22) rfl)) rfl
theorem clX2_16 : Cond.classLink RX2 16 RX1 ∈ lw_gd := gd_tbl (ch2 (List.mem_of_getElem? (i := 24) rfl)) rfl
theorem clX2_23 : Cond.classLink RX2 23 RX3 ∈ lw_gd := gd_tbl (ch2 (List.mem_of_getElem? (i := 26) rfl)) rfl
theorem clX11_49 : Cond.classLink RX11 49 RX5 ∈ lw_gd := gd_tbl (ch2 (List.mem_of_getElem? (i := 42) rfl)) rfl
theorem loX5_3 : Cond.methodLink RX5 3 objectInit ∈ lw_gd := gd_tbl (ch2 (List.mem_of_getElem? (i := 47) rfl)) rfl
theorem clX5_9 : Cond.classLink RX5 9 RX10 ∈ lw_gd := gd_tbl (ch2 (List.mem_of_getElem? (i := 48) rfl)) rfl
theorem clX11_56 : Cond.classLink RX11 56 RX4 ∈ lw_gd := gd_tbl (ch2 (List.mem_of_getElem? (i := 82) rfl)) rfl
theorem loX4_3 : Cond.methodLink RX4 3 objectInit ∈ lw_gd := gd_tbl (ch2 (List.mem_of_getElem? (i := 87) rfl)) rfl
theorem clX11_63 : Cond.classLink RX11 63 RX0 ∈ lw_gd := gd_tbl (ch2 (List.mem_of_getElem? (i := 105) rfl)) rfl
theorem loX0_3 : Cond.methodLink RX0 3 objectInit ∈ lw_gd := gd_tbl (ch2 (List.mem_of_getElem? (i := 110) rfl)) rfl
theorem clX0_9 : Cond.classLink RX0 9 RX10 ∈ lw_gd := gd_tbl (ch2 (List.mem_of_getElem? (i := 111) rfl)) rfl
theorem clX11_70 : Cond.classLink RX11 70 RX7 ∈ lw_gd := gd_tbl (ch2 (List.mem_of_getElem? (i := 121) rfl)) rfl
theorem loX7_3 : Cond.methodLink RX7 3 objectInit ∈ lw_gd := gd_tbl (ch2 (List.mem_of_getElem? (i := 126) rfl)) rfl
theorem clX7_15 : Cond.classLink RX7 15 RX9 ∈ lw_gd := gd_tbl (ch2 (List.mem_of_getElem? (i := 127) rfl)) rfl
theorem clL_10 : Cond.classLink RL 10 RX12 ∈ lw_gd := gd_tbl (ch5 (List.mem_of_getElem? (i := 216) rfl)) rfl
theorem loX12_1 : Cond.methodLink RX12 1 objectInit ∈ lw_gd := gd_tbl (ch5 (List.mem_of_getElem? (i := 221) rfl)) rfl
theorem ac_boolean : Cond.arrayClass .boolean ∈ lw_gd := gd_tbl (ch6 (List.mem_of_getElem? (i := 188) rfl)) rfl
theorem oi_i : Cond.instanceMethod objectInit ∈ lw_gd := gd_tbl (ch1 (List.mem_of_getElem? (i := 27) rfl)) rfl
theorem oi_c : Cond.code objectInit ⟨#[0xb1]⟩ 1 none ∈ lw_gd := gd_tbl (ch1 (List.mem_of_getElem? (i := 28) rfl)) rfl
theorem aWl_app {E : EN} {sh : Sp} {mem mem' : Mm} {kn : Nat × Nat} (h : ∀ i : Nat, i < sh.length → mem' i = mem i) : aWl E (sh ++ [kn]) mem' = aWl E sh mem ++ [(eB E + sh.length, aEn E kn.1 kn.2 (mem' sh.length))] := by
  unfold aWl
  rw [List.length_append, List.length_singleton, List.range_succ, List.map_append]
  congr 1
  · refine List.map_congr_left fun j hj => ?_
    have hj : j < sh.length := List.mem_range.mp hj
    rw [h j hj, List.getD_eq_getElem?_getD, List.getD_eq_getElem?_getD, List.getElem?_append_left hj]
  · simp [List.getD_eq_getElem?_getD]
theorem aNew_q {E : EN} {sh : Sp} {mem : Mm} {H1 : Heap} {q : Nat} {e : va_E} (hD : va_D (fun q => eB E ≤ q) (aWl E sh mem ++ [(q, e)])) (hq : q < H1.size) (hz : H1.size ≤ eB E + sh.length + 1) : q = eB E + sh.length := by
  have hlen : (aWl E sh mem ++ [(q, e)])[sh.length]? = some (q, e) := by
    rw [List.getElem?_append_right (by rw [aWl_len]; exact Nat.le_refl _), aWl_len, Nat.sub_self]; rfl
  have h1 : eB E ≤ q := hD.2 _ _ hlen
  rcases Nat.lt_or_ge q (eB E + sh.length) with g | g
  · have hj : q - eB E < sh.length := by omega
    obtain ⟨⟨kk, n⟩, hk⟩ : ∃ x, sh[q - eB E]? = some x := ⟨_, List.getElem?_eq_getElem hj⟩
    have h2 : (aWl E sh mem ++ [(q, e)])[q - eB E]? = some (eB E + (q - eB E), aEn E kk n (mem (q - eB E : Nat))) := by
      rw [List.getElem?_append_left (by rw [aWl_len]; exact hj)]
      exact aWl_get hk
    have h3 := hD.1 _ _ _ _ h2 hlen (by show eB E + (q - eB E) = q; omega)
    omega
  · omega
theorem W_room {p : Program} {e : Env} {l : Launch} {R : Room} {s : State} {m : MethodId} {args : Array Value} {below : List Frame} {meth : Method} {c : Code} {H : Heap} {locs : List Loc} {cells slots : Nat} {Q : State → Prop} {g : JFrame} (h : H.size ≤ s.heap.size + cells → W p l e R s m args below meth c H locs cells slots Q g) : W p l e R s m args below meth c H locs cells slots Q g := by
  intro T hT X
  have h1 : (T.setVm s.vm).heap.size ≤ s.heap.size + cells := X.same.2.2.1
  have h2 : T.heap.size ≤ s.heap.size + cells := h1
  rw [hT] at h2
  exact h h2 T hT X
/-- memory behind the making of object L, all its slots d -/
def aNw (mem : Mm) (L : Int) (d : Int → Int) : Mm := fun b j => if b = L then d j else mem b j
theorem aNw_ne {mem : Mm} {L b : Int} {d : Int → Int} (h : b ≠ L) : aNw mem L d b = mem b := funext fun _ => if_neg h
theorem aNw_at {mem : Mm} {L : Int} {d : Int → Int} : aNw mem L d L = d := funext fun _ => if_pos rfl
def dft (ci : Nat) (j : Int) : Int := if aT ci j = 2 then -1 else 0
theorem dft_nr {ci : Nat} {j : Int} : aNr (aT ci j, dft ci j) := by
  unfold dft aNr
  dsimp only
  split <;> omega
theorem aWd_new {E : EN} {sh : Sp} {mem : Mm} {H1 : Heap} {kn : Nat × Nat} (hph : E.2.2.2.2.2.1 = false) (hn : aNm sh mem) (hP : va_P (E.2.1, E.2.2.1) vwCl (aWl E (sh ++ [kn]) (aNw mem sh.length (dft kn.1))) H1) : aWd E (sh ++ [kn]) (aNw mem sh.length (dft kn.1)) H1 := by
  refine ⟨hP, ?_, fun q => by rw [hph] at q; cases q⟩
  intro j k n i h
  by_cases hj : j = sh.length
  · subst hj
    rw [List.getElem?_append_right (Nat.le_refl _), Nat.sub_self] at h
    cases h
    unfold aNw
    rw [if_pos rfl]
    exact dft_nr
  · have hlt : j < sh.length := by
      have h2 := (List.getElem?_eq_some_iff.mp h).1
      rw [List.length_append, List.length_singleton] at h2
      omega
    rw [List.getElem?_append_left hlt] at h
    rw [aNw_ne (by omega)]
    exact hn j k n i h
theorem dflt_V {b ci j : Nat} (h : aT ci (j : Int) ≤ 2) (hty : aTy (aKty ci j) = aT ci (j : Int)) : defaultValue (aKty ci j) = aV b (aT ci (j : Int), dft ci (j : Int)) := by
  rw [← hty] at h ⊢
  unfold dft
  rw [← hty]
  cases hq : aKty ci j with
  | int => rfl
  | long => rfl
  | boolean => rfl
  | object n => rfl
  | array n => rfl
  | byte => rw [hq] at h; exact absurd h (by decide)
  | char => rw [hq] at h; exact absurd h (by decide)
  | short => rw [hq] at h; exact absurd h (by decide)
  | float => rw [hq] at h; exact absurd h (by decide)
  | double => rw [hq] at h; exact absurd h (by decide)
theorem v_new {E : EN} {mi : MI} {k C S : Nat} {sh : Sp} {mem : Mm} {cs : Nat × Nat} {pc : Nat} {al : List (Nat × AV)} {st : List AV} {Q : PQ} {ci N index : Nat} {Cn : String} {T : u_T} (hph : E.2.2.2.2.2.1 = false) (hd : decode mi.2.1 pc = .ok (.new index, 3)) (hcl : Cond.classLink mi.1.cls index Cn ∈ lw_gd) (hck : aCk ci Cn T N) (hins : Cond.instantiable Cn N ∈ lw_gd) (hini : Cond.initialized Cn ∈ lw_gd) (ht : ∀ j : Nat, j < N → aT ci (j : Int) ≤ 2) (hc1 : cs.1 + 1 ≤ C) (hs1 : cs.2 + N ≤ S) (h : VG E mi k C S (sh ++ [(ci, N)]) (aNw mem sh.length (dft ci)) (cs.1 + 1, cs.2 + N) (pc + 3) al (aR sh.length :: st) Q) : VG E mi k C S sh mem cs pc al st Q := by
  obtain ⟨hc13, hvc, hin, hty, hnm⟩ := hck
  intro p e s m args below meth c H locs ls hx hc hW hS hl hna hns
  have hts := hc.2.2.2.2.1
  refine va_new (D := (E.2.1, E.2.2.1)) (fs := (List.range N).map fun j : Nat => aV (eB E) (aT ci j, dft ci j)) hx hc.1 hts hin (aKty ci) hty hc.2.2.2.1 (hts _ hcl) (hts _ hins) (hts _ hini) hc.2.2.2.2.2.2.2.1 hW.1 (aWl_D E sh mem) hS.1 (fun q hq => Nat.le_trans hS.2.2 hq) hvc ?_ hc1 hs1 hd (fun q H1 hP1 hD1 hS1 => ?_)
  · intro j hj
    unfold vp_V
    rw [List.getD_eq_getElem?_getD, aEn_at (f := dft ci) hj]
    exact dflt_V (ht j hj) (by unfold aT; rw [Int.toNat_natCast])
  · refine W_room fun hz => ?_
    have hlen : (aWl E sh mem ++ [(q, (Sum.inr (ci, (List.range N).map fun j : Nat => aV (eB E) (aT ci j, dft ci j)) : va_E))])[sh.length]? = some (q, Sum.inr (ci, (List.range N).map fun j : Nat => aV (eB E) (aT ci j, dft ci j))) := by
      rw [List.getElem?_append_right (by rw [aWl_len]; exact Nat.le_refl _), aWl_len, Nat.sub_self]; rfl
    have hq := aNew_q hD1 ((hP1 _ _ hlen).lt) (by have := hS.2.1; omega)
    subst hq
    have e1 : aWl E sh mem ++ [(eB E + sh.length, (Sum.inr (ci, (List.range N).map fun j : Nat => aV (eB E) (aT ci j, dft ci j)) : va_E))] = aWl E (sh ++ [(ci, N)]) (aNw mem sh.length (dft ci)) := by
      rw [aWl_app (mem := mem) (fun i hi => aNw_ne (by omega)), aNw_at, aEn_obj hc13]
    rw [e1] at hP1
    have h2 := h p e s m args below meth c H1 locs ls hx hc (aWd_new hph hW.2.1 hP1) ⟨hS1, by rw [List.length_append, List.length_singleton]; have := hS.2.1; show s.heap.size + (cs.1 + 1) = _; omega, hS.2.2⟩ hl hna (aNs_c (aNr_R _) hns)
    rw [show aSt (eB E) (aR (sh.length : Int) :: st) = .ref (eB E + sh.length) :: aSt (eB E) st from by
      show aV (eB E) (aR (sh.length : Int)) :: _ = _
      rw [aV_ref]] at h2
    exact h2
theorem v_newa13 {E : EN} {mi : MI} {k C S : Nat} {sh : Sp} {mem : Mm} {cs : Nat × Nat} {pc : Nat} {al : List (Nat × AV)} {st : List AV} {Q : PQ} {n : Int} (hph : E.2.2.2.2.2.1 = false) (hd : decode mi.2.1 pc = .ok (.newarray .int, 2)) (h0 : 0 ≤ n) (hn : n < 100000) (hc1 : cs.1 + 1 ≤ C) (hs1 : cs.2 + n.toNat ≤ S) (h : VG E mi k C S (sh ++ [(13, n.toNat)]) (aNw mem sh.length (dft 13)) (cs.1 + 1, cs.2 + n.toNat) (pc + 2) al (aR sh.length :: st) Q) : VG E mi k C S sh mem cs pc al (aI n :: st) Q := by
  intro p e s m args below meth c H locs ls hx hc hW hS hl hna hns
  have hts := hc.2.2.2.2.1
  have hnr := aNs_I hns
  have e1 : (Int32.ofInt n).toNatClampNeg = n.toNat := Int32.toNatClampNeg_ofInt_of_le hnr.1 hnr.2
  have hzn : ¬ Int32.ofInt n < 0 := fun q => by
    have := (i32_lt hnr r32_0).1 q
    omega
  have hcb : n.toNat * componentBytes (newarray.typeOf .int) ≤ 536870912 := by
    show n.toNat * 4 ≤ _
    omega
  refine va_newa (D := (E.2.1, E.2.2.1)) (atype := .int) (a0 := (n.toNat, .inl fun _ => Int32.ofInt 0)) (rest := aSt (eB E) st) (n := Int32.ofInt n) hx hc.1 (hts _ ac_int) rfl hc.2.2.2.2.2.2.2.1 hW.1 (aWl_D E sh mem) hS.1 (fun q hq => Nat.le_trans hS.2.2 hq) (fun cA => rfl) hzn e1 hcb hc1 hs1 hd (fun q cA H1 hK1 hP1 hD1 hS1 => ?_)
  refine W_room fun hz => ?_
  have g1 := (hK1.2 6 _ rfl).2
  have g2 := (hK1.2 0 _ rfl).2
  have hcA : cA = E.2.2.2.1 0 := Option.some.inj (Eq.trans (Eq.symm g1) g2)
  subst hcA
  have hlen : (aWl E sh mem ++ [(q, (Sum.inl (E.2.2.2.1 0, n.toNat, .inl fun _ => Int32.ofInt 0) : va_E))])[sh.length]? = some (q, Sum.inl (E.2.2.2.1 0, n.toNat, .inl fun _ => Int32.ofInt 0)) := by
    rw [List.getElem?_append_right (by rw [aWl_len]; exact Nat.le_refl _), aWl_len, Nat.sub_self]; rfl
  have hq := aNew_q hD1 ((hP1 _ _ hlen).lt) (by have := hS.2.1; omega)
  subst hq
  have e2 : aWl E sh mem ++ [(eB E + sh.length, (Sum.inl (E.2.2.2.1 0, n.toNat, .inl fun _ => Int32.ofInt 0) : va_E))] = aWl E (sh ++ [(13, n.toNat)]) (aNw mem sh.length (dft 13)) := by
    rw [aWl_app (mem := mem) (fun i hi => aNw_ne (by omega)), aNw_at]
    rfl
  rw [e2] at hP1
  have h2 := h p e s m args below meth c H1 locs ls hx hc (aWd_new hph hW.2.1 hP1) ⟨hS1, by rw [List.length_append, List.length_singleton]; have := hS.2.1; show s.heap.size + (cs.1 + 1) = _; omega, hS.2.2⟩ hl hna (aNs_c (aNr_R _) (aNs_t hns))
  rw [show aSt (eB E) (aR (sh.length : Int) :: st) = .ref (eB E + sh.length) :: aSt (eB E) st from by
    show aV (eB E) (aR (sh.length : Int)) :: _ = _
    rw [aV_ref]] at h2
  exact h2
theorem v_newa14 {E : EN} {mi : MI} {k C S : Nat} {sh : Sp} {mem : Mm} {cs : Nat × Nat} {pc : Nat} {al : List (Nat × AV)} {st : List AV} {Q : PQ} {n : Int} (hph : E.2.2.2.2.2.1 = false) (hd : decode mi.2.1 pc = .ok (.newarray .long, 2)) (h0 : 0 ≤ n) (hn : n < 100000) (hc1 : cs.1 + 1 ≤ C) (hs1 : cs.2 + n.toNat ≤ S) (h : VG E mi k C S (sh ++ [(14, n.toNat)]) (aNw mem sh.length (dft 14)) (cs.1 + 1, cs.2 + n.toNat) (pc + 2) al (aR sh.length :: st) Q) : VG E mi k C S sh mem cs pc al (aI n :: st) Q := by
  intro p e s m args below meth c H locs ls hx hc hW hS hl hna hns
  have hts := hc.2.2.2.2.1
  have hnr := aNs_I hns
  have e1 : (Int32.ofInt n).toNatClampNeg = n.toNat := Int32.toNatClampNeg_ofInt_of_le hnr.1 hnr.2
  have hzn : ¬ Int32.ofInt n < 0 := fun q => by
    have := (i32_lt hnr r32_0).1 q
    omega
  have hcb : n.toNat * componentBytes (newarray.typeOf .long) ≤ 536870912 := by
    show n.toNat * 8 ≤ _
    omega
  refine va_newa (D := (E.2.1, E.2.2.1)) (atype := .long) (a0 := (n.toNat, .inr (.inl fun _ => Int64.ofInt 0))) (rest := aSt (eB E) st) (n := Int32.ofInt n) hx hc.1 (hts _ ac_long) rfl hc.2.2.2.2.2.2.2.1 hW.1 (aWl_D E sh mem) hS.1 (fun q hq => Nat.le_trans hS.2.2 hq) (fun cA => rfl) hzn e1 hcb hc1 hs1 hd (fun q cA H1 hK1 hP1 hD1 hS1 => ?_)
  refine W_room fun hz => ?_
  have g1 := (hK1.2 6 _ rfl).2
  have g2 := (hK1.2 1 _ rfl).2
  have hcA : cA = E.2.2.2.1 1 := Option.some.inj (Eq.trans (Eq.symm g1) g2)
  subst hcA
  have hlen : (aWl E sh mem ++ [(q, (Sum.inl (E.2.2.2.1 1, n.toNat, .inr (.inl fun _ => Int64.ofInt 0)) : va_E))])[sh.length]? = some (q, Sum.inl (E.2.2.2.1 1, n.toNat, .inr (.inl fun _ => Int64.ofInt 0))) := by
    rw [List.getElem?_append_right (by rw [aWl_len]; exact Nat.le_refl _), aWl_len, Nat.sub_self]; rfl
  have hq := aNew_q hD1 ((hP1 _ _ hlen).lt) (by have := hS.2.1; omega)
  subst hq
  have e2 : aWl E sh mem ++ [(eB E + sh.length, (Sum.inl (E.2.2.2.1 1, n.toNat, .inr (.inl fun _ => Int64.ofInt 0)) : va_E))] = aWl E (sh ++ [(14, n.toNat)]) (aNw mem sh.length (dft 14)) := by
    rw [aWl_app (mem := mem) (fun i hi => aNw_ne (by omega)), aNw_at]
    rfl
  rw [e2] at hP1
  have h2 := h p e s m args below meth c H1 locs ls hx hc (aWd_new hph hW.2.1 hP1) ⟨hS1, by rw [List.length_append, List.length_singleton]; have := hS.2.1; show s.heap.size + (cs.1 + 1) = _; omega, hS.2.2⟩ hl hna (aNs_c (aNr_R _) (aNs_t hns))
  rw [show aSt (eB E) (aR (sh.length : Int) :: st) = .ref (eB E + sh.length) :: aSt (eB E) st from by
    show aV (eB E) (aR (sh.length : Int)) :: _ = _
    rw [aV_ref]] at h2
  exact h2
theorem v_newa15 {E : EN} {mi : MI} {k C S : Nat} {sh : Sp} {mem : Mm} {cs : Nat × Nat} {pc : Nat} {al : List (Nat × AV)} {st : List AV} {Q : PQ} {n : Int} (hph : E.2.2.2.2.2.1 = false) (hd : decode mi.2.1 pc = .ok (.newarray .boolean, 2)) (h0 : 0 ≤ n) (hn : n < 100000) (hc1 : cs.1 + 1 ≤ C) (hs1 : cs.2 + n.toNat ≤ S) (h : VG E mi k C S (sh ++ [(15, n.toNat)]) (aNw mem sh.length (dft 15)) (cs.1 + 1, cs.2 + n.toNat) (pc + 2) al (aR sh.length :: st) Q) : VG E mi k C S sh mem cs pc al (aI n :: st) Q := by
  intro p e s m args below meth c H locs ls hx hc hW hS hl hna hns
  have hts := hc.2.2.2.2.1
  have hnr := aNs_I hns
  have e1 : (Int32.ofInt n).toNatClampNeg = n.toNat := Int32.toNatClampNeg_ofInt_of_le hnr.1 hnr.2
  have hzn : ¬ Int32.ofInt n < 0 := fun q => by
    have := (i32_lt hnr r32_0).1 q
    omega
  have hcb : n.toNat * componentBytes (newarray.typeOf .boolean) ≤ 536870912 := by
    show n.toNat * 1 ≤ _
    omega
  refine va_newa (D := (E.2.1, E.2.2.1)) (atype := .boolean) (a0 := (n.toNat, .inl fun _ => Int32.ofInt 0)) (rest := aSt (eB E) st) (n := Int32.ofInt n) hx hc.1 (hts _ ac_boolean) rfl hc.2.2.2.2.2.2.2.1 hW.1 (aWl_D E sh mem) hS.1 (fun q hq => Nat.le_trans hS.2.2 hq) (fun cA => rfl) hzn e1 hcb hc1 hs1 hd (fun q cA H1 hK1 hP1 hD1 hS1 => ?_)
  refine W_room fun hz => ?_
  have g1 := (hK1.2 6 _ rfl).2
  have g2 := (hK1.2 2 _ rfl).2
  have hcA : cA = E.2.2.2.1 2 := Option.some.inj (Eq.trans (Eq.symm g1) g2)
  subst hcA
  have hlen : (aWl E sh mem ++ [(q, (Sum.inl (E.2.2.2.1 2, n.toNat, .inl fun _ => Int32.ofInt 0) : va_E))])[sh.length]? = some (q, Sum.inl (E.2.2.2.1 2, n.toNat, .inl fun _ => Int32.ofInt 0)) := by
    rw [List.getElem?_append_right (by rw [aWl_len]; exact Nat.le_refl _), aWl_len, Nat.sub_self]; rfl
  have hq := aNew_q hD1 ((hP1 _ _ hlen).lt) (by have := hS.2.1; omega)
  subst hq
  have e2 : aWl E sh mem ++ [(eB E + sh.length, (Sum.inl (E.2.2.2.1 2, n.toNat, .inl fun _ => Int32.ofInt 0) : va_E))] = aWl E (sh ++ [(15, n.toNat)]) (aNw mem sh.length (dft 15)) := by
    rw [aWl_app (mem := mem) (fun i hi => aNw_ne (by omega)), aNw_at]
    rfl
  rw [e2] at hP1
  have h2 := h p e s m args below meth c H1 locs ls hx hc (aWd_new hph hW.2.1 hP1) ⟨hS1, by rw [List.length_append, List.length_singleton]; have := hS.2.1; show s.heap.size + (cs.1 + 1) = _; omega, hS.2.2⟩ hl hna (aNs_c (aNr_R _) (aNs_t hns))
  rw [show aSt (eB E) (aR (sh.length : Int) :: st) = .ref (eB E + sh.length) :: aSt (eB E) st from by
    show aV (eB E) (aR (sh.length : Int)) :: _ = _
    rw [aV_ref]] at h2
  exact h2
theorem v_newq16 {E : EN} {mi : MI} {k C S : Nat} {sh : Sp} {mem : Mm} {cs : Nat × Nat} {pc : Nat} {al : List (Nat × AV)} {st : List AV} {Q : PQ} {n : Int} {index : Nat} (hph : E.2.2.2.2.2.1 = false) (hd : decode mi.2.1 pc = .ok (.anewarray index, 3)) (hcl : Cond.classLink mi.1.cls index "YardYear$Image" ∈ lw_gd) (h0 : 0 ≤ n) (hn : n < 100000) (hc1 : cs.1 + 1 ≤ C) (hs1 : cs.2 + n.toNat ≤ S) (h : VG E mi k C S (sh ++ [(16, n.toNat)]) (aNw mem sh.length (dft 16)) (cs.1 + 1, cs.2 + n.toNat) (pc + 3) al (aR sh.length :: st) Q) : VG E mi k C S sh mem cs pc al (aI n :: st) Q := by
  intro p e s m args below meth c H locs ls hx hc hW hS hl hna hns
  have hts := hc.2.2.2.2.1
  have hnr := aNs_I hns
  have e1 : (Int32.ofInt n).toNatClampNeg = n.toNat := Int32.toNatClampNeg_ofInt_of_le hnr.1 hnr.2
  have hzn : ¬ Int32.ofInt n < 0 := fun q => by
    have := (i32_lt hnr r32_0).1 q
    omega
  have hov : va_AO "YardYear$Image" s := hc.2.2.2.2.2.2.2.2.1 _ aoX2 rfl
  refine va_newq (D := (E.2.1, E.2.2.1)) (rest := aSt (eB E) st) (n := Int32.ofInt n) hx hc.1 hc.2.2.2.1 (hts _ hcl) hov hc.2.2.2.2.2.2.2.1 hW.1 (aWl_D E sh mem) hS.1 (fun q hq => Nat.le_trans hS.2.2 hq) hzn e1 (by omega) hc1 hs1 hd (fun q cA H1 hK1 hP1 hD1 hS1 => ?_)
  refine W_room fun hz => ?_
  obtain ⟨_, _, _, _, _, g1⟩ := (hK1.2 6 _ rfl).2
  obtain ⟨_, _, _, _, _, g2⟩ := (hK1.2 3 _ rfl).2
  have hcA : cA = E.2.2.2.1 3 := Option.some.inj (Eq.trans (Eq.symm g1) g2)
  subst hcA
  have hlen : (aWl E sh mem ++ [(q, (Sum.inl (E.2.2.2.1 3, n.toNat, .inr (.inr (.inr (.inr fun _ => none)))) : va_E))])[sh.length]? = some (q, Sum.inl (E.2.2.2.1 3, n.toNat, .inr (.inr (.inr (.inr fun _ => none))))) := by
    rw [List.getElem?_append_right (by rw [aWl_len]; exact Nat.le_refl _), aWl_len, Nat.sub_self]; rfl
  have hq := aNew_q hD1 ((hP1 _ _ hlen).lt) (by have := hS.2.1; omega)
  subst hq
  have e2 : aWl E sh mem ++ [(eB E + sh.length, (Sum.inl (E.2.2.2.1 3, n.toNat, .inr (.inr (.inr (.inr fun _ => none)))) : va_E))] = aWl E (sh ++ [(16, n.toNat)]) (aNw mem sh.length (dft 16)) := by
    rw [aWl_app (mem := mem) (fun i hi => aNw_ne (by omega)), aNw_at]
    rfl
  rw [e2] at hP1
  have h2 := h p e s m args below meth c H1 locs ls hx hc (aWd_new hph hW.2.1 hP1) ⟨hS1, by rw [List.length_append, List.length_singleton]; have := hS.2.1; show s.heap.size + (cs.1 + 1) = _; omega, hS.2.2⟩ hl hna (aNs_c (aNr_R _) (aNs_t hns))
  rw [show aSt (eB E) (aR (sh.length : Int) :: st) = .ref (eB E + sh.length) :: aSt (eB E) st from by
    show aV (eB E) (aR (sh.length : Int)) :: _ = _
    rw [aV_ref]] at h2
  exact h2
theorem v_newq17 {E : EN} {mi : MI} {k C S : Nat} {sh : Sp} {mem : Mm} {cs : Nat × Nat} {pc : Nat} {al : List (Nat × AV)} {st : List AV} {Q : PQ} {n : Int} {index : Nat} (hph : E.2.2.2.2.2.1 = false) (hd : decode mi.2.1 pc = .ok (.anewarray index, 3)) (hcl : Cond.classLink mi.1.cls index "YardYear$Text" ∈ lw_gd) (h0 : 0 ≤ n) (hn : n < 100000) (hc1 : cs.1 + 1 ≤ C) (hs1 : cs.2 + n.toNat ≤ S) (h : VG E mi k C S (sh ++ [(17, n.toNat)]) (aNw mem sh.length (dft 17)) (cs.1 + 1, cs.2 + n.toNat) (pc + 3) al (aR sh.length :: st) Q) : VG E mi k C S sh mem cs pc al (aI n :: st) Q := by
  intro p e s m args below meth c H locs ls hx hc hW hS hl hna hns
  have hts := hc.2.2.2.2.1
  have hnr := aNs_I hns
  have e1 : (Int32.ofInt n).toNatClampNeg = n.toNat := Int32.toNatClampNeg_ofInt_of_le hnr.1 hnr.2
  have hzn : ¬ Int32.ofInt n < 0 := fun q => by
    have := (i32_lt hnr r32_0).1 q
    omega
  have hov : va_AO "YardYear$Text" s := hc.2.2.2.2.2.2.2.2.1 _ aoX9 rfl
  refine va_newq (D := (E.2.1, E.2.2.1)) (rest := aSt (eB E) st) (n := Int32.ofInt n) hx hc.1 hc.2.2.2.1 (hts _ hcl) hov hc.2.2.2.2.2.2.2.1 hW.1 (aWl_D E sh mem) hS.1 (fun q hq => Nat.le_trans hS.2.2 hq) hzn e1 (by omega) hc1 hs1 hd (fun q cA H1 hK1 hP1 hD1 hS1 => ?_)
  refine W_room fun hz => ?_
  obtain ⟨_, _, _, _, _, g1⟩ := (hK1.2 6 _ rfl).2
  obtain ⟨_, _, _, _, _, g2⟩ := (hK1.2 4 _ rfl).2
  have hcA : cA = E.2.2.2.1 4 := Option.some.inj (Eq.trans (Eq.symm g1) g2)
  subst hcA
  have hlen : (aWl E sh mem ++ [(q, (Sum.inl (E.2.2.2.1 4, n.toNat, .inr (.inr (.inr (.inr fun _ => none)))) : va_E))])[sh.length]? = some (q, Sum.inl (E.2.2.2.1 4, n.toNat, .inr (.inr (.inr (.inr fun _ => none))))) := by
    rw [List.getElem?_append_right (by rw [aWl_len]; exact Nat.le_refl _), aWl_len, Nat.sub_self]; rfl
  have hq := aNew_q hD1 ((hP1 _ _ hlen).lt) (by have := hS.2.1; omega)
  subst hq
  have e2 : aWl E sh mem ++ [(eB E + sh.length, (Sum.inl (E.2.2.2.1 4, n.toNat, .inr (.inr (.inr (.inr fun _ => none)))) : va_E))] = aWl E (sh ++ [(17, n.toNat)]) (aNw mem sh.length (dft 17)) := by
    rw [aWl_app (mem := mem) (fun i hi => aNw_ne (by omega)), aNw_at]
    rfl
  rw [e2] at hP1
  have h2 := h p e s m args below meth c H1 locs ls hx hc (aWd_new hph hW.2.1 hP1) ⟨hS1, by rw [List.length_append, List.length_singleton]; have := hS.2.1; show s.heap.size + (cs.1 + 1) = _; omega, hS.2.2⟩ hl hna (aNs_c (aNr_R _) (aNs_t hns))
  rw [show aSt (eB E) (aR (sh.length : Int) :: st) = .ref (eB E + sh.length) :: aSt (eB E) st from by
    show aV (eB E) (aR (sh.length : Int)) :: _ = _
    rw [aV_ref]] at h2
  exact h2
theorem v_newq18 {E : EN} {mi : MI} {k C S : Nat} {sh : Sp} {mem : Mm} {cs : Nat × Nat} {pc : Nat} {al : List (Nat × AV)} {st : List AV} {Q : PQ} {n : Int} {index : Nat} (hph : E.2.2.2.2.2.1 = false) (hd : decode mi.2.1 pc = .ok (.anewarray index, 3)) (hcl : Cond.classLink mi.1.cls index "YardYear$Yard" ∈ lw_gd) (h0 : 0 ≤ n) (hn : n < 100000) (hc1 : cs.1 + 1 ≤ C) (hs1 : cs.2 + n.toNat ≤ S) (h : VG E mi k C S (sh ++ [(18, n.toNat)]) (aNw mem sh.length (dft 18)) (cs.1 + 1, cs.2 + n.toNat) (pc + 3) al (aR sh.length :: st) Q) : VG E mi k C S sh mem cs pc al (aI n :: st) Q := by
  intro p e s m args below meth c H locs ls hx hc hW hS hl hna hns
  have hts := hc.2.2.2.2.1
  have hnr := aNs_I hns
  have e1 : (Int32.ofInt n).toNatClampNeg = n.toNat := Int32.toNatClampNeg_ofInt_of_le hnr.1 hnr.2
  have hzn : ¬ Int32.ofInt n < 0 := fun q => by
    have := (i32_lt hnr r32_0).1 q
    omega
  have hov : va_AO "YardYear$Yard" s := hc.2.2.2.2.2.2.2.2.1 _ aoX10 rfl
  refine va_newq (D := (E.2.1, E.2.2.1)) (rest := aSt (eB E) st) (n := Int32.ofInt n) hx hc.1 hc.2.2.2.1 (hts _ hcl) hov hc.2.2.2.2.2.2.2.1 hW.1 (aWl_D E sh mem) hS.1 (fun q hq => Nat.le_trans hS.2.2 hq) hzn e1 (by omega) hc1 hs1 hd (fun q cA H1 hK1 hP1 hD1 hS1 => ?_)
  refine W_room fun hz => ?_
  obtain ⟨_, _, _, _, _, g1⟩ := (hK1.2 6 _ rfl).2
  obtain ⟨_, _, _, _, _, g2⟩ := (hK1.2 5 _ rfl).2
  have hcA : cA = E.2.2.2.1 5 := Option.some.inj (Eq.trans (Eq.symm g1) g2)
  subst hcA
  have hlen : (aWl E sh mem ++ [(q, (Sum.inl (E.2.2.2.1 5, n.toNat, .inr (.inr (.inr (.inr fun _ => none)))) : va_E))])[sh.length]? = some (q, Sum.inl (E.2.2.2.1 5, n.toNat, .inr (.inr (.inr (.inr fun _ => none))))) := by
    rw [List.getElem?_append_right (by rw [aWl_len]; exact Nat.le_refl _), aWl_len, Nat.sub_self]; rfl
  have hq := aNew_q hD1 ((hP1 _ _ hlen).lt) (by have := hS.2.1; omega)
  subst hq
  have e2 : aWl E sh mem ++ [(eB E + sh.length, (Sum.inl (E.2.2.2.1 5, n.toNat, .inr (.inr (.inr (.inr fun _ => none)))) : va_E))] = aWl E (sh ++ [(18, n.toNat)]) (aNw mem sh.length (dft 18)) := by
    rw [aWl_app (mem := mem) (fun i hi => aNw_ne (by omega)), aNw_at]
    rfl
  rw [e2] at hP1
  have h2 := h p e s m args below meth c H1 locs ls hx hc (aWd_new hph hW.2.1 hP1) ⟨hS1, by rw [List.length_append, List.length_singleton]; have := hS.2.1; show s.heap.size + (cs.1 + 1) = _; omega, hS.2.2⟩ hl hna (aNs_c (aNr_R _) (aNs_t hns))
  rw [show aSt (eB E) (aR (sh.length : Int) :: st) = .ref (eB E + sh.length) :: aSt (eB E) st from by
    show aV (eB E) (aR (sh.length : Int)) :: _ = _
    rw [aV_ref]] at h2
  exact h2
theorem v_objI {E : EN} {mi : MI} {k C S : Nat} {sh : Sp} {mem : Mm} {cs : Nat × Nat} {pc : Nat} {al : List (Nat × AV)} {st : List AV} {Q : PQ} {index : Nat} {a : Int} (ha : 0 ≤ a) (hd : decode mi.2.1 pc = .ok (.invokespecial index, 3)) (hlk : Cond.methodLink mi.1.cls index objectInit ∈ lw_gd) (hr : (st.map aC).sum ≤ 8) (h : VG E mi (k + 1) C S sh mem cs (pc + 3) al st Q) : VG E mi (k + 1) C S sh mem cs pc al (aR a :: st) Q := by
  obtain ⟨j, rfl⟩ : ∃ j : Nat, a = (j : Int) := ⟨a.toNat, by omega⟩
  intro p e s m args below meth c H locs ls hx hc hW hS hl hna hns
  have hts := hc.2.2.2.2.1
  show W p E.1 e (aRm (k + 1) C S) s m args below meth c H locs cs.1 cs.2 _ (F0 m pc ls (aV (eB E) (aR (j : Int)) :: aSt (eB E) st))
  rw [aV_ref]
  have hlo : 2 * (F0 m pc ls (Value.ref (eB E + j) :: aSt (eB E) st)).monitorRoom + ((aSt (eB E) st).map fun v => v.category).sum + 12 ≤ (aRm (k + 1) C S).locals := by
    have := aSt_sum (b := eB E) hr
    show 2 * 0 + _ + 12 ≤ 64 * (k + 1)
    omega
  exact W.objInit hx hc.1 hc.2.2.2.1 (hts _ hlk) (hts _ oi_i) (hts _ oi_c) rfl (hl.1.trans hc.2.2.1.symm) rfl hd (by show 1 ≤ k + 1; omega) hlo (h p e s m args below meth c H locs ls hx hc hW hS hl hna (aNs_t hns))
theorem aSh_app {sh t : Sp} {a : Int} {k n : Nat} (h : aSh sh a k n) : aSh (sh ++ t) a k n := by
  obtain ⟨j, hj, h⟩ := h
  exact ⟨j, hj, by rw [List.getElem?_append_left (List.getElem?_eq_some_iff.mp h).1]; exact h⟩
theorem aSh_last {sh t : Sp} {a : Int} {k n : Nat} (i : Nat) (ha : a = (sh.length : Int) + i) (h : t[i]? = some (k, n)) : aSh (sh ++ t) a k n := ⟨sh.length + i, by omega, by rw [List.getElem?_append_right (by omega), Nat.add_sub_cancel_left]; exact h⟩
theorem v_getf9 {E : EN} {mi : MI} {k C S : Nat} {sh : Sp} {mem : Mm} {cs : Nat × Nat} {pc : Nat} {al : List (Nat × AV)} {st : List AV} {Q : PQ} {ci N i t index : Nat} {a v : Int} (hd : decode mi.2.1 pc = .ok (.getfield index, 3)) (hf : aFl mi.1.cls index ci N i) (ht : aT ci (i : Int) = t) (hs : aSh sh a ci N) (hv : mem a i = v) (h : VG E mi k C S sh mem cs (pc + 3) al ((t, v) :: st) Q) : VG E mi k C S sh mem cs pc al (aR a :: st) Q := v_getf hd hf ht hs (by rw [hv]; exact h)
