theorem i32_in {i : Int} {n : Nat} (hr : R32 i) (h0 : 0 ≤ i) (hn : i < n) : vp_in (Int32.ofInt i) n ∧ (Int32.ofInt i).toNatClampNeg = i.toNat := by
  have h1 : (Int32.ofInt i).toNatClampNeg = i.toNat := Int32.toNatClampNeg_ofInt_of_le hr.1 hr.2
  refine ⟨?_, h1⟩
  intro q
  rcases q with q | q
  · have h2 := (i32_lt hr r32_0).1 q
    omega
  · rw [h1] at q
    omega
theorem aT13 (i : Int) : aT 13 i = 0 := rfl
theorem aT14 (i : Int) : aT 14 i = 1 := rfl
theorem aT15 (i : Int) : aT 15 i = 0 := rfl
theorem aEn13 {E : EN} {n : Nat} {f : Int → Int} : aEn E 13 n f = .inl (E.2.2.2.1 0, n, .inl fun j => Int32.ofInt (f j)) := rfl
theorem aEn14 {E : EN} {n : Nat} {f : Int → Int} : aEn E 14 n f = .inl (E.2.2.2.1 1, n, .inr (.inl fun j => Int64.ofInt (f j))) := rfl
theorem aEn15 {E : EN} {n : Nat} {f : Int → Int} : aEn E 15 n f = .inl (E.2.2.2.1 2, n, .inl fun j => Int32.ofInt (f j)) := rfl
theorem v_iald {E : EN} {mi : MI} {k C S : Nat} {sh : Sp} {mem : Mm} {cs : Nat × Nat} {pc : Nat} {al : List (Nat × AV)} {st : List AV} {Q : PQ} {n : Nat} {a i : Int} (hd : decode mi.2.1 pc = .ok (.iaload, 1)) (hs : aSh sh a 13 n) (h0 : 0 ≤ i) (hn : i < n) (h : VG E mi k C S sh mem cs (pc + 1) al (aI (mem a i) :: st) Q) : VG E mi k C S sh mem cs pc al (aI i :: aR a :: st) Q := by
  obtain ⟨j, rfl, hsj⟩ := hs
  intro p e s m args below meth c H locs ls hx hc hW hS hl hna hns
  have he := aWl_get (E := E) (mem := mem) hsj
  rw [aEn13] at he
  obtain ⟨q1, q2⟩ := i32_in (aNs_I hns) h0 hn
  show W p E.1 e (aRm k C S) s m args below meth c H locs cs.1 cs.2 _ (F0 m pc ls (.int (Int32.ofInt i) :: aV (eB E) (aR (j : Int)) :: aSt (eB E) st))
  rw [aV_ref]
  refine va_iald (D := (E.2.1, E.2.2.1)) hx hc.1 hc.2.2.2.2.2.2.2.1 hW.1 j 0 he rfl q1 hd ?_
  rw [q2, Int.toNat_of_nonneg h0]
  exact h p e s m args below meth c H locs ls hx hc hW hS hl hna (aNs_c (hW.2.1 j 13 n i hsj) (aNs_t (aNs_t hns)))
theorem v_zald {E : EN} {mi : MI} {k C S : Nat} {sh : Sp} {mem : Mm} {cs : Nat × Nat} {pc : Nat} {al : List (Nat × AV)} {st : List AV} {Q : PQ} {n : Nat} {a i : Int} (hd : decode mi.2.1 pc = .ok (.baload, 1)) (hs : aSh sh a 15 n) (h0 : 0 ≤ i) (hn : i < n) (h : VG E mi k C S sh mem cs (pc + 1) al (aI (mem a i) :: st) Q) : VG E mi k C S sh mem cs pc al (aI i :: aR a :: st) Q := by
  obtain ⟨j, rfl, hsj⟩ := hs
  intro p e s m args below meth c H locs ls hx hc hW hS hl hna hns
  have he := aWl_get (E := E) (mem := mem) hsj
  rw [aEn15] at he
  obtain ⟨q1, q2⟩ := i32_in (aNs_I hns) h0 hn
  show W p E.1 e (aRm k C S) s m args below meth c H locs cs.1 cs.2 _ (F0 m pc ls (.int (Int32.ofInt i) :: aV (eB E) (aR (j : Int)) :: aSt (eB E) st))
  rw [aV_ref]
  refine va_zald (D := (E.2.1, E.2.2.1)) hx hc.1 hc.2.2.2.2.2.2.2.1 hW.1 j 2 he rfl q1 hd ?_
  rw [q2, Int.toNat_of_nonneg h0]
  exact h p e s m args below meth c H locs ls hx hc hW hS hl hna (aNs_c (hW.2.1 j 15 n i hsj) (aNs_t (aNs_t hns)))
theorem v_lald {E : EN} {mi : MI} {k C S : Nat} {sh : Sp} {mem : Mm} {cs : Nat × Nat} {pc : Nat} {al : List (Nat × AV)} {st : List AV} {Q : PQ} {n : Nat} {a i : Int} (hd : decode mi.2.1 pc = .ok (.laload, 1)) (hs : aSh sh a 14 n) (h0 : 0 ≤ i) (hn : i < n) (h : VG E mi k C S sh mem cs (pc + 1) al (aL (mem a i) :: st) Q) : VG E mi k C S sh mem cs pc al (aI i :: aR a :: st) Q := by
  obtain ⟨j, rfl, hsj⟩ := hs
  intro p e s m args below meth c H locs ls hx hc hW hS hl hna hns
  have he := aWl_get (E := E) (mem := mem) hsj
  rw [aEn14] at he
  obtain ⟨q1, q2⟩ := i32_in (aNs_I hns) h0 hn
  show W p E.1 e (aRm k C S) s m args below meth c H locs cs.1 cs.2 _ (F0 m pc ls (.int (Int32.ofInt i) :: aV (eB E) (aR (j : Int)) :: aSt (eB E) st))
  rw [aV_ref]
  refine va_lald (D := (E.2.1, E.2.2.1)) hx hc.1 hc.2.2.2.2.2.2.2.1 hW.1 j 1 he rfl q1 hd ?_
  rw [q2, Int.toNat_of_nonneg h0]
  exact h p e s m args below meth c H locs ls hx hc hW hS hl hna (aNs_c (hW.2.1 j 14 n i hsj) (aNs_t (aNs_t hns)))
theorem upd_of {f : Int → Int} {i x : Int} (h0 : 0 ≤ i) : upd (fun j : Nat => Int32.ofInt (f j)) i.toNat (Int32.ofInt x) = fun j : Nat => Int32.ofInt (if (j : Int) = i then x else f j) := by
  funext j
  unfold upd
  by_cases q : j = i.toNat
  · rw [if_pos q, if_pos (by omega)]
  · rw [if_neg q, if_neg (by omega)]
theorem updL_of {f : Int → Int} {i x : Int} (h0 : 0 ≤ i) : vp_updL (fun j : Nat => Int64.ofInt (f j)) i.toNat (Int64.ofInt x) = fun j : Nat => Int64.ofInt (if (j : Int) = i then x else f j) := by
  funext j
  unfold vp_updL
  by_cases q : j = i.toNat
  · rw [if_pos q, if_pos (by omega)]
  · rw [if_neg q, if_neg (by omega)]
theorem aUp_row (mem : Mm) (a i x : Int) : aUp mem a i x a = fun j => if j = i then x else mem a j := by
  funext j
  unfold aUp
  by_cases q : j = i
  · rw [if_pos ⟨rfl, q⟩, if_pos q]
  · rw [if_neg fun r => q r.2, if_neg q]
theorem v_iast {E : EN} {mi : MI} {k C S : Nat} {sh : Sp} {mem : Mm} {cs : Nat × Nat} {pc : Nat} {al : List (Nat × AV)} {st : List AV} {Q : PQ} {n : Nat} {a i x : Int} (hd : decode mi.2.1 pc = .ok (.iastore, 1)) (hs : aSh sh a 13 n) (h0 : 0 ≤ i) (hn : i < n) (h : VG E mi k C S sh (aUp mem a i x) cs (pc + 1) al st Q) : VG E mi k C S sh mem cs pc al (aI x :: aI i :: aR a :: st) Q := by
  obtain ⟨j, rfl, hsj⟩ := hs
  intro p e s m args below meth c H locs ls hx hc hW hS hl hna hns
  have he := aWl_get (E := E) (mem := mem) hsj
  rw [aEn13] at he
  obtain ⟨q1, q2⟩ := i32_in (aNs_I (aNs_t hns)) h0 hn
  have hnr : aNr (aT 13 i, x) := hns _ List.mem_cons_self
  have e1 : (aWl E sh mem).set j (eB E + j, .inl (E.2.2.2.1 0, n, .inl (upd (fun j2 : Nat => Int32.ofInt (mem j j2)) (Int32.ofInt i).toNatClampNeg (Int32.ofInt x)))) = aWl E sh (aUp mem j i x) := by
    rw [← aWl_set (mem' := aUp mem j i x) hsj (fun i2 h2 => aUp_ne (by omega)), aEn13, q2, upd_of h0, aUp_row]
  show W p E.1 e (aRm k C S) s m args below meth c H locs cs.1 cs.2 _ (F0 m pc ls (aV (eB E) (aI x) :: .int (Int32.ofInt i) :: aV (eB E) (aR (j : Int)) :: aSt (eB E) st))
  rw [aV_ref]
  refine va_iast (D := (E.2.1, E.2.2.1)) (x := Int32.ofInt x) hx hc.1 hc.2.2.2.2.2.2.2.1 hW.1 (aWl_D E sh mem) hS.1 j 0 he rfl q1 hd fun H1 locs1 hP1 hD1 hS1 => ?_
  rw [e1] at hP1
  exact h p e s m args below meth c H1 locs1 ls hx hc (aWd_up hW hsj hP1 hnr (Or.inl rfl)) ⟨hS1, hS.2⟩ hl hna (aNs_t (aNs_t (aNs_t hns)))
theorem v_last {E : EN} {mi : MI} {k C S : Nat} {sh : Sp} {mem : Mm} {cs : Nat × Nat} {pc : Nat} {al : List (Nat × AV)} {st : List AV} {Q : PQ} {n : Nat} {a i x : Int} (hd : decode mi.2.1 pc = .ok (.lastore, 1)) (hs : aSh sh a 14 n) (h0 : 0 ≤ i) (hn : i < n) (h : VG E mi k C S sh (aUp mem a i x) cs (pc + 1) al st Q) : VG E mi k C S sh mem cs pc al (aL x :: aI i :: aR a :: st) Q := by
  obtain ⟨j, rfl, hsj⟩ := hs
  intro p e s m args below meth c H locs ls hx hc hW hS hl hna hns
  have he := aWl_get (E := E) (mem := mem) hsj
  rw [aEn14] at he
  obtain ⟨q1, q2⟩ := i32_in (aNs_I (aNs_t hns)) h0 hn
  have hnr : aNr (aT 14 i, x) := hns _ List.mem_cons_self
  have e1 : (aWl E sh mem).set j (eB E + j, .inl (E.2.2.2.1 1, n, .inr (.inl (vp_updL (fun j2 : Nat => Int64.ofInt (mem j j2)) (Int32.ofInt i).toNatClampNeg (Int64.ofInt x))))) = aWl E sh (aUp mem j i x) := by
    rw [← aWl_set (mem' := aUp mem j i x) hsj (fun i2 h2 => aUp_ne (by omega)), aEn14, q2, updL_of h0, aUp_row]
  show W p E.1 e (aRm k C S) s m args below meth c H locs cs.1 cs.2 _ (F0 m pc ls (aV (eB E) (aL x) :: .int (Int32.ofInt i) :: aV (eB E) (aR (j : Int)) :: aSt (eB E) st))
  rw [aV_ref]
  refine va_last (D := (E.2.1, E.2.2.1)) (x := Int64.ofInt x) hx hc.1 hc.2.2.2.2.2.2.2.1 hW.1 (aWl_D E sh mem) hS.1 j 1 he rfl q1 hd fun H1 locs1 hP1 hD1 hS1 => ?_
  rw [e1] at hP1
  exact h p e s m args below meth c H1 locs1 ls hx hc (aWd_up hW hsj hP1 hnr (Or.inl rfl)) ⟨hS1, hS.2⟩ hl hna (aNs_t (aNs_t (aNs_t hns)))
theorem v_zast {E : EN} {mi : MI} {k C S : Nat} {sh : Sp} {mem : Mm} {cs : Nat × Nat} {pc : Nat} {al : List (Nat × AV)} {st : List AV} {Q : PQ} {n : Nat} {a i x : Int} (hd : decode mi.2.1 pc = .ok (.bastore, 1)) (hs : aSh sh a 15 n) (h0 : 0 ≤ i) (hn : i < n) (hz : x = 0 ∨ x = 1) (h : VG E mi k C S sh (aUp mem a i x) cs (pc + 1) al st Q) : VG E mi k C S sh mem cs pc al (aI x :: aI i :: aR a :: st) Q := by
  obtain ⟨j, rfl, hsj⟩ := hs
  intro p e s m args below meth c H locs ls hx hc hW hS hl hna hns
  have he := aWl_get (E := E) (mem := mem) hsj
  rw [aEn15] at he
  obtain ⟨q1, q2⟩ := i32_in (aNs_I (aNs_t hns)) h0 hn
  have hnr : aNr (aT 15 i, x) := hns _ List.mem_cons_self
  have e1 : (aWl E sh mem).set j (eB E + j, .inl (E.2.2.2.1 2, n, .inl (upd (fun j2 : Nat => Int32.ofInt (mem j j2)) (Int32.ofInt i).toNatClampNeg (vp_nar .boolean (Int32.ofInt x))))) = aWl E sh (aUp mem j i x) := by
    rw [← aWl_set (mem' := aUp mem j i x) hsj (fun i2 h2 => aUp_ne (by omega)), aEn15, q2, show vp_nar .boolean (Int32.ofInt x) = Int32.ofInt x by rcases hz with q | q <;> (subst q; rfl), upd_of h0, aUp_row]
  show W p E.1 e (aRm k C S) s m args below meth c H locs cs.1 cs.2 _ (F0 m pc ls (aV (eB E) (aI x) :: .int (Int32.ofInt i) :: aV (eB E) (aR (j : Int)) :: aSt (eB E) st))
  rw [aV_ref]
  refine va_zast (D := (E.2.1, E.2.2.1)) (x := Int32.ofInt x) hx hc.1 hc.2.2.2.2.2.2.2.1 hW.1 (aWl_D E sh mem) hS.1 j 2 he rfl q1 hd fun H1 locs1 hP1 hD1 hS1 => ?_
  rw [e1] at hP1
  exact h p e s m args below meth c H1 locs1 ls hx hc (aWd_up hW hsj hP1 hnr (Or.inl rfl)) ⟨hS1, hS.2⟩ hl hna (aNs_t (aNs_t (aNs_t hns)))
theorem v_aald16 {E : EN} {mi : MI} {k C S : Nat} {sh : Sp} {mem : Mm} {cs : Nat × Nat} {pc : Nat} {al : List (Nat × AV)} {st : List AV} {Q : PQ} {n : Nat} {a i : Int} (hd : decode mi.2.1 pc = .ok (.aaload, 1)) (hs : aSh sh a 16 n) (h0 : 0 ≤ i) (hn : i < n) (h : VG E mi k C S sh mem cs (pc + 1) al (aR (mem a i) :: st) Q) : VG E mi k C S sh mem cs pc al (aI i :: aR a :: st) Q := by
  obtain ⟨j, rfl, hsj⟩ := hs
  intro p e s m args below meth c H locs ls hx hc hW hS hl hna hns
  have he := aWl_get (E := E) (mem := mem) hsj
  rw [show aEn E 16 n (mem j) = .inl (E.2.2.2.1 3, n, .inr (.inr (.inr (.inr fun j2 => aRf (eB E) (mem j j2))))) from rfl] at he
  obtain ⟨q1, q2⟩ := i32_in (aNs_I hns) h0 hn
  show W p E.1 e (aRm k C S) s m args below meth c H locs cs.1 cs.2 _ (F0 m pc ls (.int (Int32.ofInt i) :: aV (eB E) (aR (j : Int)) :: aSt (eB E) st))
  rw [aV_ref]
  refine va_aldq (D := (E.2.1, E.2.2.1)) hx hc.1 hc.2.2.2.2.2.2.2.1 hW.1 j 3 he rfl q1 hd ?_
  rw [q2, Int.toNat_of_nonneg h0, aRf_V]
  exact h p e s m args below meth c H locs ls hx hc hW hS hl hna (aNs_c (hW.2.1 j 16 n i hsj) (aNs_t (aNs_t hns)))
theorem v_aast16 {E : EN} {mi : MI} {k C S : Nat} {sh : Sp} {mem : Mm} {cs : Nat × Nat} {pc : Nat} {al : List (Nat × AV)} {st : List AV} {Q : PQ} {n N : Nat} {a i x : Int} (hd : decode mi.2.1 pc = .ok (.aastore, 1)) (hs : aSh sh a 16 n) (hv : aSh sh x 2 N) (h0 : 0 ≤ i) (hn : i < n) (hfl : (∀ b, flk 16 b i = none) ∨ E.2.2.2.2.2.1 = false) (h : VG E mi k C S sh (aUp mem a i x) cs (pc + 1) al st Q) : VG E mi k C S sh mem cs pc al (aR x :: aI i :: aR a :: st) Q := by
  obtain ⟨j, rfl, hsj⟩ := hs
  obtain ⟨j2, rfl, hsj2⟩ := hv
  intro p e s m args below meth c H locs ls hx hc hW hS hl hna hns
  have he := aWl_get (E := E) (mem := mem) hsj
  have he2 := aWl_get (E := E) (mem := mem) hsj2
  rw [show aEn E 16 n (mem j) = .inl (E.2.2.2.1 3, n, .inr (.inr (.inr (.inr fun j2 => aRf (eB E) (mem j j2))))) from rfl] at he
  rw [aEn_obj (by decide)] at he2
  obtain ⟨q1, q2⟩ := i32_in (aNs_I (aNs_t hns)) h0 hn
  have e1 : (aWl E sh mem).set j (eB E + j, .inl (E.2.2.2.1 3, n, .inr (.inr (.inr (.inr (va_up (fun j3 : Nat => aRf (eB E) (mem j j3)) (Int32.ofInt i).toNatClampNeg (some (eB E + j2)))))))) = aWl E sh (aUp mem j i j2) := by
    rw [← aWl_set (mem' := aUp mem j i j2) hsj (fun i2 h2 => aUp_ne (by omega)), show aEn E 16 n (aUp mem j i j2 j) = .inl (E.2.2.2.1 3, n, .inr (.inr (.inr (.inr fun j3 => aRf (eB E) (aUp mem j i j2 j j3))))) from rfl, q2, aUp_row]
    have e2 : (va_up (fun j3 : Nat => aRf (eB E) (mem j j3)) i.toNat (some (eB E + j2))) = fun j3 : Nat => aRf (eB E) (if (j3 : Int) = i then (j2 : Int) else mem j j3) := by
      funext j3
      unfold va_up
      by_cases q : j3 = i.toNat
      · rw [if_pos q, if_pos (by omega)]
        unfold aRf
        rw [if_neg (by omega), Int.toNat_natCast]
      · rw [if_neg q, if_neg (by omega)]
    rw [e2]
  show W p E.1 e (aRm k C S) s m args below meth c H locs cs.1 cs.2 _ (F0 m pc ls (aV (eB E) (aR (j2 : Int)) :: .int (Int32.ofInt i) :: aV (eB E) (aR (j : Int)) :: aSt (eB E) st))
  rw [aV_ref, aV_ref]
  refine va_astq (D := (E.2.1, E.2.2.1)) (r := (RX2, TX2, 4)) hx hc.1 hc.2.2.2.2.2.2.2.1 hW.1 (aWl_D E sh mem) hS.1 j 3 j2 2 he rfl he2 rfl q1 hd fun H1 locs1 hP1 hD1 hS1 => ?_
  rw [e1] at hP1
  exact h p e s m args below meth c H1 locs1 ls hx hc (aWd_up hW hsj hP1 (aNr_R _) (hfl.imp (fun q => q _) id)) ⟨hS1, hS.2⟩ hl hna (aNs_t (aNs_t (aNs_t hns)))
theorem v_aald17 {E : EN} {mi : MI} {k C S : Nat} {sh : Sp} {mem : Mm} {cs : Nat × Nat} {pc : Nat} {al : List (Nat × AV)} {st : List AV} {Q : PQ} {n : Nat} {a i : Int} (hd : decode mi.2.1 pc = .ok (.aaload, 1)) (hs : aSh sh a 17 n) (h0 : 0 ≤ i) (hn : i < n) (h : VG E mi k C S sh mem cs (pc + 1) al (aR (mem a i) :: st) Q) : VG E mi k C S sh mem cs pc al (aI i :: aR a :: st) Q := by
  obtain ⟨j, rfl, hsj⟩ := hs
  intro p e s m args below meth c H locs ls hx hc hW hS hl hna hns
  have he := aWl_get (E := E) (mem := mem) hsj
  rw [show aEn E 17 n (mem j) = .inl (E.2.2.2.1 4, n, .inr (.inr (.inr (.inr fun j2 => aRf (eB E) (mem j j2))))) from rfl] at he
  obtain ⟨q1, q2⟩ := i32_in (aNs_I hns) h0 hn
  show W p E.1 e (aRm k C S) s m args below meth c H locs cs.1 cs.2 _ (F0 m pc ls (.int (Int32.ofInt i) :: aV (eB E) (aR (j : Int)) :: aSt (eB E) st))
  rw [aV_ref]
  refine va_aldq (D := (E.2.1, E.2.2.1)) hx hc.1 hc.2.2.2.2.2.2.2.1 hW.1 j 4 he rfl q1 hd ?_
  rw [q2, Int.toNat_of_nonneg h0, aRf_V]
  exact h p e s m args below meth c H locs ls hx hc hW hS hl hna (aNs_c (hW.2.1 j 17 n i hsj) (aNs_t (aNs_t hns)))
theorem v_aast17 {E : EN} {mi : MI} {k C S : Nat} {sh : Sp} {mem : Mm} {cs : Nat × Nat} {pc : Nat} {al : List (Nat × AV)} {st : List AV} {Q : PQ} {n N : Nat} {a i x : Int} (hd : decode mi.2.1 pc = .ok (.aastore, 1)) (hs : aSh sh a 17 n) (hv : aSh sh x 9 N) (h0 : 0 ≤ i) (hn : i < n) (hfl : (∀ b, flk 17 b i = none) ∨ E.2.2.2.2.2.1 = false) (h : VG E mi k C S sh (aUp mem a i x) cs (pc + 1) al st Q) : VG E mi k C S sh mem cs pc al (aR x :: aI i :: aR a :: st) Q := by
  obtain ⟨j, rfl, hsj⟩ := hs
  obtain ⟨j2, rfl, hsj2⟩ := hv
  intro p e s m args below meth c H locs ls hx hc hW hS hl hna hns
  have he := aWl_get (E := E) (mem := mem) hsj
  have he2 := aWl_get (E := E) (mem := mem) hsj2
  rw [show aEn E 17 n (mem j) = .inl (E.2.2.2.1 4, n, .inr (.inr (.inr (.inr fun j2 => aRf (eB E) (mem j j2))))) from rfl] at he
  rw [aEn_obj (by decide)] at he2
  obtain ⟨q1, q2⟩ := i32_in (aNs_I (aNs_t hns)) h0 hn
  have e1 : (aWl E sh mem).set j (eB E + j, .inl (E.2.2.2.1 4, n, .inr (.inr (.inr (.inr (va_up (fun j3 : Nat => aRf (eB E) (mem j j3)) (Int32.ofInt i).toNatClampNeg (some (eB E + j2)))))))) = aWl E sh (aUp mem j i j2) := by
    rw [← aWl_set (mem' := aUp mem j i j2) hsj (fun i2 h2 => aUp_ne (by omega)), show aEn E 17 n (aUp mem j i j2 j) = .inl (E.2.2.2.1 4, n, .inr (.inr (.inr (.inr fun j3 => aRf (eB E) (aUp mem j i j2 j j3))))) from rfl, q2, aUp_row]
    have e2 : (va_up (fun j3 : Nat => aRf (eB E) (mem j j3)) i.toNat (some (eB E + j2))) = fun j3 : Nat => aRf (eB E) (if (j3 : Int) = i then (j2 : Int) else mem j j3) := by
      funext j3
      unfold va_up
      by_cases q : j3 = i.toNat
      · rw [if_pos q, if_pos (by omega)]
        unfold aRf
        rw [if_neg (by omega), Int.toNat_natCast]
      · rw [if_neg q, if_neg (by omega)]
    rw [e2]
  show W p E.1 e (aRm k C S) s m args below meth c H locs cs.1 cs.2 _ (F0 m pc ls (aV (eB E) (aR (j2 : Int)) :: .int (Int32.ofInt i) :: aV (eB E) (aR (j : Int)) :: aSt (eB E) st))
  rw [aV_ref, aV_ref]
  refine va_astq (D := (E.2.1, E.2.2.1)) (r := (RX9, TX9, 10)) hx hc.1 hc.2.2.2.2.2.2.2.1 hW.1 (aWl_D E sh mem) hS.1 j 4 j2 9 he rfl he2 rfl q1 hd fun H1 locs1 hP1 hD1 hS1 => ?_
  rw [e1] at hP1
  exact h p e s m args below meth c H1 locs1 ls hx hc (aWd_up hW hsj hP1 (aNr_R _) (hfl.imp (fun q => q _) id)) ⟨hS1, hS.2⟩ hl hna (aNs_t (aNs_t (aNs_t hns)))
theorem v_aald18 {E : EN} {mi : MI} {k C S : Nat} {sh : Sp} {mem : Mm} {cs : Nat × Nat} {pc : Nat} {al : List (Nat × AV)} {st : List AV} {Q : PQ} {n : Nat} {a i : Int} (hd : decode mi.2.1 pc = .ok (.aaload, 1)) (hs : aSh sh a 18 n) (h0 : 0 ≤ i) (hn : i < n) (h : VG E mi k C S sh mem cs (pc + 1) al (aR (mem a i) :: st) Q) : VG E mi k C S sh mem cs pc al (aI i :: aR a :: st) Q := by
  obtain ⟨j, rfl, hsj⟩ := hs
  intro p e s m args below meth c H locs ls hx hc hW hS hl hna hns
  have he := aWl_get (E := E) (mem := mem) hsj
  rw [show aEn E 18 n (mem j) = .inl (E.2.2.2.1 5, n, .inr (.inr (.inr (.inr fun j2 => aRf (eB E) (mem j j2))))) from rfl] at he
  obtain ⟨q1, q2⟩ := i32_in (aNs_I hns) h0 hn
  show W p E.1 e (aRm k C S) s m args below meth c H locs cs.1 cs.2 _ (F0 m pc ls (.int (Int32.ofInt i) :: aV (eB E) (aR (j : Int)) :: aSt (eB E) st))
  rw [aV_ref]
  refine va_aldq (D := (E.2.1, E.2.2.1)) hx hc.1 hc.2.2.2.2.2.2.2.1 hW.1 j 5 he rfl q1 hd ?_
  rw [q2, Int.toNat_of_nonneg h0, aRf_V]
  exact h p e s m args below meth c H locs ls hx hc hW hS hl hna (aNs_c (hW.2.1 j 18 n i hsj) (aNs_t (aNs_t hns)))
theorem v_aast18 {E : EN} {mi : MI} {k C S : Nat} {sh : Sp} {mem : Mm} {cs : Nat × Nat} {pc : Nat} {al : List (Nat × AV)} {st : List AV} {Q : PQ} {n N : Nat} {a i x : Int} (hd : decode mi.2.1 pc = .ok (.aastore, 1)) (hs : aSh sh a 18 n) (hv : aSh sh x 10 N) (h0 : 0 ≤ i) (hn : i < n) (hfl : (∀ b, flk 18 b i = none) ∨ E.2.2.2.2.2.1 = false) (h : VG E mi k C S sh (aUp mem a i x) cs (pc + 1) al st Q) : VG E mi k C S sh mem cs pc al (aR x :: aI i :: aR a :: st) Q := by
  obtain ⟨j, rfl, hsj⟩ := hs
  obtain ⟨j2, rfl, hsj2⟩ := hv
  intro p e s m args below meth c H locs ls hx hc hW hS hl hna hns
  have he := aWl_get (E := E) (mem := mem) hsj
  have he2 := aWl_get (E := E) (mem := mem) hsj2
  rw [show aEn E 18 n (mem j) = .inl (E.2.2.2.1 5, n, .inr (.inr (.inr (.inr fun j2 => aRf (eB E) (mem j j2))))) from rfl] at he
  rw [aEn_obj (by decide)] at he2
  obtain ⟨q1, q2⟩ := i32_in (aNs_I (aNs_t hns)) h0 hn
  have e1 : (aWl E sh mem).set j (eB E + j, .inl (E.2.2.2.1 5, n, .inr (.inr (.inr (.inr (va_up (fun j3 : Nat => aRf (eB E) (mem j j3)) (Int32.ofInt i).toNatClampNeg (some (eB E + j2)))))))) = aWl E sh (aUp mem j i j2) := by
    rw [← aWl_set (mem' := aUp mem j i j2) hsj (fun i2 h2 => aUp_ne (by omega)), show aEn E 18 n (aUp mem j i j2 j) = .inl (E.2.2.2.1 5, n, .inr (.inr (.inr (.inr fun j3 => aRf (eB E) (aUp mem j i j2 j j3))))) from rfl, q2, aUp_row]
    have e2 : (va_up (fun j3 : Nat => aRf (eB E) (mem j j3)) i.toNat (some (eB E + j2))) = fun j3 : Nat => aRf (eB E) (if (j3 : Int) = i then (j2 : Int) else mem j j3) := by
      funext j3
      unfold va_up
      by_cases q : j3 = i.toNat
      · rw [if_pos q, if_pos (by omega)]
        unfold aRf
        rw [if_neg (by omega), Int.toNat_natCast]
      · rw [if_neg q, if_neg (by omega)]
    rw [e2]
  show W p E.1 e (aRm k C S) s m args below meth c H locs cs.1 cs.2 _ (F0 m pc ls (aV (eB E) (aR (j2 : Int)) :: .int (Int32.ofInt i) :: aV (eB E) (aR (j : Int)) :: aSt (eB E) st))
  rw [aV_ref, aV_ref]
  refine va_astq (D := (E.2.1, E.2.2.1)) (r := (RX10, TX10, 13)) hx hc.1 hc.2.2.2.2.2.2.2.1 hW.1 (aWl_D E sh mem) hS.1 j 5 j2 10 he rfl he2 rfl q1 hd fun H1 locs1 hP1 hD1 hS1 => ?_
  rw [e1] at hP1
  exact h p e s m args below meth c H1 locs1 ls hx hc (aWd_up hW hsj hP1 (aNr_R _) (hfl.imp (fun q => q _) id)) ⟨hS1, hS.2⟩ hl hna (aNs_t (aNs_t (aNs_t hns)))
theorem v_alen13 {E : EN} {mi : MI} {k C S : Nat} {sh : Sp} {mem : Mm} {cs : Nat × Nat} {pc : Nat} {al : List (Nat × AV)} {st : List AV} {Q : PQ} {n : Nat} {a : Int} (hd : decode mi.2.1 pc = .ok (.arraylength, 1)) (hs : aSh sh a 13 n) (hn : n < 2147483648) (h : VG E mi k C S sh mem cs (pc + 1) al (aI n :: st) Q) : VG E mi k C S sh mem cs pc al (aR a :: st) Q := by
  obtain ⟨j, rfl, hsj⟩ := hs
  intro p e s m args below meth c H locs ls hx hc hW hS hl hna hns
  have he := aWl_get (E := E) (mem := mem) hsj
  rw [aEn13] at he
  show W p E.1 e (aRm k C S) s m args below meth c H locs cs.1 cs.2 _ (F0 m pc ls (aV (eB E) (aR (j : Int)) :: aSt (eB E) st))
  rw [aV_ref]
  exact va_alen (D := (E.2.1, E.2.2.1)) (v := Int32.ofInt n) hx hc.1 hc.2.2.2.2.2.2.2.1 hW.1 j 0 he rfl (Int32.ofInt_eq_ofNat).symm hd (h p e s m args below meth c H locs ls hx hc hW hS hl hna (aNs_c (aNr_I (by omega)) (aNs_t hns)))
theorem v_iret {E : EN} {mi : MI} {k C S : Nat} {sh : Sp} {mem : Mm} {cs : Nat × Nat} {pc : Nat} {al : List (Nat × AV)} {st : List AV} {Q : PQ} {x : Int} (hd : decode mi.2.1 pc = .ok (.ireturn, 1)) (hr : mi.2.2.2 = some .int) (hc2 : cs.1 = C) (hs2 : cs.2 ≤ S) (h : Q (some (aI x)) sh mem) : VG E mi k C S sh mem cs pc al [aI x] Q := by
  intro p e s m args below meth c H locs ls hx hc hW hS hl hna hns
  subst hc2
  refine W.widen (Nat.le_refl _) hs2 ?_
  exact W.iret (v := Int32.ofInt x) hx hc.1 (hc.2.1.trans hr) (fun t ht hW2 => ⟨⟨some (aI x), sh, mem, rfl, h, by rw [ht]; exact hW, hS.2.1, fun a ha => by cases ha; exact hns _ List.mem_cons_self⟩, hS.1.F ht⟩) hS.1.2.2 hd hc.2.2.2.2.2.1
theorem v_zret {E : EN} {mi : MI} {k C S : Nat} {sh : Sp} {mem : Mm} {cs : Nat × Nat} {pc : Nat} {al : List (Nat × AV)} {st : List AV} {Q : PQ} {x : Int} (hd : decode mi.2.1 pc = .ok (.ireturn, 1)) (hr : mi.2.2.2 = some .boolean) (hc2 : cs.1 = C) (hs2 : cs.2 ≤ S) (hz : x = 0 ∨ x = 1) (h : Q (some (aI x)) sh mem) : VG E mi k C S sh mem cs pc al [aI x] Q := by
  intro p e s m args below meth c H locs ls hx hc hW hS hl hna hns
  subst hc2
  refine W.widen (Nat.le_refl _) hs2 ?_
  exact W.zret (v := Int32.ofInt x) hx hc.1 (hc.2.1.trans hr) (by rcases hz with q | q <;> (subst q; rfl)) (fun t ht hW2 => ⟨⟨some (aI x), sh, mem, rfl, h, by rw [ht]; exact hW, hS.2.1, fun a ha => by cases ha; exact hns _ List.mem_cons_self⟩, hS.1.F ht⟩) hS.1.2.2 hd hc.2.2.2.2.2.1
theorem v_lret {E : EN} {mi : MI} {k C S : Nat} {sh : Sp} {mem : Mm} {cs : Nat × Nat} {pc : Nat} {al : List (Nat × AV)} {st : List AV} {Q : PQ} {x : Int} (hd : decode mi.2.1 pc = .ok (.lreturn, 1)) (hr : mi.2.2.2 = some .long) (hc2 : cs.1 = C) (hs2 : cs.2 ≤ S) (h : Q (some (aL x)) sh mem) : VG E mi k C S sh mem cs pc al [aL x] Q := by
  intro p e s m args below meth c H locs ls hx hc hW hS hl hna hns
  subst hc2
  refine W.widen (Nat.le_refl _) hs2 ?_
  exact W.lret (v := Int64.ofInt x) hx hc.1 (hc.2.1.trans hr) (fun t ht hW2 => ⟨⟨some (aL x), sh, mem, rfl, h, by rw [ht]; exact hW, hS.2.1, fun a ha => by cases ha; exact hns _ List.mem_cons_self⟩, hS.1.F ht⟩) hS.1.2.2 hd hc.2.2.2.2.2.1
theorem v_aret {E : EN} {mi : MI} {k C S : Nat} {sh : Sp} {mem : Mm} {cs : Nat × Nat} {pc : Nat} {al : List (Nat × AV)} {st : List AV} {Q : PQ} {x : Int} {n : String} (hd : decode mi.2.1 pc = .ok (.areturn, 1)) (hr : mi.2.2.2 = some (.object n)) (hc2 : cs.1 = C) (hs2 : cs.2 ≤ S) (h : Q (some (aR x)) sh mem) : VG E mi k C S sh mem cs pc al [aR x] Q := by
  intro p e s m args below meth c H locs ls hx hc hW hS hl hna hns
  subst hc2
  refine W.widen (Nat.le_refl _) hs2 ?_
  have hv : aV (eB E) (aR x) = .null ∨ ∃ a, aV (eB E) (aR x) = .ref a := by
    show (if x < 0 then Value.null else .ref (eB E + x.toNat)) = .null ∨ ∃ a, (if x < 0 then Value.null else .ref (eB E + x.toNat)) = .ref a
    split
    · exact Or.inl rfl
    · exact Or.inr ⟨_, rfl⟩
  exact W.aret (v := aV (eB E) (aR x)) hx hc.1 (hc.2.1.trans hr) (Or.inl ⟨n, rfl⟩) hv (fun t ht hW2 => ⟨⟨some (aR x), sh, mem, rfl, h, by rw [ht]; exact hW, hS.2.1, fun a ha => by cases ha; exact aNr_R _⟩, hS.1.F ht⟩) hS.1.2.2 hd hc.2.2.2.2.2.1
theorem v_vret {E : EN} {mi : MI} {k C S : Nat} {sh : Sp} {mem : Mm} {cs : Nat × Nat} {pc : Nat} {al : List (Nat × AV)} {st : List AV} {Q : PQ} (hd : decode mi.2.1 pc = .ok (.return_, 1)) (hr : mi.2.2.2 = none) (hc2 : cs.1 = C) (hs2 : cs.2 ≤ S) (h : Q none sh mem) : VG E mi k C S sh mem cs pc al [] Q := by
  intro p e s m args below meth c H locs ls hx hc hW hS hl hna hns
  subst hc2
  refine W.widen (Nat.le_refl _) hs2 ?_
  exact W.vret hx hc.1 (hc.2.1.trans hr) (fun t ht hW2 => ⟨⟨none, sh, mem, rfl, h, by rw [ht]; exact hW, hS.2.1, fun a ha => by cases ha⟩, hS.1.F ht⟩) hS.1.2.2 hd hc.2.2.2.2.2.1
/-- a method of the tables, with n arguments beside the receiver -/
def aMs (mi : MI) (n : Nat) : Prop := Cond.code mi.1 mi.2.1 mi.2.2.1 mi.2.2.2 ∈ lw_gd ∧ Cond.initialized mi.1.cls ∈ lw_gd ∧ (mi.1.cls ≠ "java/lang/invoke/MethodHandle" ∧ mi.1.cls ≠ "java/lang/invoke/VarHandle" ∧ (parseMethodDescriptor mi.1.desc).map (fun d => d.parameters.length) = some n) ∧ mi.2.2.1 ≤ 45
def aMv (mi : MI) : Prop := Cond.instanceMethod mi.1 ∈ lw_gd ∧ Cond.selects mi.1.cls mi.1 mi.1 ∈ lw_gd
def aLk (own : String) (index : Nat) (y : MethodName) : Prop := Cond.methodLink own index y ∈ lw_gd ∨ ∃ host, Cond.methodLinkNest own index y host ∈ lw_tbl
theorem good_ws {mi : MI} {n : Nat} (h : aMs mi n) : GoodIn lw_gd (.code mi.1 mi.2.1 mi.2.2.1 mi.2.2.2 :: lw_gd) := fun w hw => by
  rcases List.mem_cons.mp hw with q | q
  · rw [q]; exact ⟨h.1, good_of_word (good_gd _ h.1)⟩
  · exact ⟨q, good_of_word (good_gd _ q)⟩
theorem aSt_rev (b : Nat) (av st : List AV) : aSt b (av.reverse ++ st) = (aSt b av).reverse ++ aSt b st := by simp
theorem aSt_cat (b : Nat) (st : List AV) : ((aSt b st).map fun v => v.category).sum = (st.map aC).sum := by
  rw [List.map_map]
  congr 1
  exact List.map_congr_left fun a _ => aV_cat b a
theorem aSt_sum {b : Nat} {st : List AV} (h : (st.map aC).sum ≤ 8) : ((aSt b st).map fun v => v.category).sum ≤ 8 := by rw [aSt_cat]; exact h
theorem v_invV {E : EN} {mi mi' : MI} {k C S C' S' n index : Nat} {sh : Sp} {mem : Mm} {cs : Nat × Nat} {pc : Nat} {al : List (Nat × AV)} {rest av : List AV} {Q Q' : PQ} {a : Int} {ci N : Nat} {T : u_T} (hd : decode mi.2.1 pc = .ok (.invokevirtual index, 3)) (hM : CG E mi' k C' S' sh mem (aR a :: av) Q') (hs : aSh sh a ci N) (hci : ci < 13) (hcl : vwCl[ci]? = some (mi'.1.cls, T, N)) (h1 : aMs mi' n) (h2 : aMv mi') (h3 : aLk mi.1.cls index mi'.1) (hn : av.length = n) (hf : cs.1 + C' ≤ C ∧ cs.2 + S' ≤ S) (hr : (rest.map aC).sum ≤ 8)
    (kk : ∀ (r : Option AV) (sh' : Sp) (mem' : Mm), Q' r sh' mem' → VG E mi (k + 1) C S sh' mem' (cs.1 + C', cs.2 + S') (pc + 3) al (r.toList ++ rest) Q) : VG E mi (k + 1) C S sh mem cs pc al (av.reverse ++ aR a :: rest) Q := by
  refine VG_call (mi' := mi') (n := n) (index := index) (av := aR a :: av) (rest := rest) (C' := C') (S' := S') ?_ (fun x hx => List.mem_append_right _ (List.mem_cons_of_mem _ hx)) kk
  intro p e s m args below meth c H locs ls hx hc hW hS hzz hl
  obtain ⟨j, rfl, hsj⟩ := hs
  have he := aWl_get (E := E) (mem := mem) hsj
  rw [aEn_obj hci] at he
  have hts := hc.2.2.2.2.1
  have e1 : aSt (eB E) (av.reverse ++ aR (j : Int) :: rest) = (aSt (eB E) av).reverse ++ .ref (eB E + j) :: aSt (eB E) rest := by
    rw [aSt_rev]
    show _ ++ aV (eB E) (aR (j : Int)) :: _ = _
    rw [aV_ref]
  have e2 : aSt (eB E) (aR (j : Int) :: av) = .ref (eB E + j) :: aSt (eB E) av := by
    show aV (eB E) (aR (j : Int)) :: _ = _
    rw [aV_ref]
  rw [e1, e2]
  have hM' := hM
  unfold CG at hM'
  rw [e2] at hM'
  have hp : PreV s H mi'.1.cls (eB E + j) (va_Pc (.ref (eB E + j) :: aSt (eB E) av) (fun U => aWd E sh mem U.heap ∧ aIn E U ∧ U.heap.size = eB E + sh.length)) (aSt (eB E) av) := by
    refine ⟨?_, va_recv hc.2.2.2.2.2.2.2.1 hW.1 hcl he, fun U hU hWm => ⟨rfl, by rw [hU]; exact hW, hc.2.2.2.2.2.2.2.call hS.1 hU hWm, by rw [hU]; exact hzz⟩⟩
    rw [← e2]
    exact CG_blind
  have hR : (aRm k C' S').frames + 1 ≤ (aRm (k + 1) C S).frames ∧ 8 + (mi'.2.2.1 + 11) + (aRm k C' S').locals ≤ (aRm (k + 1) C S).locals := by
    have := h1.2.2.2
    exact ⟨Nat.le_refl _, by show 8 + (mi'.2.2.1 + 11) + 64 * k ≤ 64 * (k + 1); omega⟩
  rcases h3 with q | ⟨host, q⟩
  · exact va_runV ⟨hx, hc.1, hc.2.2.1, hc.2.2.2.1, hts⟩ hM' ⟨callB_of n hts (good_ws h1) rfl rfl rfl (hts _ h1.2.1) (hts _ q) h1.2.2.1 hR, hts _ h2.1, hts _ h2.2⟩ hp rfl (by rw [List.length_map]; exact hn) hl.1 rfl (lv_room (rest := []) (pc := 0) (m := m) (ls := ls) (aSt_sum hr)) hd hf
  · exact va_runVN ⟨hx, hc.1, hc.2.2.1, hc.2.2.2.1, hts⟩ hM' ⟨va_cnB n hts (good_ws h1) rfl rfl rfl (hc.2.2.2.2.2.2.2.2.1 _ q rfl) (hts _ h1.2.1) h1.2.2.1 hR, hts _ h2.1, hts _ h2.2⟩ hp rfl (by rw [List.length_map]; exact hn) hl.1 rfl (lv_room (rest := []) (pc := 0) (m := m) (ls := ls) (aSt_sum hr)) hd hf
theorem v_invS {E : EN} {mi mi' : MI} {k C S C' S' n index : Nat} {sh : Sp} {mem : Mm} {cs : Nat × Nat} {pc : Nat} {al : List (Nat × AV)} {rest av : List AV} {Q Q' : PQ} (hd : decode mi.2.1 pc = .ok (.invokestatic index, 3)) (hM : CG E mi' k C' S' sh mem av Q') (h1 : aMs mi' n) (h2 : Cond.static mi'.1 ∈ lw_gd) (h3 : aLk mi.1.cls index mi'.1) (hn : av.length = n) (hf : cs.1 + C' ≤ C ∧ cs.2 + S' ≤ S) (hr : (rest.map aC).sum ≤ 8)
    (kk : ∀ (r : Option AV) (sh' : Sp) (mem' : Mm), Q' r sh' mem' → VG E mi (k + 1) C S sh' mem' (cs.1 + C', cs.2 + S') (pc + 3) al (r.toList ++ rest) Q) : VG E mi (k + 1) C S sh mem cs pc al (av.reverse ++ rest) Q := by
  refine VG_call (mi' := mi') (n := n) (index := index) (av := av) (rest := rest) (C' := C') (S' := S') ?_ (fun x hx => List.mem_append_right _ hx) kk
  intro p e s m args below meth c H locs ls hx hc hW hS hzz hl
  have hts := hc.2.2.2.2.1
  rw [aSt_rev]
  have hp : PreS s H (va_Pc (aSt (eB E) av) (fun U => aWd E sh mem U.heap ∧ aIn E U ∧ U.heap.size = eB E + sh.length)) (aSt (eB E) av) := by
    exact ⟨CG_blind, fun U hU hWm => ⟨rfl, by rw [hU]; exact hW, hc.2.2.2.2.2.2.2.call hS.1 hU hWm, by rw [hU]; exact hzz⟩⟩
  have hR : (aRm k C' S').frames + 1 ≤ (aRm (k + 1) C S).frames ∧ 8 + (mi'.2.2.1 + 11) + (aRm k C' S').locals ≤ (aRm (k + 1) C S).locals := by
    have := h1.2.2.2
    exact ⟨Nat.le_refl _, by show 8 + (mi'.2.2.1 + 11) + 64 * k ≤ 64 * (k + 1); omega⟩
  rcases h3 with q | ⟨host, q⟩
  · exact va_runS ⟨hx, hc.1, hc.2.2.1, hc.2.2.2.1, hts⟩ hM ⟨callB_of n hts (good_ws h1) rfl rfl rfl (hts _ h1.2.1) (hts _ q) h1.2.2.1 hR, hts _ h2⟩ hp rfl (by rw [List.length_map]; exact hn) hl.1 rfl (lv_room (rest := []) (pc := 0) (m := m) (ls := ls) (aSt_sum hr)) hd hf
  · exact va_runSN ⟨hx, hc.1, hc.2.2.1, hc.2.2.2.1, hts⟩ hM ⟨va_cnB n hts (good_ws h1) rfl rfl rfl (hc.2.2.2.2.2.2.2.2.1 _ q rfl) (hts _ h1.2.1) h1.2.2.1 hR, hts _ h2, trivial⟩ hp rfl (by rw [List.length_map]; exact hn) hl.1 rfl (lv_room (rest := []) (pc := 0) (m := m) (ls := ls) (aSt_sum hr)) hd hf
theorem v_invI {E : EN} {mi mi' : MI} {k C S C' S' n index : Nat} {sh : Sp} {mem : Mm} {cs : Nat × Nat} {pc : Nat} {al : List (Nat × AV)} {rest av : List AV} {Q Q' : PQ} {a : Int} (ha : 0 ≤ a) (hd : decode mi.2.1 pc = .ok (.invokespecial index, 3)) (hM : CG E mi' k C' S' sh mem (aR a :: av) Q') (h1 : aMs mi' n) (h2 : Cond.instanceMethod mi'.1 ∈ lw_gd) (hnm : mi'.1.name = "<init>") (hrt : mi'.2.2.2 = none) (h3 : aLk mi.1.cls index mi'.1) (hn : av.length = n) (hf : cs.1 + C' ≤ C ∧ cs.2 + S' ≤ S) (hr : (rest.map aC).sum ≤ 8)
    (kk : ∀ (r : Option AV) (sh' : Sp) (mem' : Mm), Q' r sh' mem' → VG E mi (k + 1) C S sh' mem' (cs.1 + C', cs.2 + S') (pc + 3) al (r.toList ++ rest) Q) : VG E mi (k + 1) C S sh mem cs pc al (av.reverse ++ aR a :: rest) Q := by
  refine VG_call (mi' := mi') (n := n) (index := index) (av := aR a :: av) (rest := rest) (C' := C') (S' := S') ?_ (fun x hx => List.mem_append_right _ (List.mem_cons_of_mem _ hx)) kk
  intro p e s m args below meth c H locs ls hx hc hW hS hzz hl
  obtain ⟨j, rfl⟩ : ∃ j : Nat, a = (j : Int) := ⟨a.toNat, by omega⟩
  have hts := hc.2.2.2.2.1
  have e1 : aSt (eB E) (av.reverse ++ aR (j : Int) :: rest) = (aSt (eB E) av).reverse ++ .ref (eB E + j) :: aSt (eB E) rest := by
    rw [aSt_rev]
    show _ ++ aV (eB E) (aR (j : Int)) :: _ = _
    rw [aV_ref]
  have e2 : aSt (eB E) (aR (j : Int) :: av) = .ref (eB E + j) :: aSt (eB E) av := by
    show aV (eB E) (aR (j : Int)) :: _ = _
    rw [aV_ref]
  rw [e1, e2]
  have hM' := hM
  unfold CG at hM'
  rw [e2, hrt] at hM'
  have hp : PreS s H (va_Pc (.ref (eB E + j) :: aSt (eB E) av) (fun U => aWd E sh mem U.heap ∧ aIn E U ∧ U.heap.size = eB E + sh.length)) (.ref (eB E + j) :: aSt (eB E) av) := by
    refine ⟨?_, fun U hU hWm => ⟨rfl, by rw [hU]; exact hW, hc.2.2.2.2.2.2.2.call hS.1 hU hWm, by rw [hU]; exact hzz⟩⟩
    rw [← e2]
    exact CG_blind
  have hR : (aRm k C' S').frames + 1 ≤ (aRm (k + 1) C S).frames ∧ 8 + (mi'.2.2.1 + 11) + (aRm k C' S').locals ≤ (aRm (k + 1) C S).locals := by
    have := h1.2.2.2
    exact ⟨Nat.le_refl _, by show 8 + (mi'.2.2.1 + 11) + 64 * k ≤ 64 * (k + 1); omega⟩
  have hgw := good_ws h1
  rw [hrt] at hgw
  rcases h3 with q | ⟨host, q⟩
  · exact va_runI ⟨hx, hc.1, hc.2.2.1, hc.2.2.2.1, hts⟩ hM' ⟨callB_of n hts hgw rfl rfl rfl (hts _ h1.2.1) (hts _ q) h1.2.2.1 hR, hnm, hts _ h2⟩ hp rfl (by rw [List.length_map]; exact hn) hl.1 rfl (lv_room (rest := []) (pc := 0) (m := m) (ls := ls) (aSt_sum hr)) hd hf
  · exact va_runIN ⟨hx, hc.1, hc.2.2.1, hc.2.2.2.1, hts⟩ hM' ⟨va_cnB n hts hgw rfl rfl rfl (hc.2.2.2.2.2.2.2.2.1 _ q rfl) (hts _ h1.2.1) h1.2.2.1 hR, hnm, hts _ h2⟩ hp rfl (by rw [List.length_map]; exact hn) hl.1 rfl (lv_room (rest := []) (pc := 0) (m := m) (ls := ls) (aSt_sum hr)) hd hf
theorem v_mmax {E : EN} {mi : MI} {k C S : Nat} {sh : Sp} {mem : Mm} {cs : Nat × Nat} {pc : Nat} {al : List (Nat × AV)} {st : List AV} {Q : PQ} {x y : Int} {index : Nat} (hd : decode mi.2.1 pc = .ok (.invokestatic index, 3)) (hlk : Cond.methodLink mi.1.cls index Lib.Math.max.name ∈ lw_gd) (hst : Cond.static Lib.Math.max.name ∈ lw_gd) (hin : Cond.initialized "java/lang/Math" ∈ lw_gd) (hco : Cond.code Lib.Math.max.name Lib.Math.max.code 2 (some .int) ∈ lw_gd) (hf : cs.1 ≤ C ∧ cs.2 ≤ S) (hr : (st.map aC).sum ≤ 8) (h : VG E mi (k + 1) C S sh mem cs (pc + 3) al (aI (if x < y then y else x) :: st) Q) : VG E mi (k + 1) C S sh mem cs pc al (aI y :: aI x :: st) Q := by
  intro p e s m args below meth c H locs ls hx hc hW hS hl hna hns
  have hy := aNs_I hns
  have hx1 := aNs_I (aNs_t hns)
  have hts := hc.2.2.2.2.1
  refine va_mmax (x := Int32.ofInt x) (y := Int32.ofInt y) (rest := aSt (eB E) st) hx hc.1 (hc.2.2.1.trans hl.1.symm) hc.2.2.2.1 (hts _ hlk) (hts _ hst) (hts _ hin) (hts _ hco) (by show 1 ≤ k + 1; omega) (by have := aSt_sum (b := eB E) hr; show _ + 13 ≤ 64 * (k + 1); omega) hf.1 hf.2 hd ?_
  have e9 : (if Int32.ofInt x < Int32.ofInt y then Int32.ofInt y else Int32.ofInt x) = Int32.ofInt (if x < y then y else x) := by
    by_cases q : x < y
    · rw [if_pos q, if_pos ((i32_lt hx1 hy).2 q)]
    · rw [if_neg q, if_neg fun g => q ((i32_lt hx1 hy).1 g)]
  rw [e9]
  exact h p e s m args below meth c H locs ls hx hc hW hS hl hna (aNs_c (aNr_I (by split <;> assumption)) (aNs_t (aNs_t hns)))
theorem v_mmin {E : EN} {mi : MI} {k C S : Nat} {sh : Sp} {mem : Mm} {cs : Nat × Nat} {pc : Nat} {al : List (Nat × AV)} {st : List AV} {Q : PQ} {x y : Int} {index : Nat} (hd : decode mi.2.1 pc = .ok (.invokestatic index, 3)) (hlk : Cond.methodLink mi.1.cls index Lib.Math.min.name ∈ lw_gd) (hst : Cond.static Lib.Math.min.name ∈ lw_gd) (hin : Cond.initialized "java/lang/Math" ∈ lw_gd) (hco : Cond.code Lib.Math.min.name Lib.Math.min.code 2 (some .int) ∈ lw_gd) (hf : cs.1 ≤ C ∧ cs.2 ≤ S) (hr : (st.map aC).sum ≤ 8) (h : VG E mi (k + 1) C S sh mem cs (pc + 3) al (aI (if y < x then y else x) :: st) Q) : VG E mi (k + 1) C S sh mem cs pc al (aI y :: aI x :: st) Q := by
  intro p e s m args below meth c H locs ls hx hc hW hS hl hna hns
  have hy := aNs_I hns
  have hx1 := aNs_I (aNs_t hns)
  have hts := hc.2.2.2.2.1
  refine va_mmin (x := Int32.ofInt x) (y := Int32.ofInt y) (rest := aSt (eB E) st) hx hc.1 (hc.2.2.1.trans hl.1.symm) hc.2.2.2.1 (hts _ hlk) (hts _ hst) (hts _ hin) (hts _ hco) (by show 1 ≤ k + 1; omega) (by have := aSt_sum (b := eB E) hr; show _ + 13 ≤ 64 * (k + 1); omega) hf.1 hf.2 hd ?_
  have e9 : (if Int32.ofInt y < Int32.ofInt x then Int32.ofInt y else Int32.ofInt x) = Int32.ofInt (if y < x then y else x) := by
    by_cases q : y < x
    · rw [if_pos q, if_pos ((i32_lt hy hx1).2 q)]
    · rw [if_neg q, if_neg fun g => q ((i32_lt hy hx1).1 g)]
  rw [e9]
  exact h p e s m args below meth c H locs ls hx hc hW hS hl hna (aNs_c (aNr_I (by split <;> assumption)) (aNs_t (aNs_t hns)))
