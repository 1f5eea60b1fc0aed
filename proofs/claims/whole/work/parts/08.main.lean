abbrev retI (Q : Int → Mm → Prop) : PQ := fun r sh m => sh = SH ∧ ∃ x, r = some (aI x) ∧ Q x m
abbrev retL (Q : Int → Mm → Prop) : PQ := fun r sh m => sh = SH ∧ ∃ x, r = some (aL x) ∧ Q x m
abbrev retR (Q : Int → Mm → Prop) : PQ := fun r sh m => sh = SH ∧ ∃ x, r = some (aR x) ∧ Q x m
abbrev retV (Q : Mm → Prop) : PQ := fun r sh m => sh = SH ∧ r = none ∧ Q m
abbrev VM (E : EN) (mi : MI) (k : Nat) (mem : Mm) (pc : Nat) (al : List (Nat × AV)) (st : List AV) (Q : PQ) : Prop := VG E mi k 0 0 SH mem (0, 0) pc al st Q
def CI (E : EN) (mi : MI) (k : Nat) (mem : Mm) (av : List AV) (Q : Int → Mm → Prop) : Prop := CG E mi k 0 0 SH mem av (retI Q)
def CL (E : EN) (mi : MI) (k : Nat) (mem : Mm) (av : List AV) (Q : Int → Mm → Prop) : Prop := CG E mi k 0 0 SH mem av (retL Q)
def CR (E : EN) (mi : MI) (k : Nat) (mem : Mm) (av : List AV) (Q : Int → Mm → Prop) : Prop := CG E mi k 0 0 SH mem av (retR Q)
def CV (E : EN) (mi : MI) (k : Nat) (mem : Mm) (av : List AV) (Q : Mm → Prop) : Prop := CG E mi k 0 0 SH mem av (retV Q)
abbrev Ep (E : EN) : Prop := E.2.2.2.2.2.1 = true
theorem aSl_len (b : Nat) (av : List AV) : (lg_sl (aSt b av)).length = (av.map aC).sum := by
  induction av with
  | nil => rfl
  | cons a t ih =>
    show (lg_sl (aV b a :: aSt b t)).length = aC a + (t.map aC).sum
    unfold lg_sl at ih ⊢
    rw [List.flatMap_cons, List.length_append, ih, aV_cat]
    congr 1
    unfold aC
    split <;> rfl
theorem CI_mono {E : EN} {mi : MI} {k : Nat} {mem : Mm} {av : List AV} {Q Q2 : Int → Mm → Prop} (h : CI E mi k mem av Q) (hq : ∀ x m, Q x m → Q2 x m) : CI E mi k mem av Q2 := CG_mono h fun _ _ _ ⟨q1, x, q2, q3⟩ => ⟨q1, x, q2, hq _ _ q3⟩
theorem CL_mono {E : EN} {mi : MI} {k : Nat} {mem : Mm} {av : List AV} {Q Q2 : Int → Mm → Prop} (h : CL E mi k mem av Q) (hq : ∀ x m, Q x m → Q2 x m) : CL E mi k mem av Q2 := CG_mono h fun _ _ _ ⟨q1, x, q2, q3⟩ => ⟨q1, x, q2, hq _ _ q3⟩
theorem CR_mono {E : EN} {mi : MI} {k : Nat} {mem : Mm} {av : List AV} {Q Q2 : Int → Mm → Prop} (h : CR E mi k mem av Q) (hq : ∀ x m, Q x m → Q2 x m) : CR E mi k mem av Q2 := CG_mono h fun _ _ _ ⟨q1, x, q2, q3⟩ => ⟨q1, x, q2, hq _ _ q3⟩
theorem CV_mono {E : EN} {mi : MI} {k : Nat} {mem : Mm} {av : List AV} {Q Q2 : Mm → Prop} (h : CV E mi k mem av Q) (hq : ∀ m, Q m → Q2 m) : CV E mi k mem av Q2 := CG_mono h fun _ _ _ ⟨q1, q2, q3⟩ => ⟨q1, q2, hq _ q3⟩
theorem CI_of {E : EN} {mi : MI} {k : Nat} {mem : Mm} {av : List AV} {Q : Int → Mm → Prop} (hp : plainName mi.1.cls = true) (hlen : (av.map aC).sum ≤ mi.2.2.1) (h : VM E mi k mem 0 (aArgs 0 av) [] (retI Q)) (hn : aNs av) : CI E mi k mem av Q := CG_of hp (Nat.le_trans (Nat.le_of_eq (by rw [aSl_len])) hlen) hn h
theorem CL_of {E : EN} {mi : MI} {k : Nat} {mem : Mm} {av : List AV} {Q : Int → Mm → Prop} (hp : plainName mi.1.cls = true) (hlen : (av.map aC).sum ≤ mi.2.2.1) (h : VM E mi k mem 0 (aArgs 0 av) [] (retL Q)) (hn : aNs av) : CL E mi k mem av Q := CG_of hp (Nat.le_trans (Nat.le_of_eq (by rw [aSl_len])) hlen) hn h
theorem CR_of {E : EN} {mi : MI} {k : Nat} {mem : Mm} {av : List AV} {Q : Int → Mm → Prop} (hp : plainName mi.1.cls = true) (hlen : (av.map aC).sum ≤ mi.2.2.1) (h : VM E mi k mem 0 (aArgs 0 av) [] (retR Q)) (hn : aNs av) : CR E mi k mem av Q := CG_of hp (Nat.le_trans (Nat.le_of_eq (by rw [aSl_len])) hlen) hn h
theorem CV_of {E : EN} {mi : MI} {k : Nat} {mem : Mm} {av : List AV} {Q : Mm → Prop} (hp : plainName mi.1.cls = true) (hlen : (av.map aC).sum ≤ mi.2.2.1) (h : VM E mi k mem 0 (aArgs 0 av) [] (retV Q)) (hn : aNs av) : CV E mi k mem av Q := CG_of hp (Nat.le_trans (Nat.le_of_eq (by rw [aSl_len])) hlen) hn h
theorem m_retI {E : EN} {mi : MI} {k : Nat} {mem : Mm} {pc : Nat} {al : List (Nat × AV)} {Q : Int → Mm → Prop} {x : Int} (hd : decode mi.2.1 pc = .ok (.ireturn, 1)) (hr : mi.2.2.2 = some .int) (h : Q x mem) : VM E mi k mem pc al [aI x] (retI Q) := v_iret (st := []) hd hr rfl (Nat.le_refl _) ⟨rfl, x, rfl, h⟩
theorem m_retZ {E : EN} {mi : MI} {k : Nat} {mem : Mm} {pc : Nat} {al : List (Nat × AV)} {Q : Int → Mm → Prop} {x : Int} (hd : decode mi.2.1 pc = .ok (.ireturn, 1)) (hr : mi.2.2.2 = some .boolean) (hz : x = 0 ∨ x = 1) (h : Q x mem) : VM E mi k mem pc al [aI x] (retI Q) := v_zret (st := []) hd hr rfl (Nat.le_refl _) hz ⟨rfl, x, rfl, h⟩
theorem m_retL {E : EN} {mi : MI} {k : Nat} {mem : Mm} {pc : Nat} {al : List (Nat × AV)} {Q : Int → Mm → Prop} {x : Int} (hd : decode mi.2.1 pc = .ok (.lreturn, 1)) (hr : mi.2.2.2 = some .long) (h : Q x mem) : VM E mi k mem pc al [aL x] (retL Q) := v_lret (st := []) hd hr rfl (Nat.le_refl _) ⟨rfl, x, rfl, h⟩
theorem m_retR {E : EN} {mi : MI} {k : Nat} {mem : Mm} {pc : Nat} {al : List (Nat × AV)} {Q : Int → Mm → Prop} {x : Int} {n : String} (hd : decode mi.2.1 pc = .ok (.areturn, 1)) (hr : mi.2.2.2 = some (.object n)) (h : Q x mem) : VM E mi k mem pc al [aR x] (retR Q) := v_aret (st := []) hd hr rfl (Nat.le_refl _) ⟨rfl, x, rfl, h⟩
theorem m_retV {E : EN} {mi : MI} {k : Nat} {mem : Mm} {pc : Nat} {al : List (Nat × AV)} {Q : Mm → Prop} (hd : decode mi.2.1 pc = .ok (.return_, 1)) (hr : mi.2.2.2 = none) (h : Q mem) : VM E mi k mem pc al [] (retV Q) := v_vret (st := []) hd hr rfl (Nat.le_refl _) ⟨rfl, rfl, h⟩
theorem VG_fin {E : EN} {mi : MI} {k C S : Nat} {sh : Sp} {mem : Mm} {cs : Nat × Nat} {pc : Nat} {al : List (Nat × AV)} {st : List AV} {Q : PQ} {a i v : Int} {ci N : Nat} (hE : Ep E) (hs : aSh sh a ci N) (hf : flk ci a i = some v) (h : mem a i = v → VG E mi k C S sh mem cs pc al st Q) : VG E mi k C S sh mem cs pc al st Q := by
  refine VG_rng fun _ _ _ hfn => h ?_
  obtain ⟨j, rfl, hj⟩ := hs
  exact hfn hE j ci N i v hj hf
theorem m_getfin {E : EN} {mi : MI} {k : Nat} {mem : Mm} {pc : Nat} {al : List (Nat × AV)} {st : List AV} {Q : PQ} {ci N i index : Nat} {a v : Int} (hE : Ep E) (hd : decode mi.2.1 pc = .ok (.getfield index, 3)) (hf : aFl mi.1.cls index ci N i) (ht : aT ci (i : Int) = 2) (hs : aSh SH a ci N) (hv : flk ci a (i : Int) = some v) (h : VM E mi k mem (pc + 3) al (aR v :: st) Q) : VM E mi k mem pc al (aR a :: st) Q := by
  refine VG_fin hE hs hv fun e => v_getf hd hf ht hs ?_
  rw [e]
  exact h
theorem m_aald17 {E : EN} {mi : MI} {k : Nat} {mem : Mm} {pc : Nat} {al : List (Nat × AV)} {st : List AV} {Q : PQ} {a i : Int} (hE : Ep E) (hd : decode mi.2.1 pc = .ok (.aaload, 1)) (hs : aSh SH a 17 6) (h0 : 0 ≤ i) (hn : i < 6) (h : VM E mi k mem (pc + 1) al (aR (a + 1 + 9 * i) :: st) Q) : VM E mi k mem pc al (aI i :: aR a :: st) Q := by
  refine VG_fin hE hs (show flk 17 a i = some (a + 1 + 9 * i) from if_pos ⟨h0, hn⟩) fun e => v_aald17 hd hs h0 hn ?_
  rw [e]
  exact h
theorem m_aald16 {E : EN} {mi : MI} {k : Nat} {mem : Mm} {pc : Nat} {al : List (Nat × AV)} {st : List AV} {Q : PQ} {a i : Int} (hE : Ep E) (hd : decode mi.2.1 pc = .ok (.aaload, 1)) (hs : aSh SH a 16 2) (h0 : 0 ≤ i) (hn : i < 2) (h : VM E mi k mem (pc + 1) al (aR (a + 1 + 71 * i) :: st) Q) : VM E mi k mem pc al (aI i :: aR a :: st) Q := by
  refine VG_fin hE hs (show flk 16 a i = some (a + 1 + 71 * i) from if_pos ⟨h0, hn⟩) fun e => v_aald16 hd hs h0 hn ?_
  rw [e]
  exact h
theorem m_iadd {E : EN} {mi : MI} {k : Nat} {mem : Mm} {pc : Nat} {al : List (Nat × AV)} {st : List AV} {Q : PQ} {x y : Int} (hd : decode mi.2.1 pc = .ok (.iadd, 1)) (hr : R32 (x + y)) (h : VM E mi k mem (pc + 1) al (aI (x + y) :: st) Q) : VM E mi k mem pc al (aI y :: aI x :: st) Q := v_iadd hd (by rw [w32_id hr.1 hr.2]; exact h)
theorem m_isub {E : EN} {mi : MI} {k : Nat} {mem : Mm} {pc : Nat} {al : List (Nat × AV)} {st : List AV} {Q : PQ} {x y : Int} (hd : decode mi.2.1 pc = .ok (.isub, 1)) (hr : R32 (x - y)) (h : VM E mi k mem (pc + 1) al (aI (x - y) :: st) Q) : VM E mi k mem pc al (aI y :: aI x :: st) Q := v_isub hd (by rw [w32_id hr.1 hr.2]; exact h)
theorem m_imul {E : EN} {mi : MI} {k : Nat} {mem : Mm} {pc : Nat} {al : List (Nat × AV)} {st : List AV} {Q : PQ} {x y : Int} (hd : decode mi.2.1 pc = .ok (.imul, 1)) (hr : R32 (x * y)) (h : VM E mi k mem (pc + 1) al (aI (x * y) :: st) Q) : VM E mi k mem pc al (aI y :: aI x :: st) Q := v_imul hd (by rw [w32_id hr.1 hr.2]; exact h)
theorem m_ladd {E : EN} {mi : MI} {k : Nat} {mem : Mm} {pc : Nat} {al : List (Nat × AV)} {st : List AV} {Q : PQ} {x y : Int} (hd : decode mi.2.1 pc = .ok (.ladd, 1)) (hr : R64 (x + y)) (h : VM E mi k mem (pc + 1) al (aL (x + y) :: st) Q) : VM E mi k mem pc al (aL y :: aL x :: st) Q := v_ladd hd (by rw [w64_id hr.1 hr.2]; exact h)
theorem m_lsub {E : EN} {mi : MI} {k : Nat} {mem : Mm} {pc : Nat} {al : List (Nat × AV)} {st : List AV} {Q : PQ} {x y : Int} (hd : decode mi.2.1 pc = .ok (.lsub, 1)) (hr : R64 (x - y)) (h : VM E mi k mem (pc + 1) al (aL (x - y) :: st) Q) : VM E mi k mem pc al (aL y :: aL x :: st) Q := v_lsub hd (by rw [w64_id hr.1 hr.2]; exact h)
theorem m_lmul {E : EN} {mi : MI} {k : Nat} {mem : Mm} {pc : Nat} {al : List (Nat × AV)} {st : List AV} {Q : PQ} {x y : Int} (hd : decode mi.2.1 pc = .ok (.lmul, 1)) (hr : R64 (x * y)) (h : VM E mi k mem (pc + 1) al (aL (x * y) :: st) Q) : VM E mi k mem pc al (aL y :: aL x :: st) Q := v_lmul hd (by rw [w64_id hr.1 hr.2]; exact h)
theorem m_l2i {E : EN} {mi : MI} {k : Nat} {mem : Mm} {pc : Nat} {al : List (Nat × AV)} {st : List AV} {Q : PQ} {x : Int} (hd : decode mi.2.1 pc = .ok (.l2i, 1)) (hr : R32 x) (h : VM E mi k mem (pc + 1) al (aI x :: st) Q) : VM E mi k mem pc al (aL x :: st) Q := v_l2i hd (by rw [w32_id hr.1 hr.2]; exact h)
theorem m_ineg {E : EN} {mi : MI} {k : Nat} {mem : Mm} {pc : Nat} {al : List (Nat × AV)} {st : List AV} {Q : PQ} {x : Int} (hd : decode mi.2.1 pc = .ok (.ineg, 1)) (hr : R32 (-x)) (h : VM E mi k mem (pc + 1) al (aI (-x) :: st) Q) : VM E mi k mem pc al (aI x :: st) Q := v_ineg hd (by rw [w32_id hr.1 hr.2]; exact h)
theorem m_iinc {E : EN} {mi : MI} {k : Nat} {mem : Mm} {pc : Nat} {al al2 : List (Nat × AV)} {st : List AV} {Q : PQ} {i : Nat} {n x : Int} (hd : decode mi.2.1 pc = .ok (.iinc i n, 3)) (j : Nat) (hj : al[j]? = some (i, aI x)) (hi : i < mi.2.2.1) (hr : R32 (x + n)) (ha : aSto i (aI (x + n)) al = al2) (h : VM E mi k mem (pc + 3) al2 st Q) : VM E mi k mem pc al st Q := v_iinc hd j hj hi (by rw [w32_id hr.1 hr.2]; exact ha) h
theorem m_mmax {E : EN} {mi : MI} {k : Nat} {mem : Mm} {pc : Nat} {al : List (Nat × AV)} {st : List AV} {Q : PQ} {x y : Int} {index : Nat} (hd : decode mi.2.1 pc = .ok (.invokestatic index, 3)) (hlk : Cond.methodLink mi.1.cls index Lib.Math.max.name ∈ lw_gd) (hst : Cond.static Lib.Math.max.name ∈ lw_gd) (hin : Cond.initialized "java/lang/Math" ∈ lw_gd) (hco : Cond.code Lib.Math.max.name Lib.Math.max.code 2 (some .int) ∈ lw_gd) (hr : (st.map aC).sum ≤ 8) (h : VM E mi (k + 1) mem (pc + 3) al (aI (max x y) :: st) Q) : VM E mi (k + 1) mem pc al (aI y :: aI x :: st) Q := v_mmax hd hlk hst hin hco ⟨Nat.le_refl _, Nat.le_refl _⟩ hr (by rw [show (if x < y then y else x) = max x y by split <;> omega]; exact h)
theorem m_mmin {E : EN} {mi : MI} {k : Nat} {mem : Mm} {pc : Nat} {al : List (Nat × AV)} {st : List AV} {Q : PQ} {x y : Int} {index : Nat} (hd : decode mi.2.1 pc = .ok (.invokestatic index, 3)) (hlk : Cond.methodLink mi.1.cls index Lib.Math.min.name ∈ lw_gd) (hst : Cond.static Lib.Math.min.name ∈ lw_gd) (hin : Cond.initialized "java/lang/Math" ∈ lw_gd) (hco : Cond.code Lib.Math.min.name Lib.Math.min.code 2 (some .int) ∈ lw_gd) (hr : (st.map aC).sum ≤ 8) (h : VM E mi (k + 1) mem (pc + 3) al (aI (min x y) :: st) Q) : VM E mi (k + 1) mem pc al (aI y :: aI x :: st) Q := v_mmin hd hlk hst hin hco ⟨Nat.le_refl _, Nat.le_refl _⟩ hr (by rw [show (if y < x then y else x) = min x y by split <;> omega]; exact h)
theorem aNs_rv {a : AV} {av rest : List AV} (h : aNs (av.reverse ++ a :: rest)) : aNs (a :: av) := fun x hx => by
  rcases List.mem_cons.mp hx with q | q
  · exact h x (List.mem_append_right _ (by rw [q]; exact List.mem_cons_self))
  · exact h x (List.mem_append_left _ (List.mem_reverse.mpr q))
theorem aNs_rs {av rest : List AV} (h : aNs (av.reverse ++ rest)) : aNs av := fun x hx => h x (List.mem_append_left _ (List.mem_reverse.mpr hx))
theorem aaI {av : List AV} (hn : aNs av) (i : Nat) {x : Int} (h : av[i]? = some (aI x)) : R32 x := (hn _ (List.mem_of_getElem? h)).1 rfl
theorem aaL {av : List AV} (hn : aNs av) (i : Nat) {x : Int} (h : av[i]? = some (aL x)) : R64 x := (hn _ (List.mem_of_getElem? h)).2 rfl
theorem aUp_rn {mem : Mm} {a i v b j : Int} (h : b ≠ a) : aUp mem a i v b j = mem b j := if_neg fun q => h q.1
theorem aUp_ri {mem : Mm} {a i v b j : Int} (h : j ≠ i) : aUp mem a i v b j = mem b j := if_neg fun q => h q.2
theorem aUp_re {mem : Mm} {a i v : Int} : aUp mem a i v a i = v := if_pos ⟨rfl, rfl⟩

theorem m_iald {E : EN} {mi : MI} {k : Nat} {mem : Mm} {pc : Nat} {al : List (Nat × AV)} {st : List AV} {Q : PQ} {n : Nat} {a i v : Int} (hd : decode mi.2.1 pc = .ok (.iaload, 1)) (hs : aSh SH a 13 n) (h0 : 0 ≤ i) (hn : i < n) (hv : mem a i = v) (h : VM E mi k mem (pc + 1) al (aI v :: st) Q) : VM E mi k mem pc al (aI i :: aR a :: st) Q := v_iald hd hs h0 hn (by rw [hv]; exact h)
theorem m_zald {E : EN} {mi : MI} {k : Nat} {mem : Mm} {pc : Nat} {al : List (Nat × AV)} {st : List AV} {Q : PQ} {n : Nat} {a i v : Int} (hd : decode mi.2.1 pc = .ok (.baload, 1)) (hs : aSh SH a 15 n) (h0 : 0 ≤ i) (hn : i < n) (hv : mem a i = v) (h : VM E mi k mem (pc + 1) al (aI v :: st) Q) : VM E mi k mem pc al (aI i :: aR a :: st) Q := v_zald hd hs h0 hn (by rw [hv]; exact h)
theorem m_lald {E : EN} {mi : MI} {k : Nat} {mem : Mm} {pc : Nat} {al : List (Nat × AV)} {st : List AV} {Q : PQ} {n : Nat} {a i v : Int} (hd : decode mi.2.1 pc = .ok (.laload, 1)) (hs : aSh SH a 14 n) (h0 : 0 ≤ i) (hn : i < n) (hv : mem a i = v) (h : VM E mi k mem (pc + 1) al (aL v :: st) Q) : VM E mi k mem pc al (aI i :: aR a :: st) Q := v_lald hd hs h0 hn (by rw [hv]; exact h)
theorem m_aald18 {E : EN} {mi : MI} {k : Nat} {mem : Mm} {pc : Nat} {al : List (Nat × AV)} {st : List AV} {Q : PQ} {n : Nat} {a i v : Int} (hd : decode mi.2.1 pc = .ok (.aaload, 1)) (hs : aSh SH a 18 n) (h0 : 0 ≤ i) (hn : i < n) (hv : mem a i = v) (h : VM E mi k mem (pc + 1) al (aR v :: st) Q) : VM E mi k mem pc al (aI i :: aR a :: st) Q := v_aald18 hd hs h0 hn (by rw [hv]; exact h)
theorem m_getf {E : EN} {mi : MI} {k : Nat} {mem : Mm} {pc : Nat} {al : List (Nat × AV)} {st : List AV} {Q : PQ} {ci N i t index : Nat} {a v : Int} (hd : decode mi.2.1 pc = .ok (.getfield index, 3)) (hf : aFl mi.1.cls index ci N i) (ht : aT ci (i : Int) = t) (hs : aSh SH a ci N) (hv : mem a i = v) (h : VM E mi k mem (pc + 3) al ((t, v) :: st) Q) : VM E mi k mem pc al (aR a :: st) Q := v_getf hd hf ht hs (by rw [hv]; exact h)
theorem m_invI {E : EN} {mi mi' : MI} {k n index : Nat} {mem : Mm} {pc : Nat} {al : List (Nat × AV)} {rest : List AV} {Q : PQ} (av : List AV) {a : Int} {ci N : Nat} {T : u_T} (hd : decode mi.2.1 pc = .ok (.invokevirtual index, 3)) (hs : aSh SH a ci N) (hci : ci < 13) (hcl : vwCl[ci]? = some (mi'.1.cls, T, N)) (h1 : aMs mi' n) (h2 : aMv mi') (h3 : aLk mi.1.cls index mi'.1) (hn : av.length = n) (hr : (rest.map aC).sum ≤ 8) (hM : aNs (aR a :: av) → CI E mi' k mem (aR a :: av) (fun x m2 => VM E mi (k + 1) m2 (pc + 3) al (aI x :: rest) Q)) : VM E mi (k + 1) mem pc al (av.reverse ++ aR a :: rest) Q := VG_rng fun _ hns _ _ => v_invV hd (hM (aNs_rv hns)) hs hci hcl h1 h2 h3 hn ⟨Nat.le_refl _, Nat.le_refl _⟩ hr (fun r sh' m2 hq => by obtain ⟨rfl, x, rfl, h⟩ := hq; exact h)
theorem m_invSI {E : EN} {mi mi' : MI} {k n index : Nat} {mem : Mm} {pc : Nat} {al : List (Nat × AV)} {rest : List AV} {Q : PQ} (av : List AV) (hd : decode mi.2.1 pc = .ok (.invokestatic index, 3)) (h1 : aMs mi' n) (h2 : Cond.static mi'.1 ∈ lw_gd) (h3 : aLk mi.1.cls index mi'.1) (hn : av.length = n) (hr : (rest.map aC).sum ≤ 8) (hM : aNs av → CI E mi' k mem av (fun x m2 => VM E mi (k + 1) m2 (pc + 3) al (aI x :: rest) Q)) : VM E mi (k + 1) mem pc al (av.reverse ++ rest) Q := VG_rng fun _ hns _ _ => v_invS hd (hM (aNs_rs hns)) h1 h2 h3 hn ⟨Nat.le_refl _, Nat.le_refl _⟩ hr (fun r sh' m2 hq => by obtain ⟨rfl, x, rfl, h⟩ := hq; exact h)
theorem m_invL {E : EN} {mi mi' : MI} {k n index : Nat} {mem : Mm} {pc : Nat} {al : List (Nat × AV)} {rest : List AV} {Q : PQ} (av : List AV) {a : Int} {ci N : Nat} {T : u_T} (hd : decode mi.2.1 pc = .ok (.invokevirtual index, 3)) (hs : aSh SH a ci N) (hci : ci < 13) (hcl : vwCl[ci]? = some (mi'.1.cls, T, N)) (h1 : aMs mi' n) (h2 : aMv mi') (h3 : aLk mi.1.cls index mi'.1) (hn : av.length = n) (hr : (rest.map aC).sum ≤ 8) (hM : aNs (aR a :: av) → CL E mi' k mem (aR a :: av) (fun x m2 => VM E mi (k + 1) m2 (pc + 3) al (aL x :: rest) Q)) : VM E mi (k + 1) mem pc al (av.reverse ++ aR a :: rest) Q := VG_rng fun _ hns _ _ => v_invV hd (hM (aNs_rv hns)) hs hci hcl h1 h2 h3 hn ⟨Nat.le_refl _, Nat.le_refl _⟩ hr (fun r sh' m2 hq => by obtain ⟨rfl, x, rfl, h⟩ := hq; exact h)
theorem m_invSL {E : EN} {mi mi' : MI} {k n index : Nat} {mem : Mm} {pc : Nat} {al : List (Nat × AV)} {rest : List AV} {Q : PQ} (av : List AV) (hd : decode mi.2.1 pc = .ok (.invokestatic index, 3)) (h1 : aMs mi' n) (h2 : Cond.static mi'.1 ∈ lw_gd) (h3 : aLk mi.1.cls index mi'.1) (hn : av.length = n) (hr : (rest.map aC).sum ≤ 8) (hM : aNs av → CL E mi' k mem av (fun x m2 => VM E mi (k + 1) m2 (pc + 3) al (aL x :: rest) Q)) : VM E mi (k + 1) mem pc al (av.reverse ++ rest) Q := VG_rng fun _ hns _ _ => v_invS hd (hM (aNs_rs hns)) h1 h2 h3 hn ⟨Nat.le_refl _, Nat.le_refl _⟩ hr (fun r sh' m2 hq => by obtain ⟨rfl, x, rfl, h⟩ := hq; exact h)
theorem m_invR {E : EN} {mi mi' : MI} {k n index : Nat} {mem : Mm} {pc : Nat} {al : List (Nat × AV)} {rest : List AV} {Q : PQ} (av : List AV) {a : Int} {ci N : Nat} {T : u_T} (hd : decode mi.2.1 pc = .ok (.invokevirtual index, 3)) (hs : aSh SH a ci N) (hci : ci < 13) (hcl : vwCl[ci]? = some (mi'.1.cls, T, N)) (h1 : aMs mi' n) (h2 : aMv mi') (h3 : aLk mi.1.cls index mi'.1) (hn : av.length = n) (hr : (rest.map aC).sum ≤ 8) (hM : aNs (aR a :: av) → CR E mi' k mem (aR a :: av) (fun x m2 => VM E mi (k + 1) m2 (pc + 3) al (aR x :: rest) Q)) : VM E mi (k + 1) mem pc al (av.reverse ++ aR a :: rest) Q := VG_rng fun _ hns _ _ => v_invV hd (hM (aNs_rv hns)) hs hci hcl h1 h2 h3 hn ⟨Nat.le_refl _, Nat.le_refl _⟩ hr (fun r sh' m2 hq => by obtain ⟨rfl, x, rfl, h⟩ := hq; exact h)
theorem m_invSR {E : EN} {mi mi' : MI} {k n index : Nat} {mem : Mm} {pc : Nat} {al : List (Nat × AV)} {rest : List AV} {Q : PQ} (av : List AV) (hd : decode mi.2.1 pc = .ok (.invokestatic index, 3)) (h1 : aMs mi' n) (h2 : Cond.static mi'.1 ∈ lw_gd) (h3 : aLk mi.1.cls index mi'.1) (hn : av.length = n) (hr : (rest.map aC).sum ≤ 8) (hM : aNs av → CR E mi' k mem av (fun x m2 => VM E mi (k + 1) m2 (pc + 3) al (aR x :: rest) Q)) : VM E mi (k + 1) mem pc al (av.reverse ++ rest) Q := VG_rng fun _ hns _ _ => v_invS hd (hM (aNs_rs hns)) h1 h2 h3 hn ⟨Nat.le_refl _, Nat.le_refl _⟩ hr (fun r sh' m2 hq => by obtain ⟨rfl, x, rfl, h⟩ := hq; exact h)
theorem m_invV {E : EN} {mi mi' : MI} {k n index : Nat} {mem : Mm} {pc : Nat} {al : List (Nat × AV)} {rest : List AV} {Q : PQ} (av : List AV) {a : Int} {ci N : Nat} {T : u_T} (hd : decode mi.2.1 pc = .ok (.invokevirtual index, 3)) (hs : aSh SH a ci N) (hci : ci < 13) (hcl : vwCl[ci]? = some (mi'.1.cls, T, N)) (h1 : aMs mi' n) (h2 : aMv mi') (h3 : aLk mi.1.cls index mi'.1) (hn : av.length = n) (hr : (rest.map aC).sum ≤ 8) (hM : aNs (aR a :: av) → CV E mi' k mem (aR a :: av) (fun m2 => VM E mi (k + 1) m2 (pc + 3) al rest Q)) : VM E mi (k + 1) mem pc al (av.reverse ++ aR a :: rest) Q := VG_rng fun _ hns _ _ => v_invV hd (hM (aNs_rv hns)) hs hci hcl h1 h2 h3 hn ⟨Nat.le_refl _, Nat.le_refl _⟩ hr (fun r sh' m2 hq => by obtain ⟨rfl, rfl, h⟩ := hq; exact h)
theorem m_invSV {E : EN} {mi mi' : MI} {k n index : Nat} {mem : Mm} {pc : Nat} {al : List (Nat × AV)} {rest : List AV} {Q : PQ} (av : List AV) (hd : decode mi.2.1 pc = .ok (.invokestatic index, 3)) (h1 : aMs mi' n) (h2 : Cond.static mi'.1 ∈ lw_gd) (h3 : aLk mi.1.cls index mi'.1) (hn : av.length = n) (hr : (rest.map aC).sum ≤ 8) (hM : aNs av → CV E mi' k mem av (fun m2 => VM E mi (k + 1) m2 (pc + 3) al rest Q)) : VM E mi (k + 1) mem pc al (av.reverse ++ rest) Q := VG_rng fun _ hns _ _ => v_invS hd (hM (aNs_rs hns)) h1 h2 h3 hn ⟨Nat.le_refl _, Nat.le_refl _⟩ hr (fun r sh' m2 hq => by obtain ⟨rfl, rfl, h⟩ := hq; exact h)
def aCp (mem : Mm) (src dst n : Int) : Mm := fun b j => if b = dst ∧ 0 ≤ j ∧ j < n then mem src j else mem b j
theorem aCp_ne {mem : Mm} {src dst n b : Int} (h : b ≠ dst) : aCp mem src dst n b = mem b := funext fun j => if_neg fun q => h q.1
theorem aCp_rn {mem : Mm} {a d n b j : Int} (h : b ≠ d) : aCp mem a d n b j = mem b j := if_neg fun q => h q.1
theorem aWd_cp {E : EN} {sh : Sp} {mem : Mm} {H1 : Heap} {H : Heap} {j1 j2 n1 n2 : Nat} {n : Int} (hW : aWd E sh mem H) (hs1 : sh[j1]? = some (13, n1)) (hs2 : sh[j2]? = some (13, n2)) (hP : va_P (E.2.1, E.2.2.1) vwCl (aWl E sh (aCp mem j1 j2 n)) H1) : aWd E sh (aCp mem j1 j2 n) H1 := by
  refine ⟨hP, ?_, ?_⟩
  · intro j k m i h
    unfold aCp
    split
    · rename_i q
      have q1 : j = j2 := by omega
      subst q1
      rw [hs2] at h
      cases h
      exact hW.2.1 j1 13 n1 i hs1
    · exact hW.2.1 j k m i h
  · intro hp j k m i v h hf
    unfold aCp
    split
    · rename_i q
      have q1 : j = j2 := by omega
      subst q1
      rw [hs2] at h
      cases h
      cases hf
    · exact hW.2.2 hp j k m i v h hf
theorem m_copy {E : EN} {mi : MI} {k : Nat} {mem : Mm} {pc : Nat} {al : List (Nat × AV)} {st : List AV} {Q : PQ} {a b n : Int} {n1 n2 index : Nat} (hd : decode mi.2.1 pc = .ok (.invokestatic index, 3)) (hlk : Cond.methodLink mi.1.cls index arraycopyName ∈ lw_gd) (hnat : Cond.native arraycopyName ∈ lw_gd) (hst : Cond.static arraycopyName ∈ lw_gd) (hin : Cond.initialized "java/lang/System" ∈ lw_gd) (hs1 : aSh SH a 13 n1) (hs2 : aSh SH b 13 n2) (h0 : 0 ≤ n) (hn1 : n ≤ n1) (hn2 : n ≤ n2) (hr : (st.map aC).sum ≤ 8) (h : VM E mi (k + 1) (aCp mem a b n) (pc + 3) al st Q) : VM E mi (k + 1) mem pc al (aI n :: aI 0 :: aR b :: aI 0 :: aR a :: st) Q := by
  obtain ⟨j1, rfl, hj1⟩ := hs1
  obtain ⟨j2, rfl, hj2⟩ := hs2
  intro p e s m args below meth c H locs ls hx hc hW hS hl hna hns
  have he1 := aWl_get (E := E) (mem := mem) hj1
  have he2 := aWl_get (E := E) (mem := mem) hj2
  rw [aEn13] at he1 he2
  have hts := hc.2.2.2.2.1
  have hnr := aNs_I hns
  have e1 : (Int32.ofInt n).toNatClampNeg = n.toNat := Int32.toNatClampNeg_ofInt_of_le hnr.1 hnr.2
  have e0 : (Int32.ofInt 0).toNatClampNeg = 0 := by decide
  have hrl : ((aSt (eB E) st).map fun v => v.category).sum ≤ 8 := aSt_sum hr
  show W p E.1 e (aRm (k + 1) 0 0) s m args below meth c H locs 0 0 _ (F0 m pc ls (.int (Int32.ofInt n) :: .int (Int32.ofInt 0) :: aV (eB E) (aR (j2 : Int)) :: .int (Int32.ofInt 0) :: aV (eB E) (aR (j1 : Int)) :: aSt (eB E) st))
  rw [aV_ref, aV_ref]
  have h9 : nativeFrameWords "java/lang/System" "arraycopy" 5 + 11 ≤ 56 := by decide +kernel
  have hf : 1 ≤ (aRm (k + 1) 0 0).frames := by show 1 ≤ k + 1; omega
  have hlo : ((aSt (eB E) st).map fun v => v.category).sum + (nativeFrameWords "java/lang/System" "arraycopy" 5 + 11) ≤ (aRm (k + 1) 0 0).locals := by
    show _ ≤ 64 * (k + 1)
    omega
  have hz0 : ¬ (Int32.ofInt 0 : Int32) < 0 := by decide
  have hzn : ¬ Int32.ofInt n < 0 := fun q => by
    have := (i32_lt hnr r32_0).1 q
    omega
  have b1 : (Int32.ofInt 0).toNatClampNeg + (Int32.ofInt n).toNatClampNeg ≤ n1 := by rw [e0, e1]; omega
  have b2 : (Int32.ofInt 0).toNatClampNeg + (Int32.ofInt n).toNatClampNeg ≤ n2 := by rw [e0, e1]; omega
  refine va_copyi (D := (E.2.1, E.2.2.1)) (ty := .int) hx hc.1 (hc.2.2.1.trans hl.1.symm) hc.2.2.2.1 (hts _ hlk) (hts _ hnat) (hts _ hst) (hts _ hin) hc.2.2.2.2.2.2.2.1 hW.1 (aWl_D E SH mem) hS.1 j1 j2 0 0 he1 he2 rfl rfl rfl hz0 hz0 hzn b1 b2 (fun i _ => rfl) hf hlo hd fun H1 locs1 hP1 hD1 hS1 => ?_
  have e9 : (aWl E SH mem).set j2 (eB E + j2, .inl (E.2.2.2.1 0, n2, .inl (va_cpy (fun j : Nat => Int32.ofInt (mem j1 j)) (fun j : Nat => Int32.ofInt (mem j2 j)) (Int32.ofInt 0).toNatClampNeg (Int32.ofInt 0).toNatClampNeg (Int32.ofInt n).toNatClampNeg))) = aWl E SH (aCp mem j1 j2 n) := by
    have e8 : va_cpy (fun j : Nat => Int32.ofInt (mem j1 j)) (fun j : Nat => Int32.ofInt (mem j2 j)) 0 0 n.toNat = fun j : Nat => Int32.ofInt (aCp mem j1 j2 n j2 j) := by
      funext j
      unfold va_cpy aCp
      by_cases q : j < n.toNat
      · rw [if_pos (by omega), if_pos (by omega), show 0 + (j - 0) = j by omega]
      · rw [if_neg (by omega), if_neg (by omega)]
    rw [← aWl_set (mem' := aCp mem j1 j2 n) hj2 (fun i2 h2 => aCp_ne (by omega)), aEn13, e0, e1, e8]
  rw [e9] at hP1
  exact h p e s m args below meth c H1 locs1 ls hx hc (aWd_cp hW hj1 hj2 hP1) ⟨hS1, hS.2⟩ hl hna (aNs_t (aNs_t (aNs_t (aNs_t (aNs_t hns)))))
theorem yd0 {y : Int} (h : isYd y) : aSh SH y 10 13 := by
  have := yd_at h 0 (k := 10) (n := 13) rfl
  rwa [show y + (((0 : Fin 10).1 : Nat) : Int) = y from Int.add_zero y] at this
theorem yd1 {y : Int} (h : isYd y) : aSh SH (y + 1) 13 32 := yd_at h ⟨1, by decide⟩ rfl
theorem yd2 {y : Int} (h : isYd y) : aSh SH (y + 2) 13 32 := yd_at h ⟨2, by decide⟩ rfl
theorem yd3 {y : Int} (h : isYd y) : aSh SH (y + 3) 13 32 := yd_at h ⟨3, by decide⟩ rfl
theorem yd4 {y : Int} (h : isYd y) : aSh SH (y + 4) 13 10 := yd_at h ⟨4, by decide⟩ rfl
theorem yd5 {y : Int} (h : isYd y) : aSh SH (y + 5) 13 10 := yd_at h ⟨5, by decide⟩ rfl
theorem yd6 {y : Int} (h : isYd y) : aSh SH (y + 6) 13 10 := yd_at h ⟨6, by decide⟩ rfl
theorem yd7 {y : Int} (h : isYd y) : aSh SH (y + 7) 13 10 := yd_at h ⟨7, by decide⟩ rfl
theorem yd8 {y : Int} (h : isYd y) : aSh SH (y + 8) 13 4 := yd_at h ⟨8, by decide⟩ rfl
theorem yd9 {y : Int} (h : isYd y) : aSh SH (y + 9) 13 10 := yd_at h ⟨9, by decide⟩ rfl
theorem tx0 {y : Int} (h : isTx y) : aSh SH y 9 10 := by
  have := tx_at h 0 (k := 9) (n := 10) rfl
  rwa [show y + (((0 : Fin 9).1 : Nat) : Int) = y from Int.add_zero y] at this
theorem tx1 {y : Int} (h : isTx y) : aSh SH (y + 1) 13 12 := tx_at h ⟨1, by decide⟩ rfl
theorem tx2 {y : Int} (h : isTx y) : aSh SH (y + 2) 13 12 := tx_at h ⟨2, by decide⟩ rfl
theorem tx3 {y : Int} (h : isTx y) : aSh SH (y + 3) 13 12 := tx_at h ⟨3, by decide⟩ rfl
theorem tx4 {y : Int} (h : isTx y) : aSh SH (y + 4) 13 12 := tx_at h ⟨4, by decide⟩ rfl
theorem tx5 {y : Int} (h : isTx y) : aSh SH (y + 5) 13 12 := tx_at h ⟨5, by decide⟩ rfl
theorem tx6 {y : Int} (h : isTx y) : aSh SH (y + 6) 13 400 := tx_at h ⟨6, by decide⟩ rfl
theorem tx7 {y : Int} (h : isTx y) : aSh SH (y + 7) 13 400 := tx_at h ⟨7, by decide⟩ rfl
theorem tx8 {y : Int} (h : isTx y) : aSh SH (y + 8) 14 40 := tx_at h ⟨8, by decide⟩ rfl
theorem fd0 {y : Int} (h : isFd y) : aSh SH (y) 1 4 := by
  rcases h with rfl | rfl | rfl
  · exact ⟨349, by omega, by decide +kernel⟩
  · exact ⟨421, by omega, by decide +kernel⟩
  · exact ⟨492, by omega, by decide +kernel⟩
theorem fd1 {y : Int} (h : isFd y) : aSh SH (y + 1) 13 8 := by
  rcases h with rfl | rfl | rfl
  · exact ⟨350, by omega, by decide +kernel⟩
  · exact ⟨422, by omega, by decide +kernel⟩
  · exact ⟨493, by omega, by decide +kernel⟩
theorem fd2 {y : Int} (h : isFd y) : aSh SH (y + 2) 13 8 := by
  rcases h with rfl | rfl | rfl
  · exact ⟨351, by omega, by decide +kernel⟩
  · exact ⟨423, by omega, by decide +kernel⟩
  · exact ⟨494, by omega, by decide +kernel⟩
theorem fd3 {y : Int} (h : isFd y) : aSh SH (y + 3) 13 8 := by
  rcases h with rfl | rfl | rfl
  · exact ⟨352, by omega, by decide +kernel⟩
  · exact ⟨424, by omega, by decide +kernel⟩
  · exact ⟨495, by omega, by decide +kernel⟩
theorem lw0 {y : Int} (h : isLw y) : aSh SH (y) 3 3 := by
  rcases h with rfl | rfl | rfl
  · exact ⟨353, by omega, by decide +kernel⟩
  · exact ⟨425, by omega, by decide +kernel⟩
  · exact ⟨496, by omega, by decide +kernel⟩
theorem lw1 {y : Int} (h : isLw y) : aSh SH (y + 1) 17 6 := by
  rcases h with rfl | rfl | rfl
  · exact ⟨354, by omega, by decide +kernel⟩
  · exact ⟨426, by omega, by decide +kernel⟩
  · exact ⟨497, by omega, by decide +kernel⟩
theorem pt0 {y : Int} (h : isPt y) : aSh SH (y) 6 3 := by
  rcases h with rfl | rfl
  · exact ⟨12, by omega, by decide +kernel⟩
  · exact ⟨185, by omega, by decide +kernel⟩
theorem pt1 {y : Int} (h : isPt y) : aSh SH (y + 1) 18 16 := by
  rcases h with rfl | rfl
  · exact ⟨13, by omega, by decide +kernel⟩
  · exact ⟨186, by omega, by decide +kernel⟩
theorem pt2 {y : Int} (h : isPt y) : aSh SH (y + 2) 13 16 := by
  rcases h with rfl | rfl
  · exact ⟨14, by omega, by decide +kernel⟩
  · exact ⟨187, by omega, by decide +kernel⟩
theorem im0 {y : Int} (h : isIm y) : aSh SH (y) 2 4 := by
  rcases h with rfl | rfl
  · exact ⟨410, by omega, by decide +kernel⟩
  · exact ⟨481, by omega, by decide +kernel⟩
theorem im_o0 {y : Int} (h : isIm y) : isYd (y + 1) := by unfold isIm at h; unfold isYd; omega
theorem im_o1 {y : Int} (h : isIm y) : isFd (y + 11) := by unfold isIm at h; unfold isFd; omega
theorem im_o2 {y : Int} (h : isIm y) : isLw (y + 15) := by unfold isIm at h; unfold isLw; omega
theorem at0 : aSh SH 0 11 14 := ⟨0, rfl, by decide +kernel⟩
theorem at1 : aSh SH 1 8 10 := ⟨1, rfl, by decide +kernel⟩
theorem at348 : aSh SH 348 13 78 := ⟨348, rfl, by decide +kernel⟩
theorem at409 : aSh SH 409 16 2 := ⟨409, rfl, by decide +kernel⟩
theorem at552 : aSh SH 552 5 9 := ⟨552, rfl, by decide +kernel⟩
theorem at573 : aSh SH 573 13 8 := ⟨573, rfl, by decide +kernel⟩
theorem at574 : aSh SH 574 13 32 := ⟨574, rfl, by decide +kernel⟩
theorem at575 : aSh SH 575 14 41 := ⟨575, rfl, by decide +kernel⟩
theorem at576 : aSh SH 576 4 5 := ⟨576, rfl, by decide +kernel⟩
theorem at577 : aSh SH 577 13 10 := ⟨577, rfl, by decide +kernel⟩
theorem at578 : aSh SH 578 13 10 := ⟨578, rfl, by decide +kernel⟩
theorem at579 : aSh SH 579 13 10 := ⟨579, rfl, by decide +kernel⟩
theorem at580 : aSh SH 580 0 2 := ⟨580, rfl, by decide +kernel⟩
theorem at591 : aSh SH 591 7 11 := ⟨591, rfl, by decide +kernel⟩
theorem at592 : aSh SH 592 13 400 := ⟨592, rfl, by decide +kernel⟩
theorem at602 : aSh SH 602 13 7 := ⟨602, rfl, by decide +kernel⟩
theorem at603 : aSh SH 603 12 61 := ⟨603, rfl, by decide +kernel⟩
theorem at604 : aSh SH 604 13 7 := ⟨604, rfl, by decide +kernel⟩
theorem at605 : aSh SH 605 13 5570 := ⟨605, rfl, by decide +kernel⟩
theorem at606 : aSh SH 606 13 11140 := ⟨606, rfl, by decide +kernel⟩
theorem at607 : aSh SH 607 15 2 := ⟨607, rfl, by decide +kernel⟩
theorem at608 : aSh SH 608 13 1386 := ⟨608, rfl, by decide +kernel⟩
theorem at609 : aSh SH 609 13 16 := ⟨609, rfl, by decide +kernel⟩
theorem at610 : aSh SH 610 13 1232 := ⟨610, rfl, by decide +kernel⟩
theorem at611 : aSh SH 611 13 16 := ⟨611, rfl, by decide +kernel⟩
theorem at612 : aSh SH 612 13 400 := ⟨612, rfl, by decide +kernel⟩
theorem at613 : aSh SH 613 13 96 := ⟨613, rfl, by decide +kernel⟩
theorem at614 : aSh SH 614 13 400 := ⟨614, rfl, by decide +kernel⟩
theorem at615 : aSh SH 615 13 400 := ⟨615, rfl, by decide +kernel⟩
theorem at616 : aSh SH 616 13 400 := ⟨616, rfl, by decide +kernel⟩
theorem at617 : aSh SH 617 13 400 := ⟨617, rfl, by decide +kernel⟩
theorem at618 : aSh SH 618 14 10 := ⟨618, rfl, by decide +kernel⟩
theorem at619 : aSh SH 619 14 7 := ⟨619, rfl, by decide +kernel⟩
theorem at620 : aSh SH 620 14 4 := ⟨620, rfl, by decide +kernel⟩
theorem at621 : aSh SH 621 14 13 := ⟨621, rfl, by decide +kernel⟩
theorem at622 : aSh SH 622 14 13 := ⟨622, rfl, by decide +kernel⟩
theorem at623 : aSh SH 623 14 400 := ⟨623, rfl, by decide +kernel⟩
theorem at624 : aSh SH 624 13 10 := ⟨624, rfl, by decide +kernel⟩
theorem at625 : aSh SH 625 13 8 := ⟨625, rfl, by decide +kernel⟩
theorem at626 : aSh SH 626 14 42 := ⟨626, rfl, by decide +kernel⟩
theorem at627 : aSh SH 627 13 10 := ⟨627, rfl, by decide +kernel⟩
theorem at628 : aSh SH 628 13 11 := ⟨628, rfl, by decide +kernel⟩
theorem at629 : aSh SH 629 13 11 := ⟨629, rfl, by decide +kernel⟩
theorem at630 : aSh SH 630 13 11 := ⟨630, rfl, by decide +kernel⟩
theorem at631 : aSh SH 631 15 100 := ⟨631, rfl, by decide +kernel⟩
theorem at632 : aSh SH 632 13 32 := ⟨632, rfl, by decide +kernel⟩
theorem at633 : aSh SH 633 14 4 := ⟨633, rfl, by decide +kernel⟩
theorem at634 : aSh SH 634 13 96 := ⟨634, rfl, by decide +kernel⟩
theorem at635 : aSh SH 635 13 30 := ⟨635, rfl, by decide +kernel⟩
