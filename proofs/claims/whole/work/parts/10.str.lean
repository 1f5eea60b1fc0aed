-- texts that stand from before: their addresses, what is known of them
def strTab : List (String × Nat × String) := [("YardYear$Reader", 71, "bury buy raise pass"), ("YardYear$Reader", 73, "moves digs goes bars"), ("YardYear$Reader", 94, "if"), ("YardYear$Reader", 112, "at"), ("YardYear$Reader", 117, "times"), ("YardYear$Reader", 133, "and"), ("YardYear$Reader", 135, "or"), ("YardYear$Reader", 137, "not"), ("YardYear$Reader", 139, "<>="), ("YardYear$Reader", 147, "*/%"), ("YardYear$Reader", 149, "+-"), ("YardYear$Reader", 151, "year plots done moved at kind bought"), ("YardYear$Reader", 153, "plot cell kind price bought family small years year mood")]
def strL : List Nat := strTab.map fun t => t.2.2.length
def strBy : List (List Int32) := strTab.map fun t => t.2.2.toList.map fun c => Int32.ofNat c.toNat
abbrev strK (E : EN) (i : Nat) : Nat := E.2.2.2.1 (100 + i)
abbrev strV (E : EN) (i : Nat) : Nat := E.2.2.2.1 (200 + i)
def strA (E : EN) (i : Nat) : Int := (strK E i : Int)
def strV2 (E : EN) (i : Nat) : Int := (strV E i : Int)
def aStr (E : EN) : Prop := ∀ s : State, eX E s → (∀ (i : Nat) (own : String) (k : Nat) (tx : String), strTab[i]? = some (own, k, tx) → vk_R own k tx (strK E i) s) ∧ vk_S 13 strL strBy (strK E) (strV E) (fun q => eB E ≤ q) s s.heap ∧ va_Z "java/lang/String" "COMPACT_STRINGS" "Z" (.int 1) (fun q => eB E ≤ q) s s.heap ∧ va_Zq "jdk/internal/util/Preconditions" "SIOOBE_FORMATTER" "Ljava/util/function/BiFunction;" (fun q => eB E ≤ q) s s.heap
def isSt (E : EN) (a : Int) : Prop := ∃ i : Nat, i < 13 ∧ a = strA E i
theorem m_ldcS {E : EN} {mi : MI} {k : Nat} {mem : Mm} {pc : Nat} {al : List (Nat × AV)} {st : List AV} {Q : PQ} {i index : Nat} {tx : String} (hSt : aStr E) (hd : decode mi.2.1 pc = .ok (.ldc index, 2)) (_hi : i < 13) (ht : strTab[i]? = some (mi.1.cls, index, tx)) (h : VM E mi k mem (pc + 2) al (aF (strA E i) :: st) Q) : VM E mi k mem pc al st Q := by
  intro p e s m args below meth c H locs ls hx hc hW hS hl hna hns
  have h1 := (hSt s hc.2.2.2.2.2.2.2.2.2.2).1 i _ _ _ ht
  refine va_ldcS hx hc.1 hc.2.2.2.1 h1 hd ?_
  have h2 := h p e s m args below meth c H locs ls hx hc hW hS hl hna (aNs_c (aNr_F _) hns)
  rw [show aSt (eB E) (aF (strA E i) :: st) = .ref (strK E i) :: aSt (eB E) st from by
    show Value.ref ((strK E i : Int).toNat) :: _ = _
    rw [Int.toNat_natCast]] at h2
  exact h2
theorem v_invVF {E : EN} {mi mi' : MI} {k C S C' S' n index : Nat} {sh : Sp} {mem : Mm} {cs : Nat × Nat} {pc : Nat} {al : List (Nat × AV)} {rest av : List AV} {Q Q' : PQ} {a : Int} (hSt : aStr E) (hs : isSt E a) (hd : decode mi.2.1 pc = .ok (.invokevirtual index, 3)) (hM : CG E mi' k C' S' sh mem (aF a :: av) Q') (hcl : mi'.1.cls = "java/lang/String") (h1 : aMs mi' n) (h2 : aMv mi') (h3 : aLk mi.1.cls index mi'.1) (hn : av.length = n) (hf : cs.1 + C' ≤ C ∧ cs.2 + S' ≤ S) (hr : (rest.map aC).sum ≤ 8)
    (kk : ∀ (r : Option AV) (sh' : Sp) (mem' : Mm), Q' r sh' mem' → VG E mi (k + 1) C S sh' mem' (cs.1 + C', cs.2 + S') (pc + 3) al (r.toList ++ rest) Q) : VG E mi (k + 1) C S sh mem cs pc al (av.reverse ++ aF a :: rest) Q := by
  refine VG_call (mi' := mi') (n := n) (index := index) (av := aF a :: av) (rest := rest) (C' := C') (S' := S') ?_ (fun x hx => List.mem_append_right _ (List.mem_cons_of_mem _ hx)) kk
  intro p e s m args below meth c H locs ls hx hc hW hS hzz hl
  obtain ⟨i, hi, rfl⟩ := hs
  have hts := hc.2.2.2.2.1
  have e0 : aV (eB E) (aF (strA E i)) = .ref (strK E i) := by
    show Value.ref ((strK E i : Int).toNat) = _
    rw [Int.toNat_natCast]
  have e1 : aSt (eB E) (av.reverse ++ aF (strA E i) :: rest) = (aSt (eB E) av).reverse ++ .ref (strK E i) :: aSt (eB E) rest := by
    rw [aSt_rev]
    show _ ++ aV (eB E) (aF (strA E i)) :: _ = _
    rw [e0]
  have e2 : aSt (eB E) (aF (strA E i) :: av) = .ref (strK E i) :: aSt (eB E) av := by
    show aV (eB E) (aF (strA E i)) :: _ = _
    rw [e0]
  rw [e1, e2]
  have hM' := hM
  unfold CG at hM'
  rw [e2] at hM'
  have hrc := vk_recv (hSt s hc.2.2.2.2.2.2.2.2.2.2).2.1 hi hS.1
  have hp : PreV s H mi'.1.cls (strK E i) (va_Pc (.ref (strK E i) :: aSt (eB E) av) (fun U => aWd E sh mem U.heap ∧ aIn E U ∧ U.heap.size = eB E + sh.length)) (aSt (eB E) av) := by
    refine ⟨?_, by rw [hcl]; exact hrc, fun U hU hWm => ⟨rfl, by rw [hU]; exact hW, hc.2.2.2.2.2.2.2.call hS.1 hU hWm, by rw [hU]; exact hzz⟩⟩
    rw [← e2]
    exact CG_blind
  have hR : (aRm k C' S').frames + 1 ≤ (aRm (k + 1) C S).frames ∧ 8 + (mi'.2.2.1 + 11) + (aRm k C' S').locals ≤ (aRm (k + 1) C S).locals := by
    have := h1.2.2.2
    exact ⟨Nat.le_refl _, by show 8 + (mi'.2.2.1 + 11) + 64 * k ≤ 64 * (k + 1); omega⟩
  rcases h3 with q | ⟨host, q⟩
  · exact va_runV ⟨hx, hc.1, hc.2.2.1, hc.2.2.2.1, hts⟩ hM' ⟨callB_of n hts (good_ws h1) rfl rfl rfl (hts _ h1.2.1) (hts _ q) h1.2.2.1 hR, hts _ h2.1, hts _ h2.2⟩ hp rfl (by rw [List.length_map]; exact hn) hl.1 rfl (lv_room (rest := []) (pc := 0) (m := m) (ls := ls) (aSt_sum hr)) hd hf
  · exact va_runVN ⟨hx, hc.1, hc.2.2.1, hc.2.2.2.1, hts⟩ hM' ⟨va_cnB n hts (good_ws h1) rfl rfl rfl (hc.2.2.2.2.2.2.2.2.1 _ q rfl) (hts _ h1.2.1) h1.2.2.1 hR, hts _ h2.1, hts _ h2.2⟩ hp rfl (by rw [List.length_map]; exact hn) hl.1 rfl (lv_room (rest := []) (pc := 0) (m := m) (ls := ls) (aSt_sum hr)) hd hf
theorem m_invFI {E : EN} {mi mi' : MI} {k n index : Nat} {mem : Mm} {pc : Nat} {al : List (Nat × AV)} {rest : List AV} {Q : PQ} (av : List AV) {a : Int} (hSt : aStr E) (hs : isSt E a) (hd : decode mi.2.1 pc = .ok (.invokevirtual index, 3)) (hcl : mi'.1.cls = "java/lang/String") (h1 : aMs mi' n) (h2 : aMv mi') (h3 : aLk mi.1.cls index mi'.1) (hn : av.length = n) (hr : (rest.map aC).sum ≤ 8) (hM : aNs (aF a :: av) → CI E mi' k mem (aF a :: av) (fun x m2 => VM E mi (k + 1) m2 (pc + 3) al (aI x :: rest) Q)) : VM E mi (k + 1) mem pc al (av.reverse ++ aF a :: rest) Q := VG_rng fun _ hns _ _ => v_invVF hSt hs hd (hM (aNs_rv hns)) hcl h1 h2 h3 hn ⟨Nat.le_refl _, Nat.le_refl _⟩ hr (fun r sh' m2 hq => by obtain ⟨rfl, x, rfl, h⟩ := hq; exact h)
