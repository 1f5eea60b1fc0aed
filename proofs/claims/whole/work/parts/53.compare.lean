-- compare; yearIn, arrives. movedBy's walk once more, for a law that may be none
theorem rjX5_movedBy_0 {E : EN} (hE : Ep E) {k : Nat} {mem : Mm} {Q : Int → Mm → Prop} {p0 p1 p2 : Int} (hp0 : isYd p0)
    (h : (CV E mX5_begin k mem [aR 552, aR p0] (fun m1 => VM E mX5_movedBy (k + 1) (aUp m1 553 9 p1) 19 [(0, aR 552), (3, aI p2), (4, aI 0), (5, aI 0)] [] (retI Q)))) :
    VM E mX5_movedBy (k + 1) mem 0 [(0, aR 552), (1, aR p0), (2, aR p1), (3, aI p2)] [] (retI Q) := by
  refine v_aload_n (pc := 0) dX5_movedBy_0 0 rfl ?_
  refine v_aload_n (pc := 1) dX5_movedBy_1 1 rfl ?_
  refine m_invV (pc := 2) (mi' := mX5_begin) (rest := []) [aR p0] dX5_movedBy_2 at552 (by decide) rfl msX5_begin mvX5_begin lkX5_40 rfl (Nat.le_of_ble_eq_true rfl) (fun hn => CV_mono (h) (fun m1 h => ?_))
  refine v_aload_n (pc := 5) dX5_movedBy_5 0 rfl ?_
  refine m_getfin (pc := 6) (v := 553) hE dX5_movedBy_6 flX5_12 rfl at552 rfl ?_
  refine v_aload_n (pc := 9) dX5_movedBy_9 2 rfl ?_
  refine v_putf (pc := 10) dX5_movedBy_10 flX5_36 ⟨_, _, rfl, Or.inl rfl⟩ rfl (by decide) (fun q => nomatch q) (Or.inl fun _ => rfl) (yd0 (show isYd 553 by unfold isYd; omega)) ?_
  refine v_iconst (pc := 13) dX5_movedBy_13 (by decide) ?_
  refine v_istore (pc := 14) (al2 := [(4, aI 0), (0, aR 552), (1, aR p0), (2, aR p1), (3, aI p2)]) dX5_movedBy_14 (by decide) rfl ?_
  refine v_iconst (pc := 16) dX5_movedBy_16 (by decide) ?_
  refine v_istore (pc := 17) (al2 := [(5, aI 0), (4, aI 0), (0, aR 552), (1, aR p0), (2, aR p1), (3, aI p2)]) dX5_movedBy_17 (by decide) rfl ?_
  exact VG_sub (al' := [(0, aR 552), (3, aI p2), (4, aI 0), (5, aI 0)]) [2, 5, 1, 0] rfl h
set_option maxRecDepth 20000 in
theorem rjX5_movedBy_19 {E : EN} (hE : Ep E) {k : Nat} {mem : Mm} {Q : Int → Mm → Prop} {p0 p1 p2 x4 x5 : Int} (hp0 : isYd p0)
    (h : ((p2 ≤ x5 → Q x4 mem) ∧ (x5 < p2 → (CV E mX10_turnYear k mem [aR 553] (fun m1 => (R32 (x4 + (m1 553 11))) ∧ (R32 (x5 + 1)) ∧ VM E mX5_movedBy (k + 1) m1 19 [(0, aR 552), (3, aI p2), (4, aI (x4 + (m1 553 11))), (5, aI (x5 + 1))] [] (retI Q)))))) :
    VM E mX5_movedBy (k + 1) mem 19 [(0, aR 552), (3, aI p2), (4, aI x4), (5, aI x5)] [] (retI Q) := by
  refine v_iload (pc := 19) dX5_movedBy_19 3 rfl ?_
  refine v_iload_n (pc := 21) dX5_movedBy_21 1 rfl ?_
  refine v_icmpge (pc := 22) (tgt := 50) dX5_movedBy_22 (by decide) (fun c1 => ?_) (fun c1 => ?_)
  · have h := h.1 c1
    refine v_iload (pc := 50) dX5_movedBy_50 2 rfl ?_
    exact m_retI (pc := 52) dX5_movedBy_52 rfl h
  · have h := h.2 c1
    refine v_aload_n (pc := 25) dX5_movedBy_25 0 rfl ?_
    refine m_getfin (pc := 26) (v := 553) hE dX5_movedBy_26 flX5_12 rfl at552 rfl ?_
    refine m_invV (pc := 29) (mi' := mX10_turnYear) (rest := []) [] dX5_movedBy_29 (yd0 (show isYd 553 by unfold isYd; omega)) (by decide) rfl msX10_turnYear mvX10_turnYear lkX5_43 rfl (Nat.le_of_ble_eq_true rfl) (fun hn => CV_mono (h) (fun m1 h => ?_))
    refine v_iload (pc := 32) dX5_movedBy_32 2 rfl ?_
    refine v_aload_n (pc := 34) dX5_movedBy_34 0 rfl ?_
    refine m_getfin (pc := 35) (v := 553) hE dX5_movedBy_35 flX5_12 rfl at552 rfl ?_
    refine m_getf (pc := 38) (t := 0) (v := (m1 553 11)) dX5_movedBy_38 flX5_134 rfl (yd0 (show isYd 553 by unfold isYd; omega)) rfl ?_
    obtain ⟨o2, h⟩ := h
    refine m_iadd (pc := 41) dX5_movedBy_41 o2 ?_
    refine v_istore (pc := 42) (al2 := [(4, aI (x4 + (m1 553 11))), (0, aR 552), (3, aI p2), (5, aI x5)]) dX5_movedBy_42 (by decide) rfl ?_
    obtain ⟨o3, h⟩ := h
    refine m_iinc (pc := 44) (al2 := [(5, aI (x5 + 1)), (4, aI (x4 + (m1 553 11))), (0, aR 552), (3, aI p2)]) dX5_movedBy_44 3 rfl (by decide) o3 rfl ?_
    refine v_goto (pc := 47) (tgt := 19) dX5_movedBy_47 (by decide) ?_
    exact VG_sub (al' := [(0, aR 552), (3, aI p2), (4, aI (x4 + (m1 553 11))), (5, aI (x5 + 1))]) [2, 3, 1, 0] rfl h


/-- how many cells are moved in n years more, v so far -/
def rMs (L : LW) : Nat → Int → Rw → Int
  | 0, v, _ => v
  | n + 1, v, r => rMs L n (v + (rTn L r).2.1) (rTn L r).1
theorem s_cmp_l {E : EN} (hE : Ep E) {m0 : Mm} {Q : Int → Mm → Prop} {L : LW} {N : Int} : ∀ (n : Nat) (mem : Mm) (x v Y : Int) (r : Rw), pYd m0 mem L r → rOk Y r → Y + n ≤ 5000 → 0 ≤ x → x + n = N → N < 1000 → 0 ≤ v → v ≤ 1000 * x → (∀ m1, rEq m0 m1 → Q (rMs L n v r) m1) → VM E mX5_movedBy 1198 mem 19 [(0, aR 552), (3, aI N), (4, aI v), (5, aI x)] [] (retI Q) := by
  intro n
  induction n with
  | zero =>
    intro mem x v Y r hP hok hY h0 h1 hN v0 v1 hQ
    exact rjX5_movedBy_19 (k := 1197) (p0 := 2) (p1 := 0) hE isYd2 ⟨fun _ => hQ mem hP.1, fun c => absurd c (by omega)⟩
  | succ n ih =>
    intro mem x v Y r hP hok hY h0 h1 hN v0 v1 hQ
    have hm := rTn_mv (L := L) hok.2.1
    refine rjX5_movedBy_19 (k := 1197) (p0 := 2) (p1 := 0) hE isYd2 ⟨fun c => absurd c (by omega), fun _ => pYd_turn (k := 1193) hE hP (by omega) hok fun m2 a b _ => ?_⟩
    rw [b]
    exact ⟨⟨by omega, by omega⟩, ⟨by omega, by omega⟩, ih m2 (x + 1) _ (Y + 1) _ a (rTn_ok hok).1 (by omega) (by omega) (by omega) hN (by omega) (by omega) hQ⟩
theorem m_cmp_l {E : EN} (hE : Ep E) {m0 : Mm} {Q : Int → Mm → Prop} {L : LW} {N h : Int} : ∀ (n : Nat) (mem : Mm) (x v Y : Int) (r : Rw), pMd m0 mem L r → rOk Y r → Y + n ≤ 5000 → 0 ≤ x → x + n = N → N < 1000 → 0 ≤ v → v ≤ 1000 * x → (∀ m1, rEq m0 m1 → Q (rMs L n v r) (aUp m1 605 2 h)) → VM E mX12_compare 1199 mem 53 [(0, aR 603), (2, aI N), (3, aI h), (4, aI v), (5, aI x)] [] (retI Q) := by
  intro n
  induction n with
  | zero =>
    intro mem x v Y r hP hok hY h0 h1 hN v0 v1 hQ
    exact rX12_compare_53 (k := 1198) (p0 := 0) hE ⟨fun _ => m_putP hE hP.1 fun m2 a _ => hQ m2 a, fun c => absurd c (by omega)⟩
  | succ n ih =>
    intro mem x v Y r hP hok hY h0 h1 hN v0 v1 hQ
    have hm := rTn_mv (L := L) hok.2.1
    exact rX12_compare_53 (k := 1198) (p0 := 0) hE ⟨fun c => absurd c (by omega), fun _ => pMd_turn (k := 1191) hE hP (by omega) hok fun m2 a _ _ => ⟨⟨by omega, by omega⟩, ⟨by omega, by omega⟩, ih m2 (x + 1) _ (Y + 1) _ a (rTn_ok hok).1 (by omega) (by omega) (by omega) hN (by omega) (by omega) hQ⟩⟩
theorem s_lwHas {E : EN} (hE : Ep E) {k : Nat} {mem : Mm} {Q : Int → Mm → Prop} {p : Int} (hC : jC mem) (hp : R32 p) (h1 : 0 ≤ p → p < mem 605 1 → Q 1 mem) (h0 : p < 0 ∨ mem 605 1 ≤ p → Q 0 mem) : CI E mX3_has k mem [aR 353, aI p] Q := by
  obtain ⟨l1, l2, l3, -⟩ := hC.2.2.1.2.2.2
  exact eX3_has hp (rX3_has_0 hE (Or.inl rfl) ⟨fun c => h0 (Or.inl c), fun c => ⟨fun d => h0 (by omega), fun d => ⟨fun e => absurd e (by omega), fun _ => h1 c (by omega)⟩⟩⟩)
theorem s_lwNum {E : EN} (hE : Ep E) {k : Nat} {mem : Mm} {Q : Int → Mm → Prop} {p : Int} (hC : jC mem) (hp : R32 p) (h1 : 0 ≤ p → p < mem 605 1 → Q (355 + 9 * p) mem) (h0 : p < 0 ∨ mem 605 1 ≤ p → Q (-1) mem) : CR E mX3_numbered (k + 1) mem [aR 353, aI p] Q := by
  obtain ⟨l1, l2, l3, -⟩ := hC.2.2.1.2.2.2
  refine eX3_numbered hp (rX3_numbered_0 hE (Or.inl rfl) fun _ => s_lwHas hE hC hp (fun a b => ⟨fun c => absurd c (by decide), fun _ => ⟨⟨a, by omega⟩, ?_⟩⟩) (fun a => ⟨fun _ => h0 a, fun c => absurd rfl c⟩))
  have := h1 a b
  rw [show (353 : Int) + 1 + 1 + 9 * p = 355 + 9 * p by omega]
  exact this
theorem rOk_cg {Y : Int} {r r2 : Rw} (h : ∀ i, 3 ≤ i → i < 144 → r2 i = r i) (hok : rOk Y r) : rOk Y r2 := by
  obtain ⟨h1, h2, h3, h4, h5, h6, h7, h8, h9, h10, h11, h12, h13⟩ := hok
  refine ⟨by rw [h _ (by omega) (by omega)]; exact h1, by rw [h _ (by omega) (by omega)]; exact h2, fun q a b => ?_, fun q a b => ?_, by rw [h _ (by omega) (by omega)]; exact h5, by rw [h _ (by omega) (by omega)]; exact h6, by rw [h _ (by omega) (by omega)]; exact h7, by rw [h _ (by omega) (by omega)]; exact h8, by rw [h _ (by omega) (by omega)]; exact h9, by rw [h _ (by omega) (by omega)]; exact h10, by rw [h _ (by omega) (by omega)]; exact h11, by rw [h _ (by omega) (by omega)]; exact h12, fun q s a b d e f => ?_⟩
  · rw [h (8 + q) (by omega) (by omega), h (18 + q) (by omega) (by omega), h (28 + q) (by omega) (by omega), h (38 + q) (by omega) (by omega)]
    exact h3 q a b
  · rw [h (80 + q) (by omega) (by omega), h (112 + q) (by omega) (by omega), h (48 + q) (by omega) (by omega)]
    exact h4 q a b
  · rw [h 7 (by omega) (by omega)] at b e
    rw [h (8 + q) (by omega) (by omega), h (8 + s) (by omega) (by omega)] at f
    exact h13 q s a b d e f
theorem yR_cg {m : Mm} {y : Int} {r r2 : Rw} (h : ∀ i, 3 ≤ i → i < 144 → r2 i = r i) (hR : yR m y r) : yR m y r2 := by
  obtain ⟨a, b, c, d⟩ := hR
  refine ⟨by rw [h 7 (by omega) (by omega)]; exact a, fun i u v => ?_, fun i u v => ?_, fun i u v => ?_⟩
  · rw [h (80 + i) (by omega) (by omega), h (112 + i) (by omega) (by omega), h (48 + i) (by omega) (by omega)]; exact b i u v
  · rw [h (8 + i) (by omega) (by omega), h (18 + i) (by omega) (by omega), h (28 + i) (by omega) (by omega), h (38 + i) (by omega) (by omega)]; exact c i u v
  · rw [h (3 + i) (by omega) (by omega)]; exact d i u v
theorem m_isLaw {E : EN} (hE : Ep E) {k : Nat} {mem : Mm} {Q : Int → Mm → Prop} {p : Int} (hC : jC mem) (hp : R32 p) (h1 : -1 ≤ p → p < mem 605 1 → Q 1 mem) (h0 : p < -1 ∨ mem 605 1 ≤ p → Q 0 mem) : CI E mX12_isLaw (k + 1) mem [aR 603, aI p] Q := by
  obtain ⟨l1, l2, l3, -⟩ := hC.2.2.1.2.2.2
  exact eX12_isLaw hp (rX12_isLaw_0 hE ⟨fun c => h1 (by omega) (by omega), fun c => ⟨⟨by omega, by omega⟩, fun r r2 => s_in hE r (by decide) r2 (fun a b => ⟨fun q => absurd q (by decide), fun _ => h1 (by omega) (by omega)⟩) (fun a => ⟨fun _ => h0 (by omega), fun q => absurd rfl q⟩)⟩⟩)
/-- law p of those made, or none: both sides' telling -/
theorem lw_of {mem : Mm} (hC : jC mem) {p : Int} (h0 : -1 ≤ p) (h1 : p < mem 605 1) : ∃ L, (∀ m2 : Mm, m2 605 2 = p → (∀ i, 170 ≤ i → m2 605 i = mem 605 i) → mL m2 L) ∧ ((p = -1 ∧ L = noLW) ∨ (0 ≤ p ∧ ∃ D, TxS mem (355 + 9 * p) 10 D ∧ L = lsOf D)) := by
  obtain ⟨l1, l2, l3, l4, l5, l6, l7⟩ := hC.2.2.1.2.2.2
  by_cases c : p = -1
  · exact ⟨noLW, fun m2 e _ => Or.inl ⟨e.trans c, rfl⟩, Or.inl ⟨c, rfl⟩⟩
  · obtain ⟨D, d1, d2⟩ := l7 p (by omega) h1
    exact ⟨lsOf D, fun m2 e f => Or.inr ⟨by omega, by omega, D, by rw [e]; exact slotS_fr (fun i u => f i (by omega)) d2, rfl⟩, Or.inr ⟨by omega, D, d1, rfl⟩⟩
theorem st_compare {E : EN} (hE : Ep E) : stI E 1199 (iAll jC) mX11_compare mX12_compare 2 := by
  refine obs_pair fun mem av hl hr hC => ?_
  obtain ⟨p, n, rfl⟩ := two_arg hl
  have hp : R32 p := hr p List.mem_cons_self
  have hn : R32 n := hr n (List.mem_cons_of_mem _ List.mem_cons_self)
  have hF := hC.2.2.1
  obtain ⟨l1, l2, l3, l4, l5, l6, l7⟩ := hF.2.2.2
  by_cases hg : (-1 ≤ p ∧ p < mem 605 1) ∧ 1 ≤ n ∧ n ≤ 60
  · obtain ⟨⟨g1, g2⟩, g3, g4⟩ := hg
    obtain ⟨L, hLm, hLc⟩ := lw_of hC g1 g2
    have hokF : rOk 999 (rUp (mem 605) 2 p) := rOk_cg (fun i a b => rUp_n (by omega)) hF.1
    refine ⟨rMs L n.toNat 0 (rUp (mem 605) 2 p), fun Q hQ => ?_, fun m1 Q q1 hC1 hQ => ?_⟩
    · -- the class
      have mb : ∀ t : Int, ((p = -1 ∧ t = -1) ∨ (0 ≤ p ∧ t = 355 + 9 * p)) → CI E mX5_movedBy 1198 mem [aR 552, aR 2, aR t, aI n] Q := by
        intro t ht
        refine eX5_movedBy (k := 1197) hn (rjX5_movedBy_0 hE isYd2 ?_)
        obtain ⟨L0, hy0, -⟩ := jC_law hC
        refine s_begin (k := 1195) hE hF.2.1 hy0 fun m2 c cf => ?_
        refine s_cmp_l hE (m0 := mem) (L := L) n.toNat _ 0 0 999 (rUp (mem 605) 2 p) ⟨fun o i a => ?_, yR_fr (yR_cg (fun i a b => rUp_n (by omega)) c.2.1) (aUp_ri (by decide)) (fun o i a b => aUp_rn (by omega)), ?_⟩ hokF (by omega) (by omega) (by omega) (by omega) (by omega) (by omega) fun m3 d => hQ m3 d
        · rw [aUp_rn (fun z => a (by unfold scr; omega))]
          exact c.1 o i a
        · unfold yL
          rw [aUp_re]
          rcases ht with ⟨z1, z2⟩ | ⟨z1, z2⟩
          · rcases hLc with ⟨-, e⟩ | ⟨e, -⟩
            · exact Or.inl ⟨by omega, e⟩
            · omega
          · rcases hLc with ⟨e, -⟩ | ⟨e, D, e2, e3⟩
            · omega
            · rw [z2]
              refine Or.inr ⟨by unfold isTx; omega, D, TxS_fr (fun o i u v => ?_) e2, e3⟩
              rw [aUp_rn (by omega)]
              exact cf o i (by omega)
      have num : CR E mX3_numbered 1198 mem [aR 353, aI p] (fun r4 m3 => (R32 n → CI E mX5_movedBy 1198 m3 [aR 552, aR 2, aR r4, aI n] (fun r6 m5 => Q r6 m5))) :=
        s_lwNum (k := 1197) hE hC hp (fun a b _ => mb _ (Or.inr ⟨a, rfl⟩)) (fun a _ => mb _ (Or.inl ⟨by omega, rfl⟩))
      refine eX11_compare (k := 1198) hp hn (rX11_compare_0 hE ⟨fun c _ => s_isWithin hE hn (by decide) (by decide) (fun a b => ⟨fun _ _ => num, fun d => absurd d (by decide)⟩) (fun a => absurd a (by omega)), fun c _ => s_lwHas hE hC hp (fun a b => ⟨fun d => absurd d (by decide), fun _ _ => s_isWithin hE hn (by decide) (by decide) (fun a b => ⟨fun _ _ => num, fun d => absurd d (by decide)⟩) (fun a => absurd a (by omega))⟩) (fun a => absurd a (by omega))⟩)
    · have hC2 := jC_thr hC1
      have e : (aUp m1 603 0 0) 605 = mem 605 := (aUp_ne (by decide)).trans (rEq_605 q1)
      refine eX12_compare (k := 1198) hp hn (rX12_compare_0 hE fun _ => m_isLaw (k := 1197) hE hC2 hp (fun a b => ⟨fun d => absurd d (by decide), fun _ r => s_in hE r (by decide) (by decide) (fun a2 b2 => ⟨fun _ => ?_, fun d => absurd d (by decide)⟩) (fun a2 => absurd a2 (by omega))⟩) (fun a => absurd a (by rw [e]; omega)))
      have hL : mL (aUp (aUp m1 603 0 0) 605 2 p) L := hLm _ aUp_re fun i u => by rw [aUp_ri (by omega), e]
      refine pMd_keep hE (m0 := aUp (aUp m1 603 0 0) 605 2 p) rEq_rf hL ((aUp_rn (by decide)).trans (i20 hC2)) fun m2 c _ => ?_
      have e2 : (aUp (aUp m1 603 0 0) 605 2 p) 605 = rUp (mem 605) 2 p := by rw [aUp_rUp, e]
      rw [e2] at c
      refine m_cmp_l hE n.toNat m2 0 0 999 _ c hokF (by omega) (by omega) (by omega) (by omega) (by omega) (by omega) fun m3 d => hQ _ fun o i u => ?_
      rw [aUp_at]
      by_cases z : o = 605 ∧ i = 2
      · rw [if_pos z, z.1, z.2]
        exact aUp_rn (by decide)
      · rw [if_neg z, d o i u, aUp_at, if_neg z]
        exact rEq_thr o i u
  · refine ⟨-1, fun Q hQ => ?_, fun m1 Q q1 hC1 hQ => ?_⟩
    · have hQ := hQ mem rEq_rf
      refine eX11_compare (k := 1198) hp hn (rX11_compare_0 hE ⟨fun c _ => s_isWithin hE hn (by decide) (by decide) (fun a b => absurd hg (fun q => q ⟨⟨by omega, by omega⟩, a, b⟩)) (fun a => ⟨fun d => absurd rfl d, fun _ => hQ⟩), fun c _ => s_lwHas hE hC hp (fun a b => ⟨fun d => absurd d (by decide), fun _ _ => s_isWithin hE hn (by decide) (by decide) (fun a2 b2 => absurd hg (fun q => q ⟨⟨by omega, b⟩, a2, b2⟩)) (fun a => ⟨fun d => absurd rfl d, fun _ => hQ⟩)⟩) (fun a => ⟨fun _ => hQ, fun d => absurd rfl d⟩)⟩)
    · have hC2 := jC_thr hC1
      have e : (aUp m1 603 0 0) 605 = mem 605 := (aUp_ne (by decide)).trans (rEq_605 q1)
      have hQ := hQ _ rEq_thr
      refine eX12_compare (k := 1198) hp hn (rX12_compare_0 hE fun _ => m_isLaw (k := 1197) hE hC2 hp (fun a b => ⟨fun d => absurd d (by decide), fun _ r => s_in hE r (by decide) (by decide) (fun a2 b2 => absurd hg (fun q => q ⟨⟨a, by rw [e] at b; exact b⟩, a2, b2⟩)) (fun a2 => ⟨fun d => absurd rfl d, fun _ => hQ⟩)⟩) (fun a => ⟨fun _ => hQ, fun d => absurd rfl d⟩))
/-- the first year at whose end plot p lies in cell c, from x on, n years more; -1 -/
def rYi (L : LW) (p c : Int) : Nat → Int → Rw → Int
  | 0, x, r => if r (8 + p) = c then x else -1
  | n + 1, x, r => if r (8 + p) = c then x else rYi L p c n (x + 1) (rTn L r).1
theorem rYi_le {L : LW} {p c : Int} : ∀ (n : Nat) (x : Int) (r : Rw), rYi L p c n x r = -1 ∨ (x ≤ rYi L p c n x r ∧ rYi L p c n x r ≤ x + n) := by
  intro n
  induction n with
  | zero => intro x r; unfold rYi; split <;> omega
  | succ n ih =>
    intro x r
    unfold rYi
    split
    · omega
    · have := ih (x + 1) (rTn L r).1
      omega
theorem s_yi_l {E : EN} (hE : Ep E) {k : Nat} {m0 : Mm} {Q : Int → Mm → Prop} {L : LW} {p c N : Int} (hp : 0 ≤ p) (hp2 : p < 10) : ∀ (n : Nat) (mem : Mm) (x Y : Int) (r : Rw), pYd m0 mem L r → rOk Y r → Y + n ≤ 5000 → 0 ≤ x → x + n = N → N < 1000 → yFr 553 m0 mem → (∀ m1, rEq m0 m1 → yFr 553 m0 m1 → Q (rYi L p c n x r) m1) → VM E mX5_yearIn (k + 5) mem 3 [(0, aR 552), (1, aI p), (2, aI c), (3, aI N), (4, aI x)] [] (retI Q) := by
  intro n
  induction n with
  | zero =>
    intro mem x Y r hP hok hY h0 h1 hN hf hQ
    unfold rYi at hQ
    have e : mem 557 p = r (8 + p) := (hP.2.1.2.2.1 p hp hp2).1
    refine rX5_yearIn_3 (k := k + 4) hE ⟨fun d => absurd d (by omega), fun _ => ⟨⟨hp, hp2⟩, fun d => ⟨fun _ => ⟨⟨by omega, by omega⟩, ?_⟩, fun d => absurd d (by omega)⟩, fun d => ?_⟩⟩
    · rw [e] at d
      rw [if_neg d] at hQ
      exact rX5_yearIn_3 (k := k + 4) hE ⟨fun _ => hQ mem hP.1 hf, fun d => absurd d (by omega)⟩
    · rw [e] at d
      rw [if_pos d] at hQ
      exact hQ mem hP.1 hf
  | succ n ih =>
    intro mem x Y r hP hok hY h0 h1 hN hf hQ
    unfold rYi at hQ
    have e : mem 557 p = r (8 + p) := (hP.2.1.2.2.1 p hp hp2).1
    refine rX5_yearIn_3 (k := k + 4) hE ⟨fun d => absurd d (by omega), fun _ => ⟨⟨hp, hp2⟩, fun d => ⟨fun d => absurd d (by omega), fun _ => ?_⟩, fun d => ?_⟩⟩
    · rw [e] at d
      rw [if_neg d] at hQ
      exact pYd_turn (k := k) hE hP (by omega) hok fun m2 a _ b => ⟨⟨by omega, by omega⟩, ih m2 (x + 1) (Y + 1) _ a (rTn_ok hok).1 (by omega) (by omega) (by omega) hN (yFr_tr hf b) hQ⟩
    · rw [e] at d
      rw [if_pos d] at hQ
      exact hQ mem hP.1 hf
theorem s_yearIn {E : EN} (hE : Ep E) {k : Nat} {m0 mem : Mm} {Q : Int → Mm → Prop} {L : LW} {p c n Y : Int} {r : Rw} (hp : 0 ≤ p) (hp2 : p < 10) (hc : R32 c) (hn : 0 ≤ n) (hn2 : n < 1000) (hP : pYd m0 mem L r) (hok : rOk Y r) (hY : Y + n ≤ 5000) (hQ : ∀ m1, rEq m0 m1 → yFr 553 mem m1 → Q (rYi L p c n.toNat 0 r) m1) : CI E mX5_yearIn (k + 5) mem [aR 552, aI p, aI c, aI n] Q :=
  eX5_yearIn ⟨by omega, by omega⟩ hc ⟨by omega, by omega⟩ (rX5_yearIn_0 hE (s_yi_l hE hp hp2 (m0 := mem) n.toNat mem 0 Y r ⟨rEq_rf, hP.2⟩ hok (by omega) (by omega) (by omega) hn2 yFr_rf fun m1 a b => hQ m1 (rEq_tr hP.1 a) b))
theorem m_yi_l {E : EN} (hE : Ep E) {k : Nat} {m0 : Mm} {Q : Int → Mm → Prop} {L : LW} {p c N : Int} (hp : 0 ≤ p) (hp2 : p < 10) : ∀ (n : Nat) (mem : Mm) (x Y : Int) (r : Rw), pMd m0 mem L r → rOk Y r → Y + n ≤ 5000 → 0 ≤ x → x + n = N → N < 1000 → (∀ m1 r1, pMd m0 m1 L r1 → (∀ o i, o = 625 → m1 o i = mem o i) → Q (if rYi L p c n x r = -1 then 100000000 else rYi L p c n x r) m1) → VM E mX12_yearIn (k + 8) mem 3 [(0, aR 603), (1, aI p), (2, aI c), (3, aI N), (4, aI x)] [] (retI Q) := by
  intro n
  induction n with
  | zero =>
    intro mem x Y r hP hok hY h0 h1 hN hQ
    unfold rYi at hQ
    have hQ := hQ mem r hP fun _ _ _ => rfl
    refine rX12_yearIn_3 (k := k + 7) hE ⟨fun d => absurd d (by omega), fun _ => ⟨⟨by omega, by omega⟩, ⟨by omega, by omega⟩, fun d => ⟨fun _ => ?_, fun d => absurd d (by omega)⟩, fun d => ⟨fun _ => ⟨⟨by omega, by omega⟩, ?_⟩, fun d => absurd d (by omega)⟩⟩⟩
    · rw [hP.2.1] at d
      rw [if_pos d, if_neg (by omega)] at hQ
      exact hQ
    · rw [hP.2.1] at d
      rw [if_neg d, if_pos rfl] at hQ
      exact rX12_yearIn_3 (k := k + 7) hE ⟨fun _ => ⟨fun d => absurd d (by omega), fun _ => hQ⟩, fun d => absurd d (by omega)⟩
  | succ n ih =>
    intro mem x Y r hP hok hY h0 h1 hN hQ
    unfold rYi at hQ
    refine rX12_yearIn_3 (k := k + 7) hE ⟨fun d => absurd d (by omega), fun _ => ⟨⟨by omega, by omega⟩, ⟨by omega, by omega⟩, fun d => ⟨fun _ => ?_, fun d => absurd d (by omega)⟩, fun d => ⟨fun d => absurd d (by omega), fun _ => ?_⟩⟩⟩
    · rw [hP.2.1] at d
      have hQ := hQ mem r hP fun _ _ _ => rfl
      rw [if_pos d, if_neg (by omega)] at hQ
      exact hQ
    · rw [hP.2.1] at d
      rw [if_neg d] at hQ
      exact pMd_turn (k := k) hE hP (by omega) hok fun m2 a _ b => ⟨⟨by omega, by omega⟩, ih m2 (x + 1) (Y + 1) _ a (rTn_ok hok).1 (by omega) (by omega) (by omega) hN fun m3 r3 u v => hQ m3 r3 u fun o i w => (v o i w).trans (b o i (by omega) (by omega) (by omega) (by omega) (by omega))⟩
theorem m_yearIn {E : EN} (hE : Ep E) {k : Nat} {m0 mem : Mm} {Q : Int → Mm → Prop} {L : LW} {p c n Y : Int} {r : Rw} (hp : 0 ≤ p) (hp2 : p < 10) (hc : R32 c) (hn : 0 ≤ n) (hn2 : n < 1000) (hP : pMd m0 mem L r) (hok : rOk Y r) (hY : Y + n ≤ 5000) (hQ : ∀ m1 r1, pMd m0 m1 L r1 → (∀ o i, o = 625 → m1 o i = mem o i) → Q (if rYi L p c n.toNat 0 r = -1 then 100000000 else rYi L p c n.toNat 0 r) m1) : CI E mX12_yearIn (k + 8) mem [aR 603, aI p, aI c, aI n] Q :=
  eX12_yearIn ⟨by omega, by omega⟩ hc ⟨by omega, by omega⟩ (rX12_yearIn_0 hE (m_yi_l hE hp hp2 n.toNat mem 0 Y r hP hok (by omega) (by omega) (by omega) hn2 hQ))
