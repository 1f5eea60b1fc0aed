theorem put1_k {m : Mm} {ta o f t b c j : Int} (h1 : c ≠ ta) (h2 : ¬ (c = o ∧ j = f)) : put1 m ta o f t b c j = m c j := (if_neg h2).trans (if_neg fun q => h1 q.1)
theorem app4_k {g : Int → Int → Int} {m : Mm} {ta o f t p c j : Int} (h1 : c ≠ ta) (h2 : ¬ (c = o ∧ j = f)) : app4 g m ta o f t p c j = m c j := by unfold app4; rw [put1_k h1 h2, put1_k h1 h2, put1_k h1 h2, put1_k h1 h2]
theorem five_arg {av : List Int} (h : av.length = 5) : ∃ a b c d e, av = [a, b, c, d, e] := by
  match av, h with
  | [a, b, c, d, e], _ => exact ⟨a, b, c, d, e, rfl⟩
/-- the tapes are alike as far as they are written -/
def iTp (m : Mm) : Prop := m 591 2 = m 603 13 ∧ 0 ≤ m 591 2 ∧ m 591 2 ≤ 400 ∧ ∀ i, 0 ≤ i → i < m 591 2 → m 592 i = m 612 i ∧ 0 ≤ m 592 i ∧ m 592 i ≤ 255
theorem st_feed {E : EN} (hE : Ep E) {C : Mm → Prop} (hC : iFr C) (h1 : ∀ m, C m → iTp m) (h2 : ∀ m m2, C m → iTp m2 → (∀ o i, o ≠ 592 → o ≠ 612 → ¬ (o = 591 ∧ i = 2) → ¬ (o = 603 ∧ i = 13) → isK o i → m2 o i = m o i) → C m2) : stI E 1199 (iAll C) mX11_feed mX12_feed 5 := by
  intro t mem av ht hl hr hI
  obtain ⟨p0, p1, p2, p3, p4, rfl⟩ := five_arg hl
  have r0 : R32 p0 := hr _ (by simp)
  have r1 : R32 p1 := hr _ (by simp)
  have r2 : R32 p2 := hr _ (by simp)
  have r3 : R32 p3 := hr _ (by simp)
  have r4 : R32 p4 := hr _ (by simp)
  obtain ⟨e1, e2, e3, e4⟩ := h1 mem hI.2
  obtain ⟨T, hT⟩ : ∃ T, mem 591 2 = T := ⟨_, rfl⟩
  rw [hT] at e1 e2 e3 e4
  refine eX11_feed (k := 1198) r0 r1 r2 r3 r4 (rX11_feed_0 hE ⟨fun c => ?_, fun c => ?_⟩)
  · rw [hT] at c
    refine fun _ => s_append hE r0 hT (by omega) (by omega) fun _ => s_append hE r1 app4_o (by omega) (by omega) fun _ => s_append hE r2 app4_o (by omega) (by omega) fun _ => s_append hE r3 app4_o (by omega) (by omega) fun _ => s_append hE r4 app4_o (by omega) (by omega) ?_
    generalize hA : app4 byA (app4 byA (app4 byA (app4 byA (app4 byA mem 592 591 2 T p0) 592 591 2 _ p1) 592 591 2 _ p2) 592 591 2 _ p3) 592 591 2 _ p4 = A5
    have kA : ∀ o i, o ≠ 592 → ¬ (o = 591 ∧ i = 2) → A5 o i = mem o i := fun o i a b => by rw [← hA, app4_k a b, app4_k a b, app4_k a b, app4_k a b, app4_k a b]
    have oA : A5 591 2 = T + 1 + 1 + 1 + 1 + 1 + 1 + 1 + 1 + 1 + 1 + 1 + 1 + 1 + 1 + 1 + 1 + 1 + 1 + 1 + 1 := by rw [← hA]; exact app4_o
    have tA : A5 603 13 = T := (kA 603 13 (by decide) (by decide)).trans e1.symm
    have t0 : (aUp A5 603 0 0) 603 13 = T := (aUp_ri (by decide)).trans tA
    refine eX12_feed (k := 1198) r0 r1 r2 r3 r4 (rX12_feed_0 hE ⟨⟨by omega, by omega⟩, fun _ _ => s_four hE r0 t0 (by omega) (by omega) fun _ => s_four hE r1 app4_o (by omega) (by omega) fun _ => s_four hE r2 app4_o (by omega) (by omega) fun _ => s_four hE r3 app4_o (by omega) (by omega) fun _ => s_four hE r4 app4_o (by omega) (by omega) ?_, fun d => absurd d (by omega)⟩)
    have hs : ∀ i, 0 ≤ i → i < T → mem 592 i = (aUp A5 603 0 0) 612 i := fun i a b => by rw [aUp_rn (by decide), kA 612 i (by decide) (fun q => absurd q.1 (by decide))]; exact (e4 i a b).1
    have hbz := app4_b (p := p4) (app4_b (p := p3) (app4_b (p := p2) (app4_b (p := p1) (app4_b (p := p0) fun i a b => (e4 i a b).2))))
    have hz := app4_s (p := p4) (fun s q => by_eq q) (app4_s (p := p3) (fun s q => by_eq q) (app4_s (p := p2) (fun s q => by_eq q) (app4_s (p := p1) (fun s q => by_eq q) (app4_s (p := p0) (fun s q => by_eq q) hs))))
    rw [hA] at hz hbz
    generalize hM : app4 byM (app4 byM (app4 byM (app4 byM (app4 byM (aUp A5 603 0 0) 612 603 13 T p0) 612 603 13 _ p1) 612 603 13 _ p2) 612 603 13 _ p3) 612 603 13 _ p4 = M5 at hz ⊢
    have kM : ∀ o i, o ≠ 612 → ¬ (o = 603 ∧ i = 13) → ¬ (o = 603 ∧ i = 0) → M5 o i = A5 o i := fun o i a b d => by rw [← hM, app4_k a b, app4_k a b, app4_k a b, app4_k a b, app4_k a b]; exact if_neg d
    have oM : M5 603 13 = T + 1 + 1 + 1 + 1 + 1 + 1 + 1 + 1 + 1 + 1 + 1 + 1 + 1 + 1 + 1 + 1 + 1 + 1 + 1 + 1 := by rw [← hM]; exact app4_o
    have oM2 : M5 591 2 = A5 591 2 := kM 591 2 (by decide) (by decide) (by decide)
    refine ⟨oA.trans oM.symm, ?_, h2 mem M5 hI.2 ⟨by rw [oM2, oA, oM], by rw [oM2, oA]; omega, by rw [oM2, oA]; omega, fun i a b => ?_⟩ fun o i a b d g k => ?_⟩
    · refine iRf_fr ?_ (fun j => ?_) (fun j => ?_) hI.1
      · rw [kM 0 13 (by decide) (by decide) (by decide), kM 603 1 (by decide) (by decide) (by decide), kA 0 13 (by decide) (by decide), kA 603 1 (by decide) (by decide)]
        exact hI.1.1
      · exact (kM 602 j (by decide) (fun q => absurd q.1 (by decide)) (fun q => absurd q.1 (by decide))).trans (kA 602 j (by decide) (fun q => absurd q.1 (by decide)))
      · exact (kM 604 j (by decide) (fun q => absurd q.1 (by decide)) (fun q => absurd q.1 (by decide))).trans (kA 604 j (by decide) (fun q => absurd q.1 (by decide)))
    · rw [oM2, oA] at b
      have k5 := kM 592 i (by decide) (fun q => absurd q.1 (by decide)) (fun q => absurd q.1 (by decide))
      exact ⟨k5.trans (hz i a b), by rw [k5]; exact hbz i a b⟩
    · exact (kM o i b g (fun q => k.2.2.2 ⟨q.1, Or.inl q.2⟩)).trans (kA o i a d)
  · refine eX12_feed (k := 1198) r0 r1 r2 r3 r4 (rX12_feed_0 hE ⟨⟨by omega, by omega⟩, fun d => absurd d (by omega), fun _ => ⟨rfl, iAll_thr hC hI⟩⟩)
