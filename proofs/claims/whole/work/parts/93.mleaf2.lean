-- a NUMBER or a word: from 61 of readPart on
theorem m_pLeaf {E : EN} (hE : Ep E) {k : Nat} {mem : Mm} {Q : Int → Mm → Prop} {T : Rw} {n : Int} {od : Bool} {p c s opd x1 x2 : Int} {P : List (Int × Int)} (hT : tOk T n) (hst : mSt mem T n od p c s P opd) (hp : 0 ≤ p) (hpn : p ≤ n) (hc : 0 ≤ c) (hc2 : c ≤ 50) (s0 : 0 ≤ s) (hs : s + (P.length : Int) + 2 ≤ tF T n p) (hK : plK P)
    (hx1 : x1 = if wIx od (tW T n p) = -1 then -1 else wIx od (tW T n p) + 1) (hx2 : (tS T n p = 2 ∧ tN T n p ≤ 1000 ∧ x2 = 1) ∨ (¬ (tS T n p = 2 ∧ tN T n p ≤ 1000) ∧ x2 = 0))
    (hF : ∀ x, pLeaf od T n p c = .inr x → ∀ m2, mFr mem m2 → mBad m2 x → Q 3 m2) (hO : ∀ q d f, pLeaf od T n p c = .inl (q, d, f) → ∀ m2, mFr mem m2 → mCd s mem m2 → mSt m2 T n od q d (s + 1) P opd → mSg od (m2 614) (m2 615) s (s + 1) f → Q 3 m2) :
    VM E mX12_readPart (k + 3 + 1) mem 61 [(0, aR 603), (1, aI x1), (2, aI x2)] [] (retI Q) := by
  have hT1 := hT.2.1
  have hb := tF_b (T := T) hpn
  have hbT := tT_b (T := T) hpn
  have hwb := ixW_b od (tW T n p)
  have hwb2 : wIx od (tW T n p) < 10 := by
    have : (if od = true then (7 : Int) else 10) ≤ 10 := by split <;> omega
    omega
  -- it can't go on here
  have bad : ∀ is o a, R32 is → R32 o → R32 a → (is = 0 ∨ 50 ≤ c) → pLeaf od T n p c = .inr (tF T n p) → CV E mX12_leaf (k + 3) mem [aR 603, aI is, aI o, aI a] (fun m1 => VM E mX12_readPart (k + 3 + 1) m1 102 [(0, aR 603), (1, aI x1)] [] (retI Q)) := by
    intro is o a r1 r2 r3 hi he
    refine m_leafF hE hst.2.1 r1 r2 r3 (by rw [hst.2.2.2.2.1]; exact hi) ?_
    have hz : Q 3 (aUp (aUp mem 603 19 1) 603 18 (mem 603 14)) := hF _ he _ mFr_bad (m_bad hst hK s0 (by omega))
    have e : (aUp (aUp mem 603 19 1) 603 18 (mem 603 14)) 603 19 = 1 := (aUp_nn (by omega)).trans aUp_re
    have q := rjX12_readPart_153 (k := k + 3) hE hz
    exact rjX12_readPart_102 hE ⟨fun _ => q, fun _ => ⟨fun _ => q, fun _ => ⟨fun _ => q, fun z => absurd (e.symm.trans z) (by decide)⟩⟩⟩
  -- a leaf that needs nothing more
  have fin : ∀ m2 f, (od = false ∨ x1 < 5) → pLeaf od T n p c = .inl (tT T n p, c + 1, f) → mFr mem m2 → mCd s mem m2 → mSt m2 T n od (tT T n p) (c + 1) (s + 1) P opd → mSg od (m2 614) (m2 615) s (s + 1) f → VM E mX12_readPart (k + 3 + 1) m2 102 [(0, aR 603), (1, aI x1)] [] (retI Q) := by
    intro m2 f hx he g1 g2 g3 g4
    have q := rjX12_readPart_153 (k := k + 3) hE (hO _ _ _ he m2 g1 g2 g3 g4)
    refine rjX12_readPart_102 hE ⟨fun _ => q, fun z => ⟨fun _ => q, fun z2 => ?_⟩⟩
    rw [g3.2.2.1] at z
    rcases hx with rfl | w
    · exact absurd rfl z
    · exact absurd w (by omega)
  by_cases h50 : 50 ≤ c
  · have he : pLeaf od T n p c = .inr (tF T n p) := by unfold pLeaf; rw [if_pos h50]
    have r17 : R32 (mem 603 17) → True := fun _ => trivial
    refine rjX12_readPart_61 hE ⟨fun _ => ⟨fun _ => ⟨fun _ r => bad _ _ _ (by decide) r (by decide) (Or.inr h50) he, fun z => ?_⟩, fun z => absurd z (by assumption)⟩, fun e1 => ⟨fun _ => ⟨fun z => absurd e1 z, fun _ => ⟨fun _ => bad _ _ _ (by decide) (by decide) (by decide) (Or.inr h50) he, fun z => absurd (by assumption) z⟩⟩, fun z => ⟨fun z2 => absurd e1 z2, fun _ => ⟨fun z2 => absurd z2 z, fun _ => ?_⟩⟩⟩⟩
    · rcases hx2 with ⟨a, b, d⟩ | ⟨-, d⟩
      · have := hst.1.2.2.2.2.2.2 a
        exact ⟨⟨by omega, by omega⟩, fun r1 r2 => bad _ _ _ (by decide) r1 r2 (Or.inr h50) he⟩
      · exact absurd d z
    · rcases hx2 with ⟨a, b, d⟩ | ⟨-, d⟩
      · have := hst.1.2.2.2.2.2.2 a
        exact ⟨⟨by omega, by omega⟩, fun r2 => bad _ _ _ (by decide) (by decide) r2 (Or.inr h50) he⟩
      · exact absurd d z
  rcases hx2 with ⟨a, b, d⟩ | ⟨a, d⟩
  · -- a NUMBER
    have hw : wIx od (tW T n p) = -1 := by
      by_cases q : wIx od (tW T n p) = -1
      · exact q
      · exact absurd (ixW_s q) (by omega)
    rw [if_pos hw] at hx1
    have h17 := hst.1.2.2.2.2.2.2 a
    have hn := (tN_b (T := T) (n := n) (p := p)).1 a
    have e17 : mem 603 17 = tN T n p := by omega
    have he : pLeaf od T n p c = .inl (tT T n p, c + 1, fun _ => tN T n p) := by
      unfold pLeaf
      rw [if_neg h50, if_pos a, if_pos b]
    refine rjX12_readPart_61 hE ⟨fun z => absurd hx1 z, fun _ => ⟨fun z => absurd z (by omega), fun _ => ⟨fun z => absurd hx1 z, fun _ => ⟨fun z => absurd z (by omega), fun _ => ⟨⟨by omega, by omega⟩, fun r2 => ?_⟩⟩⟩⟩⟩
    rw [e17] at r2 ⊢
    refine m_leafT hE hT hst hp hpn (by decide) (by decide) r2 (by decide) ⟨hc, by omega⟩ s0 (by omega) fun m2 g1 g2 g3 g4 g5 => fin m2 _ (Or.inr (by omega)) he g1 g2 g3 (sg_leafM (by omega) s0 g4 g5 (by omega) ⟨hn.1, by omega⟩ (by omega) (by omega) (fun w => ?_) (fun w _ => ?_))
    · unfold lfT
      rw [if_pos rfl]
    · have := bRK_v
      omega
  · have e2 : x2 = 0 := d
    by_cases hw : wIx od (tW T n p) = -1
    · rw [if_pos hw] at hx1
      have he : pLeaf od T n p c = .inr (tF T n p) := by
        unfold pLeaf
        rw [if_neg h50]
        by_cases h2 : tS T n p = 2
        · rw [if_pos h2, if_neg fun z => a ⟨h2, z⟩]
        · rw [if_neg h2, if_pos hw]
      refine rjX12_readPart_61 hE ⟨fun z => absurd hx1 z, fun _ => ⟨fun _ => ⟨fun z => absurd hx1 z, fun _ => ⟨fun _ => bad _ _ _ (by decide) (by decide) (by decide) (Or.inl rfl) he, fun z => absurd e2 z⟩⟩, fun z => absurd e2 z⟩⟩
    · rw [if_neg hw] at hx1
      have s1 := ixW_s (T := T) (n := n) (p := p) hw
      have nx := nx_b (T := T) hpn (by rw [s1]; decide)
      have hbx := tF_b (T := T) nx.2.1
      have hx1n : ¬ x1 = -1 := by omega
      have cd : ∀ v : Int, 0 ≤ v → v ≤ 2000 → (x1 = 5 → v < 10) → (5 < x1 ∧ x1 < 11 → v < 32) → ∀ (m2 : Mm), m2 614 s = x1 → m2 615 s = v → ∀ f, (∀ w : Rw, f w = lfT od w x1 v) → (∀ w : Rw, ∃ i, f w = w i) → mSg od (m2 614) (m2 615) s (s + 1) f := by
        intro v v0 v1 v5 v6 m2 g1 g2 f hf hf2
        refine sg_leafM (by omega) s0 g1 g2 (by omega) ⟨v0, v1⟩ v5 v6 hf fun w hw2 => ?_
        obtain ⟨i, hi⟩ := hf2 w
        have := hw2 i
        have := bRK_v
        omega
      refine rjX12_readPart_61 hE ⟨fun _ => ⟨fun _ => ⟨fun _ r => ?_, fun z => absurd e2 z⟩, fun z => absurd z hx1n⟩, fun z => absurd z hx1n⟩
      refine m_leafT hE hT hst hp hpn (by decide) r (by decide) (by decide) ⟨hc, by omega⟩ s0 (by omega) fun m2 g1 g2 g3 g4 g5 => ?_
      have hn2 : ¬ tS T n p = 2 := by omega
      by_cases h4 : od = true ∧ 4 ≤ wIx od (tW T n p)
      · have e20 : m2 603 20 = 1 := by rw [g3.2.2.1, h4.1]; rfl
        have ep : pLeaf od T n p c = (if tS T n (tT T n p) = 2 ∧ tN T n (tT T n p) < (if wIx od (tW T n p) = 4 then 10 else 32) then
            .inl (tT T n (tT T n p), c + 1, fun w => w (wBase (wIx od (tW T n p)) + tN T n (tT T n p)))
          else .inr (tF T n (tT T n p))) := by
          unfold pLeaf
          rw [if_neg h50, if_neg hn2, if_neg hw, if_pos h4]
        have e23 : m2 603 23 = s + 1 := g3.2.2.2.1
        -- the number behind "at", "kind", "bought"
        have num : ∀ hi : Int, hi ≤ 31 → 0 ≤ hi → hi + 1 = (if wIx od (tW T n p) = 4 then 10 else 32) → CI E mX12_number (k + 3) m2 [aR 603, aL 0, aL hi] (fun r4 m3 => (0 ≤ ((m2 603 23) - 1) ∧ ((m2 603 23) - 1) < 400) ∧ VM E mX12_readPart (k + 3 + 1) (aUp m3 615 ((m2 603 23) - 1) r4) 153 [] [] (retI Q)) := by
          intro hi hi1 hi0 hlim
          rw [e23, show s + 1 - 1 = s by omega]
          refine m_number hE hT g3.1 g3.2.1 (by omega) nx.2.1 (by decide) (by omega) hi0 (fun b1 b2 b3 m3 c1 c2 => ⟨⟨s0, by omega⟩, rjX12_readPart_153 hE ?_⟩) (fun b1 x rx => ⟨⟨s0, by omega⟩, rjX12_readPart_153 hE ?_⟩)
          · rw [if_pos ⟨b1, by omega⟩] at ep
            have g3' := mSt_nx g3 c1 c2
            have fs : ∀ o i, ¬ (o = 615 ∧ i = s) → (aUp m3 615 s (tN T n (tT T n p))) o i = m3 o i := fun o i z => aUp_nn z
            refine hO _ _ _ ep _ (fun o i z1 z2 z3 z4 z5 => ?_) (fun i u => ⟨?_, ?_⟩) ?_ ?_
            · rw [fs o i (by omega), c1 o i (by omega)]; exact g1 o i z1 z2 z3 z4 z5
            · rw [fs _ _ (by omega), c1 _ _ (by omega)]; exact (g2 i u).1
            · rw [fs _ _ (by omega), c1 _ _ (by omega)]; exact (g2 i u).2
            · obtain ⟨d1, d2, d3, d4, d5, d6, d7, d8⟩ := g3'
              exact ⟨mTk_fr d1 fun o i z => fs o i (by omega), (fs _ _ (by omega)).trans d2, (fs _ _ (by omega)).trans d3, (fs _ _ (by omega)).trans d4, (fs _ _ (by omega)).trans d5, (fs _ _ (by omega)).trans d6, (fs _ _ (by omega)).trans d7, plS_fr _ (fun j _ _ => ⟨fs _ _ (by omega), fs _ _ (by omega)⟩) d8⟩
            · refine cd (tN T n (tT T n p)) b2 (by omega) (fun z => by rw [if_pos (by omega)] at hlim; omega) (fun z => by rw [if_neg (by omega)] at hlim; omega) _ ?_ aUp_re _ (fun w => ?_) (fun w => ⟨_, rfl⟩)
              · rw [fs _ _ (by omega), c1 _ _ (by omega)]; exact g4
              · unfold lfT
                rw [if_neg (by omega), if_pos h4.1, if_neg (by omega), show x1 - 1 = wIx od (tW T n p) by omega]
          · rw [if_neg fun z => b1 ⟨z.1, by have := (tN_b (T := T) (n := n) (p := tT T n p)).1 z.1; omega, by omega⟩] at ep
            refine hF _ ep _ (fun o i z1 z2 z3 z4 z5 => ?_) ?_
            · rw [aUp_nn (by omega)]
              exact mFr_tr g1 mFr_bad o i z1 z2 z3 z4 z5
            · obtain ⟨d1, d2, N, d3, d4, d5, d6⟩ := m_bad g3 hK (by omega) (by omega)
              refine ⟨(aUp_nn (by omega)).trans d1, (aUp_nn (by omega)).trans d2, N, (aUp_nn (by omega)).trans d3, ?_, ?_, fun i u v => ?_⟩
              · rw [aUp_nn (by omega)]; exact d4
              · rw [aUp_nn (by omega)]; exact d5
              · rw [aUp_nn (by omega), aUp_nn (by omega)]; exact d6 i u v
        refine rjX12_readPart_102 hE ⟨fun z => absurd (e20.symm.trans z) (by decide), fun _ => ⟨fun z => absurd z (by omega), fun _ => ⟨fun z => absurd g3.2.1 z, fun _ => ⟨by rw [e23]; exact ⟨by omega, by omega⟩, fun z => num 31 (by decide) (by decide) (by rw [if_neg (by omega)]; rfl), fun z => num 9 (by decide) (by decide) (by rw [if_pos (by omega)]; rfl)⟩⟩⟩⟩
      · have he : pLeaf od T n p c = .inl (tT T n p, c + 1, fun w => w (wIx od (tW T n p))) := by
          unfold pLeaf
          rw [if_neg h50, if_neg hn2, if_neg hw, if_neg h4]
        have hod : od = false ∨ x1 < 5 := by
          cases od with
          | false => exact Or.inl rfl
          | true => exact Or.inr (by have : ¬ 4 ≤ wIx true (tW T n p) := fun z => h4 ⟨rfl, z⟩
                                     omega)
        refine fin m2 _ hod he g1 g2 g3 (cd 0 (by decide) (by decide) (fun _ => by decide) (fun _ => by decide) m2 g4 g5 _ (fun w => ?_) (fun w => ⟨_, rfl⟩))
        unfold lfT
        rw [if_neg (by omega)]
        have ex : x1 - 1 = wIx od (tW T n p) := by omega
        cases od with
        | false => simp only [Bool.false_eq_true, if_false]; rw [ex]
        | true =>
          have : x1 < 5 := hod.resolve_left (by decide)
          simp only [if_true]
          rw [if_pos this, ex]
