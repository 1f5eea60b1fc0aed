-- terms, force, drawn, count
theorem ss_terms {E : EN} (hE : Ep E) : stI E 1199 (iAll jC) mX11_terms mX12_terms 2 := by
  refine st_terms hE jC_iFr (fun m w h h0 h1 => ?_) fun m w v hC htm => ?_
  · obtain ⟨o1, o2, o3, o4, o5, o6, o7, o8, o9, o10, o11, o12, o13⟩ := h.2.2.1.1
    obtain ⟨a, b, c, d⟩ := h.2.2.1.2.1
    have e : m 10 w = m 605 (3 + w) := d w h0 h1
    refine ⟨e, ?_⟩
    rw [e]
    have : w = 0 ∨ w = 1 ∨ w = 2 ∨ w = 3 := by omega
    rcases this with rfl | rfl | rfl | rfl
    · exact ⟨show (_ : Int) ≤ m 605 3 by omega, show m 605 3 < (_ : Int) by omega⟩
    · exact ⟨show (_ : Int) ≤ m 605 4 by omega, show m 605 4 < (_ : Int) by omega⟩
    · exact ⟨show (_ : Int) ≤ m 605 5 by omega, show m 605 5 < (_ : Int) by omega⟩
    · exact ⟨show (_ : Int) ≤ m 605 6 by omega, show m 605 6 < (_ : Int) by omega⟩
  · unfold isTm at htm
    generalize hm : aUp (aUp (aUp (aUp m 12 2 0) 10 w v) 603 8 0) 605 (3 + w) v = m2
    have f1 : ∀ o i, o ≠ 605 → o ≠ 10 → ¬ (o = 12 ∧ i = 2) → ¬ (o = 603 ∧ i = 8) → m2 o i = m o i := fun o i a b c d => by
      rw [← hm, aUp_nn (by omega), aUp_nn d, aUp_nn (by omega), aUp_nn c]
    have e : ∀ i, m2 605 i = if i = 3 + w then v else m 605 i := fun i => by
      rw [← hm, aUp_at]
      by_cases z : i = 3 + w
      · rw [if_pos ⟨rfl, z⟩, if_pos z]
      · rw [if_neg (fun q => z q.2), if_neg z, aUp_nn (by omega), aUp_nn (by omega), aUp_nn (by omega)]
    have e10 : ∀ i, m2 10 i = if i = w then v else m 10 i := fun i => by
      rw [← hm, aUp_nn (by omega), aUp_nn (by omega), aUp_at]
      by_cases z : i = w
      · rw [if_pos ⟨rfl, z⟩, if_pos z]
      · rw [if_neg (fun q => z q.2), if_neg z, aUp_nn (by omega)]
    have e12 : m2 12 2 = 0 := by rw [← hm, aUp_nn (by omega), aUp_nn (by omega), aUp_nn (by omega), aUp_re]
    have e8 : m2 603 8 = 0 := by rw [← hm, aUp_nn (by omega), aUp_re]
    have en : ∀ i, i < 3 ∨ 7 ≤ i → m2 605 i = m 605 i := fun i q => by rw [e, if_neg (by omega)]
    obtain ⟨o1, o2, o3, o4, o5, o6, o7, o8, o9, o10, o11, o12, o13⟩ := hC.2.2.1.1
    obtain ⟨a, b, c, d⟩ := hC.2.2.1.2.1
    refine jC_yard hC (fun o i w1 w2 w3 w4 w5 w6 w7 w8 w9 w10 w11 w12 => f1 o i w4 (by omega) (by omega) (by omega)) (fun i q => en i (by omega)) ⟨by rw [en 7 (by decide)]; exact o1, by rw [en 7 (by decide)]; exact o2, fun p u q => ?_, fun p u q => ?_, by rw [e]; split <;> omega, by rw [e]; split <;> omega, by rw [e]; split <;> omega, by rw [e]; split <;> omega, by rw [e]; split <;> omega, by rw [e]; split <;> omega, by rw [e]; split <;> omega, by rw [e]; split <;> omega, fun p q a b c d f => ?_⟩ ⟨?_, fun i u q => ?_, fun i u q => ?_, fun i u q => ?_⟩ (f1 2 9 (by decide) (by decide) (by decide) (by decide)) ⟨by rw [e12, e8], by rw [e8]; exact Int.le_refl 0, by rw [e8]; decide, fun k a b => ?_, fun j k a b a2 b2 q => ?_, fun k a b => absurd b (by rw [e8]; omega)⟩ (iC_sm hC.2.1 (fun i _ => f1 0 i (by decide) (by decide) (by omega) (by omega)) (fun i _ => f1 1 i (by decide) (by decide) (by omega) (by omega)) fun i q => f1 603 i (by decide) (by decide) (by omega) (by omega)) (iC_tp hC.1 (f1 _ _ (by decide) (by decide) (by decide) (by decide)) (f1 _ _ (by decide) (by decide) (by decide) (by decide)) (fun i => f1 _ _ (by decide) (by decide) (by omega) (by omega)) fun i => f1 _ _ (by decide) (by decide) (by omega) (by omega))
    · rw [en _ (by omega), en _ (by omega), en _ (by omega), en _ (by omega)]; exact o3 p u q
    · rw [en _ (by omega), en _ (by omega), en _ (by omega)]; exact o4 p u q
    · rw [en 7 (by decide)] at b d
      rw [en _ (by omega), en _ (by omega)] at f
      exact o13 p q a b c d f
    · rw [en 7 (by decide), f1 _ _ (by decide) (by decide) (by omega) (by omega)]; exact a
    · rw [en _ (by omega), en _ (by omega), en _ (by omega), f1 _ _ (by decide) (by decide) (by omega) (by omega), f1 _ _ (by decide) (by decide) (by omega) (by omega), f1 _ _ (by decide) (by decide) (by omega) (by omega)]; exact b i u q
    · rw [en _ (by omega), en _ (by omega), en _ (by omega), en _ (by omega), f1 _ _ (by decide) (by decide) (by omega) (by omega), f1 _ _ (by decide) (by decide) (by omega) (by omega), f1 _ _ (by decide) (by decide) (by omega) (by omega), f1 _ _ (by decide) (by decide) (by omega) (by omega)]; exact c i u q
    · rw [e]
      by_cases z : i = w
      · rw [if_pos (by omega), show (2 : Int) + 8 = 10 from rfl, e10, if_pos z]
      · rw [if_neg (by omega), show (2 : Int) + 8 = 10 from rfl, e10, if_neg z]; exact d i u q
    · rw [f1 13 k (by decide) (by decide) (by omega) (by omega), f1 186 k (by decide) (by decide) (by omega) (by omega)]
      exact hC.2.2.2.2.1.2.2.2.1 k a b
    · rw [f1 13 j (by decide) (by decide) (by omega) (by omega), f1 13 k (by decide) (by decide) (by omega) (by omega)] at q
      exact hC.2.2.2.2.1.2.2.2.2.1 j k a b a2 b2 q
theorem s_lwHas2 {E : EN} (hE : Ep E) {k : Nat} {mem : Mm} {Q : Int → Mm → Prop} {p n : Int} (hn : mem 353 1 = n) (h6 : n ≤ 6) (hp : R32 p) (h1 : 0 ≤ p → p < n → Q 1 mem) (h0 : p < 0 ∨ n ≤ p → Q 0 mem) : CI E mX3_has k mem [aR 353, aI p] Q :=
  eX3_has hp (rX3_has_0 hE (Or.inl rfl) ⟨fun c => h0 (Or.inl c), fun c => ⟨fun d => h0 (by omega), fun d => ⟨fun e => absurd e (by omega), fun _ => h1 c (by omega)⟩⟩⟩)
theorem s_lwNum2 {E : EN} (hE : Ep E) {k : Nat} {mem : Mm} {Q : Int → Mm → Prop} {p n : Int} (hn : mem 353 1 = n) (h6 : n ≤ 6) (hp : R32 p) (h1 : 0 ≤ p → p < n → Q (355 + 9 * p) mem) (h0 : p < 0 ∨ n ≤ p → Q (-1) mem) : CR E mX3_numbered (k + 1) mem [aR 353, aI p] Q := by
  refine eX3_numbered hp (rX3_numbered_0 hE (Or.inl rfl) fun _ => s_lwHas2 hE hn h6 hp (fun a b => ⟨fun c => absurd c (by decide), fun _ => ⟨⟨a, by omega⟩, ?_⟩⟩) (fun a => ⟨fun _ => h0 a, fun c => absurd rfl c⟩))
  have := h1 a b
  rw [show (353 : Int) + 1 + 1 + 9 * p = 355 + 9 * p by omega]
  exact this
theorem m_isLaw2 {E : EN} (hE : Ep E) {k : Nat} {mem : Mm} {Q : Int → Mm → Prop} {p n : Int} (hn : mem 605 1 = n) (l2 : 0 ≤ n) (h6 : n ≤ 6) (hp : R32 p) (h1 : -1 ≤ p → p < n → Q 1 mem) (h0 : p < -1 ∨ n ≤ p → Q 0 mem) : CI E mX12_isLaw (k + 1) mem [aR 603, aI p] Q :=
  eX12_isLaw hp (rX12_isLaw_0 hE ⟨fun c => h1 (by omega) (by omega), fun c => ⟨⟨by omega, by omega⟩, fun r r2 => s_in hE r (by decide) r2 (fun a b => ⟨fun q => absurd q (by decide), fun _ => h1 (by omega) (by omega)⟩) (fun a => ⟨fun _ => h0 (by omega), fun q => absurd rfl q⟩)⟩⟩)
theorem st_force {E : EN} (hE : Ep E) : stI E 1199 (iAll jC) mX11_force mX12_force 1 := by
  intro t mem av ht hl hr hI
  obtain ⟨p, rfl⟩ := one_arg hl
  have hp : R32 p := hr p (by simp)
  have hC := hI.2
  have hF := hC.2.2.1
  obtain ⟨l1, l2, l3, l4, l5, l6, l7⟩ := hF.2.2.2
  have was : R32 (mem 353 2) := ⟨by omega, by omega⟩
  have ok : -1 ≤ p → p < mem 605 1 → ∀ v, v = (if p = -1 then (-1 : Int) else 355 + 9 * p) → CI E mX11_granted 1198 (aUp (aUp mem 353 2 p) 2 9 v) [aR 0, aI (mem 353 2)] (fun r m1 => CI E mX12_force 1199 m1 [aR 603, aI p] (fun r2 m2 => r = r2 ∧ iAll jC (t + 1) m2)) := by
    intro h0 h1 v hv
    refine s_granted hE was ?_
    generalize hmc : aUp (aUp (aUp mem 353 2 p) 2 9 v) 0 13 0 = mc
    have cm : ∀ o i, ¬ (o = 353 ∧ i = 2) → ¬ (o = 2 ∧ i = 9) → ¬ (o = 0 ∧ i = 13) → mc o i = mem o i := fun o i a b c => by
      rw [← hmc, aUp_nn c, aUp_nn b, aUp_nn a]
    have e5 : ∀ i, (aUp mc 603 0 0) 605 i = mem 605 i := fun i => by rw [aUp_nn (by omega), cm _ _ (by omega) (by omega) (by omega)]
    refine eX12_force (k := 1198) hp (rX12_force_0 hE fun _ => m_isLaw2 (k := 1197) hE (e5 1) l2 l3 hp (fun _ _ => ⟨fun d => absurd d (by decide), fun _ _ => s_change hE (by decide) (by decide) hp ⟨?_, ?_⟩⟩) fun a => absurd a (by omega))
    · rw [e5]; exact l4
    generalize hmm : aUp (aUp mc 603 0 0) 605 2 p = mm
    have mo : ∀ o i, ¬ (o = 605 ∧ i = 2) → ¬ (o = 603 ∧ i = 0) → mm o i = mc o i := fun o i a b => by rw [← hmm, aUp_nn a, aUp_nn b]
    have al : ∀ o i, ¬ (o = 605 ∧ i = 2) → ¬ (o = 603 ∧ i = 0) → ¬ (o = 353 ∧ i = 2) → ¬ (o = 2 ∧ i = 9) → ¬ (o = 0 ∧ i = 13) → mm o i = mem o i := fun o i a b c d e => (mo o i a b).trans (cm o i c d e)
    refine ⟨iRf_fr ?_ (fun j => ?_) (fun j => ?_) hI.1, ?_⟩
    · rw [aUp_nn (by omega), aUp_re, mo _ _ (by omega) (by omega), ← hmc, aUp_re]
    · rw [aUp_nn (by omega), al _ _ (by omega) (by omega) (by omega) (by omega) (by omega)]
    · rw [aUp_nn (by omega), al _ _ (by omega) (by omega) (by omega) (by omega) (by omega)]
    refine jC_fr (m := mm) (fun o i _ k => K_sta k) ?_
    have e2 : mm 605 2 = p := by rw [← hmm, aUp_re]
    have en : ∀ i, i ≠ 2 → mm 605 i = mem 605 i := fun i q => al _ _ (by omega) (by omega) (by omega) (by omega) (by omega)
    refine jC_all hC (fun o i w1 w2 w3 w4 w5 w6 w7 w8 w9 w10 w11 w12 w13 => al o i (by omega) (fun q => w1 (by unfold scr; omega)) (by omega) (by omega) (by omega)) ⟨rOk_cg (fun i a b => ?_) hF.1, yR_cg (fun i a b => ?_) (yR_fr hF.2.1 (al _ _ (by omega) (by omega) (by omega) (by omega) (by omega)) fun o i a b => al _ _ (by omega) (by omega) (by omega) (by omega) (by omega)), fR_cg (fun i q => ?_) (fR_fr (fun o i a b => al _ _ (by omega) (by omega) (by omega) (by omega) (by omega)) hF.2.2.1), ?_⟩ ?_ (iPast_cg hC.2.2.2.2.1 (fun o i a b => al _ _ (by omega) (by omega) (by omega) (by omega) (by omega)) (fun i a b => ?_) (fun i a => al _ _ (by omega) (by omega) (by omega) (by omega) (by omega)) (fun i => al _ _ (by omega) (by omega) (by omega) (by omega) (by omega)) (al _ _ (by omega) (by omega) (by omega) (by omega) (by omega)) (fun i => al _ _ (by omega) (by omega) (by omega) (by omega) (by omega))) (iC_sm hC.2.1 (fun i _ => al 0 i (by omega) (by omega) (by omega) (by omega) (by omega)) (fun i _ => al 1 i (by omega) (by omega) (by omega) (by omega) (by omega)) fun i q => al 603 i (by omega) (by omega) (by omega) (by omega) (by omega)) (iC_tp hC.1 (al _ _ (by omega) (by omega) (by omega) (by omega) (by omega)) (al _ _ (by omega) (by omega) (by omega) (by omega) (by omega)) (fun i => al _ _ (by omega) (by omega) (by omega) (by omega) (by omega)) (fun i => al _ _ (by omega) (by omega) (by omega) (by omega) (by omega)))
    · exact en i (by omega)
    · exact en i (by omega)
    · exact en i (by omega)
    · refine ⟨?_, ?_, ?_, ?_, ?_, ?_, fun i a b => ?_⟩
      · rw [en 1 (by decide), al _ _ (by omega) (by omega) (by omega) (by omega) (by omega)]; exact l1
      · rw [en 1 (by decide)]; exact l2
      · rw [en 1 (by decide)]; exact l3
      · rw [e2, mo _ _ (by omega) (by omega), ← hmc, aUp_nn (by omega), aUp_nn (by omega), aUp_re]
      · rw [e2]; exact h0
      · rw [e2, en 1 (by decide)]; exact h1
      · rw [en 1 (by decide)] at b
        obtain ⟨D, d1, d2⟩ := l7 i a b
        exact ⟨D, TxS_fr (fun o j u v => al _ _ (by omega) (by omega) (by omega) (by omega) (by omega)) d1, slotS_fr (fun j u => en j (by omega)) d2⟩
    · unfold iLw
      rw [e2, mo _ _ (by omega) (by omega), ← hmc, aUp_nn (by omega), aUp_re]
      exact hv
    · exact en i (by omega)
  refine eX11_force (k := 1198) hp (rX11_force_0 hE ⟨fun c _ => ?_, fun c _ => ?_⟩)
  · exact s_lwNum2 (k := 1197) hE ((aUp_nn (by omega)).trans l1) l3 hp (fun a _ => absurd a (by omega)) fun _ _ => ok (by omega) (by omega) _ (by rw [if_pos c])
  · refine s_lwHas2 hE l1 l3 hp (fun a b => ⟨fun _ _ => s_lwNum2 (k := 1197) hE ((aUp_nn (by omega)).trans l1) l3 hp (fun _ _ _ => ok (by omega) b _ (by rw [if_neg c])) fun d => absurd d (by omega), fun d => absurd d (by decide)⟩) fun a => ⟨fun d => absurd rfl d, fun _ => ?_⟩
    refine s_refA hE (by decide) (by decide) (r602 hI.1 ht (by decide) (by decide) fun _ => rfl) ?_
    refine eX12_force (k := 1198) hp (rX12_force_0 hE fun _ => m_isLaw2 (k := 1197) hE (n := mem 605 1) ?_ l2 l3 hp (fun _ _ => absurd a (by omega)) fun _ => ⟨fun _ => ?_, fun d => absurd rfl d⟩)
    · rw [aUp_nn (by omega), aAns_M (by decide)]
    · exact m_tel hE (by decide) (by decide) (fun _ => r604 hI.1 ht (by decide) (by decide) fun j => (aUp_nn (by omega)).trans (aAns_M (by decide))) ⟨rfl, fin_ref hI (by decide)⟩

theorem st_drawn {E : EN} (hE : Ep E) : stI E 1199 (iAll jC) mX11_drawn mX12_drawn 2 := by
  intro t mem av ht hl hr hI
  obtain ⟨p, w, rfl⟩ := two_arg hl
  have hp : R32 p := hr p (by simp)
  have hw : R32 w := hr w (by simp)
  have hT : iAll jC (t + 1) (aUp mem 603 0 0) := iAll_thr jC_iFr hI
  have hD := hI.2.2.2.2.2.2.2.2.1
  have hq : (mem 603 60 = -1 ∧ mem 581 10 = 0) ∨ (0 ≤ mem 603 60 ∧ mem 603 60 ≤ 10 ∧ mem 581 10 = mem 603 60) := hD.elim Or.inl fun h => Or.inr ⟨h.1, h.2.1, h.2.2.1⟩
  have hv : 0 ≤ p → p < mem 581 10 → mem 585 p = mem 635 (3 * p) ∧ mem 586 p = mem 635 (3 * p + 1) ∧ mem 588 p = mem 635 (3 * p + 2) := fun a b => by
    rcases hD with h | h
    · exact absurd b (by omega)
    · exact h.2.2.2 p a (by omega)
  have mo : ∀ r, (0 ≤ p → p < mem 581 10 → 0 ≤ w → w ≤ 2 → r = mem 635 (3 * p + w)) → (¬ (0 ≤ p ∧ p < mem 581 10 ∧ 0 ≤ w ∧ w ≤ 2) → r = -1) → CI E mX12_drawn 1199 mem [aR 603, aI p, aI w] (fun r2 m2 => r = r2 ∧ iAll jC (t + 1) m2) := by
    intro r g1 g2
    refine eX12_drawn (k := 1198) hp hw (rX12_drawn_0 hE ⟨fun u => ⟨g2 (by omega), hT⟩, fun u => ⟨⟨by omega, by omega⟩, fun r1 r2 => s_in hE r1 (by decide) r2 (fun a b => ⟨fun d => absurd d (by decide), fun _ r3 => s_in hE r3 (by decide) (by decide) (fun a2 b2 => ⟨fun d => absurd d (by decide), fun _ => ⟨⟨by omega, by omega⟩, ⟨by omega, by omega⟩, ⟨by omega, by omega⟩, ?_, hT⟩⟩) (fun a2 => ⟨fun _ => ⟨g2 (by omega), hT⟩, fun d => absurd rfl d⟩)⟩) (fun a => ⟨fun _ => ⟨g2 (by omega), hT⟩, fun d => absurd rfl d⟩)⟩⟩)
    rw [aUp_nn (by omega)]
    exact g1 a (by omega) a2 b2
  refine eX11_drawn (k := 1198) hp hw (rX11_drawn_0 hE fun _ => eX10_hasPlot hp (rX10_hasPlot_0 hE (by unfold isYd; omega) ⟨fun c => ⟨fun d => absurd rfl d, fun _ => mo _ (fun a => absurd a (by omega)) fun _ => rfl⟩, fun c => ⟨fun d => ⟨fun d => absurd rfl d, fun _ => mo _ (fun _ b => absurd b (by omega)) fun _ => rfl⟩, fun d => ⟨fun e => absurd e (by omega), fun _ => ⟨fun _ => ⟨fun e => ⟨⟨c, by omega⟩, mo _ (fun _ _ _ _ => ?_) fun q => absurd ⟨c, d, by omega, by omega⟩ q⟩, fun e => ⟨⟨c, by omega⟩, mo _ (fun _ _ _ _ => ?_) fun q => absurd ⟨c, d, by omega, by omega⟩ q⟩, fun e => ⟨⟨c, by omega⟩, mo _ (fun _ _ _ _ => ?_) fun q => absurd ⟨c, d, by omega, by omega⟩ q⟩, fun e => mo _ (fun _ _ _ _ => absurd e (by omega)) fun _ => rfl⟩, fun q => absurd q (by decide)⟩⟩⟩⟩))
  · rw [e, (hv c d).1, Int.add_zero]
  · rw [e]; exact (hv c d).2.1
  · rw [e]; exact (hv c d).2.2

def wS (f : Int → Int) : Nat → Int
  | 0 => 0
  | n + 1 => f (31 - n) + wS f n
theorem wS_cg {f g : Int → Int} (h : ∀ c, 0 ≤ c → c < 32 → f c = g c) : ∀ n : Nat, n ≤ 32 → wS f n = wS g n
  | 0, _ => rfl
  | n + 1, hn => by
    show f (31 - n) + wS f n = g (31 - n) + wS g n
    rw [h _ (by omega) (by omega), wS_cg h n (by omega)]
def wF (m : Mm) (o a c : Int) : Int := if m o (a + c) = 1 then 1 else 0
theorem s_walls {E : EN} (hE : Ep E) {k : Nat} {mem : Mm} {Q : Int → Mm → Prop} {y : Int} (hy : isYd y) (hQ : Q (wS (fun c => wF mem (y + 1) 0 c) 32) mem) : CI E mX10_walls k mem [aR y] Q := by
  refine eX10_walls (rX10_walls_0 hE hy ?_)
  have go : ∀ (n : Nat) (x1 x2 : Int), n ≤ 32 → x2 = 32 - n → 0 ≤ x1 → x1 ≤ x2 → Q (x1 + wS (fun c => wF mem (y + 1) 0 c) n) mem → VM E mX10_walls k mem 4 [(0, aR y), (1, aI x1), (2, aI x2)] [] (retI Q) := by
    intro n
    induction n with
    | zero =>
      intro x1 x2 _ e a b h
      have h2 : Q (x1 + 0) mem := h
      rw [Int.add_zero] at h2
      exact rX10_walls_4 hE hy ⟨fun _ => h2, fun u => absurd u (by omega)⟩
    | succ n ih =>
      intro x1 x2 hn e a b h
      have h2 : Q (x1 + (wF mem (y + 1) 0 (31 - n) + wS (fun c => wF mem (y + 1) 0 c) n)) mem := h
      rw [show (31 : Int) - n = x2 by omega, ← Int.add_assoc] at h2
      refine rX10_walls_4 hE hy ⟨fun u => absurd u (by omega), fun u => ⟨⟨by omega, u⟩, fun c => ⟨⟨by omega, by omega⟩, ⟨by omega, by omega⟩, ih _ _ (by omega) (by omega) (by omega) (by omega) ?_⟩, fun c => ⟨⟨by omega, by omega⟩, ⟨by omega, by omega⟩, ih _ _ (by omega) (by omega) (by omega) (by omega) ?_⟩⟩⟩
      · unfold wF at h2 ⊢
        rw [if_neg (by rw [Int.zero_add]; exact c)] at h2
        exact h2
      · unfold wF at h2 ⊢
        rw [if_pos (by rw [Int.zero_add]; exact c)] at h2
        exact h2
  exact go 32 0 0 (by decide) (by decide) (by decide) (by decide) (by rw [Int.zero_add]; exact hQ)
theorem s_purch {E : EN} (hE : Ep E) {k : Nat} {mem : Mm} {Q : Int → Mm → Prop} {y : Int} (hy : isYd y) (hb : ∀ c, 0 ≤ c → c < 32 → 0 ≤ mem (y + 3) c ∧ mem (y + 3) c ≤ 1) (hQ : Q (wS (fun c => mem (y + 3) c) 32) mem) : CI E mX10_purchases k mem [aR y] Q := by
  refine eX10_purchases (rX10_purchases_0 hE hy ?_)
  have go : ∀ (n : Nat) (x1 x2 : Int), n ≤ 32 → x2 = 32 - n → 0 ≤ x1 → x1 ≤ x2 → Q (x1 + wS (fun c => mem (y + 3) c) n) mem → VM E mX10_purchases k mem 4 [(0, aR y), (1, aI x1), (2, aI x2)] [] (retI Q) := by
    intro n
    induction n with
    | zero =>
      intro x1 x2 _ e a b h
      have h2 : Q (x1 + 0) mem := h
      rw [Int.add_zero] at h2
      exact rX10_purchases_4 hE hy ⟨fun _ => h2, fun u => absurd u (by omega)⟩
    | succ n ih =>
      intro x1 x2 hn e a b h
      have h2 : Q (x1 + (mem (y + 3) (31 - n) + wS (fun c => mem (y + 3) c) n)) mem := h
      rw [show (31 : Int) - n = x2 by omega, ← Int.add_assoc] at h2
      have := hb x2 (by omega) (by omega)
      exact rX10_purchases_4 hE hy ⟨fun u => absurd u (by omega), fun u => ⟨⟨by omega, u⟩, ⟨by omega, by omega⟩, ⟨by omega, by omega⟩, ih _ _ (by omega) (by omega) (by omega) (by omega) h2⟩⟩
  exact go 32 0 0 (by decide) (by decide) (by decide) (by decide) (by rw [Int.zero_add]; exact hQ)
theorem m_walls {E : EN} (hE : Ep E) {k : Nat} {mem : Mm} {Q : Int → Mm → Prop} (hQ : Q (wS (fun c => wF mem 605 80 c) 32) mem) : CI E mX12_cellsOf k mem [aR 603, aI 0] Q := by
  refine eX12_cellsOf (by decide) (rX12_cellsOf_0 hE ?_)
  have go : ∀ (n : Nat) (x1 x2 : Int), n ≤ 32 → x2 = 32 - n → 0 ≤ x1 → x1 ≤ x2 → Q (x1 + wS (fun c => wF mem 605 80 c) n) mem → VM E mX12_cellsOf k mem 4 [(0, aR 603), (1, aI 0), (2, aI x1), (3, aI x2)] [] (retI Q) := by
    intro n
    induction n with
    | zero =>
      intro x1 x2 _ e a b h
      have h2 : Q (x1 + 0) mem := h
      rw [Int.add_zero] at h2
      exact rX12_cellsOf_4 hE ⟨fun _ => h2, fun u => absurd u (by omega)⟩
    | succ n ih =>
      intro x1 x2 hn e a b h
      have h2 : Q (x1 + (wF mem 605 80 (31 - n) + wS (fun c => wF mem 605 80 c) n)) mem := h
      rw [show (31 : Int) - n = x2 by omega, ← Int.add_assoc] at h2
      refine rX12_cellsOf_4 hE ⟨fun u => absurd u (by omega), fun u => ⟨fun _ => ⟨⟨by omega, by omega⟩, ⟨by omega, by omega⟩, fun c => ⟨⟨by omega, by omega⟩, ⟨by omega, by omega⟩, ih _ _ (by omega) (by omega) (by omega) (by omega) ?_⟩, fun c => ⟨⟨by omega, by omega⟩, ⟨by omega, by omega⟩, ih _ _ (by omega) (by omega) (by omega) (by omega) ?_⟩⟩, fun q => absurd rfl q⟩⟩
      · unfold wF at h2 ⊢
        rw [if_neg c] at h2
        exact h2
      · unfold wF at h2 ⊢
        rw [if_pos c] at h2
        exact h2
  exact go 32 0 0 (by decide) (by decide) (by decide) (by decide) (by rw [Int.zero_add]; exact hQ)
theorem m_purch {E : EN} (hE : Ep E) {k : Nat} {mem : Mm} {Q : Int → Mm → Prop} (hb : ∀ c, 0 ≤ c → c < 32 → 0 ≤ mem 605 (48 + c) ∧ mem 605 (48 + c) ≤ 1) (hQ : Q (wS (fun c => mem 605 (48 + c)) 32) mem) : CI E mX12_cellsOf k mem [aR 603, aI 1] Q := by
  refine eX12_cellsOf (by decide) (rX12_cellsOf_0 hE ?_)
  have go : ∀ (n : Nat) (x1 x2 : Int), n ≤ 32 → x2 = 32 - n → 0 ≤ x1 → x1 ≤ x2 → Q (x1 + wS (fun c => mem 605 (48 + c)) n) mem → VM E mX12_cellsOf k mem 4 [(0, aR 603), (1, aI 1), (2, aI x1), (3, aI x2)] [] (retI Q) := by
    intro n
    induction n with
    | zero =>
      intro x1 x2 _ e a b h
      have h2 : Q (x1 + 0) mem := h
      rw [Int.add_zero] at h2
      exact rX12_cellsOf_4 hE ⟨fun _ => h2, fun u => absurd u (by omega)⟩
    | succ n ih =>
      intro x1 x2 hn e a b h
      have h2 : Q (x1 + (mem 605 (48 + (31 - n)) + wS (fun c => mem 605 (48 + c)) n)) mem := h
      rw [show (31 : Int) - n = x2 by omega, ← Int.add_assoc] at h2
      have := hb x2 (by omega) (by omega)
      exact rX12_cellsOf_4 hE ⟨fun u => absurd u (by omega), fun u => ⟨fun q => absurd q (by decide), fun _ => ⟨⟨by omega, by omega⟩, ⟨by omega, by omega⟩, ⟨by omega, by omega⟩, ⟨by omega, by omega⟩, ih _ _ (by omega) (by omega) (by omega) (by omega) h2⟩⟩⟩
  exact go 32 0 0 (by decide) (by decide) (by decide) (by decide) (by rw [Int.zero_add]; exact hQ)

theorem st_count {E : EN} (hE : Ep E) : stI E 1199 (iAll jC) mX11_count mX12_count 1 := by
  intro t mem av ht hl hr hI
  obtain ⟨p, rfl⟩ := one_arg hl
  have hp : R32 p := hr p (by simp)
  have hT : iAll jC (t + 1) (aUp mem 603 0 0) := iAll_thr jC_iFr hI
  have hF := hI.2.2.2.1
  obtain ⟨o1, o2, o3, o4, o5, o6, o7, o8, o9, o10, o11, o12, o13⟩ := hF.1
  obtain ⟨a1, a2, a3, a4⟩ := hF.2.1
  have rf : ∀ j : Int, 0 ≤ j → j < 7 → mem 602 j = mem 604 j := fun j a b => (hI.1.2 j a b).1
  refine eX11_count (k := 1198) hp (rX11_count_0 hE ⟨fun u => ?_, fun u => ?_, fun u => ?_, fun u => ?_, fun u => ?_, fun u => ?_, fun u => ?_, fun u => ?_, fun u => ?_, fun u => ?_, fun u => ?_, fun u => ?_, fun u => ?_, fun u => ?_⟩)
  · subst u
    exact eX12_count (k := 1198) hp (rX12_count_0 hE ⟨fun _ => ⟨a1, hT⟩, fun w => absurd w (by decide), fun w => absurd w (by decide), fun w => absurd w (by decide), fun w => absurd w (by decide), fun w => absurd w (by decide), fun w => absurd w (by decide), fun w => absurd w (by decide), fun w => absurd w (by decide), fun w => absurd w (by decide), fun w => absurd w (by decide), fun w => absurd w (by decide), fun w => absurd w (by decide), fun w => absurd w (by decide)⟩)
  · subst u
    refine s_walls hE (Or.inl rfl) ?_
    refine eX12_count (k := 1198) hp (rX12_count_0 hE ⟨fun w => absurd w (by decide), fun _ => m_walls hE ⟨wS_cg (fun c u v => ?_) 32 (by decide), hT⟩, fun w => absurd w (by decide), fun w => absurd w (by decide), fun w => absurd w (by decide), fun w => absurd w (by decide), fun w => absurd w (by decide), fun w => absurd w (by decide), fun w => absurd w (by decide), fun w => absurd w (by decide), fun w => absurd w (by decide), fun w => absurd w (by decide), fun w => absurd w (by decide), fun w => absurd w (by decide)⟩)
    show wF mem (2 + 1) 0 c = wF (aUp mem 603 0 0) 605 80 c
    unfold wF
    rw [aUp_nn (by omega), Int.zero_add, (a2 c u v).1]
  · subst u
    refine s_purch hE (Or.inl rfl) (fun c u v => by rw [(a2 c u v).2.2]; exact (o4 c u v).2.2.2.2) ?_
    refine eX12_count (k := 1198) hp (rX12_count_0 hE ⟨fun w => absurd w (by decide), fun w => absurd w (by decide), fun _ => m_purch hE (fun c u v => by rw [aUp_nn (by omega)]; exact (o4 c u v).2.2.2.2) ⟨wS_cg (fun c u v => ?_) 32 (by decide), hT⟩, fun w => absurd w (by decide), fun w => absurd w (by decide), fun w => absurd w (by decide), fun w => absurd w (by decide), fun w => absurd w (by decide), fun w => absurd w (by decide), fun w => absurd w (by decide), fun w => absurd w (by decide), fun w => absurd w (by decide), fun w => absurd w (by decide), fun w => absurd w (by decide)⟩)
    show mem (2 + 3) c = (aUp mem 603 0 0) 605 (48 + c)
    rw [aUp_nn (by omega)]
    exact (a2 c u v).2.2
  · subst u
    exact eX12_count (k := 1198) hp (rX12_count_0 hE ⟨fun w => absurd w (by decide), fun w => absurd w (by decide), fun w => absurd w (by decide), fun _ => ⟨hF.2.2.1.1, hT⟩, fun w => absurd w (by decide), fun w => absurd w (by decide), fun w => absurd w (by decide), fun w => absurd w (by decide), fun w => absurd w (by decide), fun w => absurd w (by decide), fun w => absurd w (by decide), fun w => absurd w (by decide), fun w => absurd w (by decide), fun w => absurd w (by decide)⟩)
  · subst u
    exact eX12_count (k := 1198) hp (rX12_count_0 hE ⟨fun w => absurd w (by decide), fun w => absurd w (by decide), fun w => absurd w (by decide), fun w => absurd w (by decide), fun _ => ⟨hF.2.2.2.1, hT⟩, fun w => absurd w (by decide), fun w => absurd w (by decide), fun w => absurd w (by decide), fun w => absurd w (by decide), fun w => absurd w (by decide), fun w => absurd w (by decide), fun w => absurd w (by decide), fun w => absurd w (by decide), fun w => absurd w (by decide)⟩)
  · subst u
    exact eX12_count (k := 1198) hp (rX12_count_0 hE ⟨fun w => absurd w (by decide), fun w => absurd w (by decide), fun w => absurd w (by decide), fun w => absurd w (by decide), fun w => absurd w (by decide), fun _ => ⟨hI.2.2.2.2.2.1.1, hT⟩, fun w => absurd w (by decide), fun w => absurd w (by decide), fun w => absurd w (by decide), fun w => absurd w (by decide), fun w => absurd w (by decide), fun w => absurd w (by decide), fun w => absurd w (by decide), fun w => absurd w (by decide)⟩)
  · subst u
    exact eX12_count (k := 1198) hp (rX12_count_0 hE ⟨fun w => absurd w (by decide), fun w => absurd w (by decide), fun w => absurd w (by decide), fun w => absurd w (by decide), fun w => absurd w (by decide), fun w => absurd w (by decide), fun _ => ⟨hI.2.1.1, hT⟩, fun w => absurd w (by decide), fun w => absurd w (by decide), fun w => absurd w (by decide), fun w => absurd w (by decide), fun w => absurd w (by decide), fun w => absurd w (by decide), fun w => absurd w (by decide)⟩)
  · subst u
    exact eX12_count (k := 1198) hp (rX12_count_0 hE ⟨fun w => absurd w (by decide), fun w => absurd w (by decide), fun w => absurd w (by decide), fun w => absurd w (by decide), fun w => absurd w (by decide), fun w => absurd w (by decide), fun w => absurd w (by decide), fun _ => ⟨rf 1 (by decide) (by decide), hT⟩, fun w => absurd w (by decide), fun w => absurd w (by decide), fun w => absurd w (by decide), fun w => absurd w (by decide), fun w => absurd w (by decide), fun w => absurd w (by decide)⟩)
  · subst u
    exact eX12_count (k := 1198) hp (rX12_count_0 hE ⟨fun w => absurd w (by decide), fun w => absurd w (by decide), fun w => absurd w (by decide), fun w => absurd w (by decide), fun w => absurd w (by decide), fun w => absurd w (by decide), fun w => absurd w (by decide), fun w => absurd w (by decide), fun _ => ⟨rf 2 (by decide) (by decide), hT⟩, fun w => absurd w (by decide), fun w => absurd w (by decide), fun w => absurd w (by decide), fun w => absurd w (by decide), fun w => absurd w (by decide)⟩)
  · subst u
    exact eX12_count (k := 1198) hp (rX12_count_0 hE ⟨fun w => absurd w (by decide), fun w => absurd w (by decide), fun w => absurd w (by decide), fun w => absurd w (by decide), fun w => absurd w (by decide), fun w => absurd w (by decide), fun w => absurd w (by decide), fun w => absurd w (by decide), fun w => absurd w (by decide), fun _ => ⟨rf 3 (by decide) (by decide), hT⟩, fun w => absurd w (by decide), fun w => absurd w (by decide), fun w => absurd w (by decide), fun w => absurd w (by decide)⟩)
  · subst u
    exact eX12_count (k := 1198) hp (rX12_count_0 hE ⟨fun w => absurd w (by decide), fun w => absurd w (by decide), fun w => absurd w (by decide), fun w => absurd w (by decide), fun w => absurd w (by decide), fun w => absurd w (by decide), fun w => absurd w (by decide), fun w => absurd w (by decide), fun w => absurd w (by decide), fun w => absurd w (by decide), fun _ => ⟨rf 5 (by decide) (by decide), hT⟩, fun w => absurd w (by decide), fun w => absurd w (by decide), fun w => absurd w (by decide)⟩)
  · subst u
    exact eX12_count (k := 1198) hp (rX12_count_0 hE ⟨fun w => absurd w (by decide), fun w => absurd w (by decide), fun w => absurd w (by decide), fun w => absurd w (by decide), fun w => absurd w (by decide), fun w => absurd w (by decide), fun w => absurd w (by decide), fun w => absurd w (by decide), fun w => absurd w (by decide), fun w => absurd w (by decide), fun w => absurd w (by decide), fun _ => ⟨rf 6 (by decide) (by decide), hT⟩, fun w => absurd w (by decide), fun w => absurd w (by decide)⟩)
  · subst u
    exact eX12_count (k := 1198) hp (rX12_count_0 hE ⟨fun w => absurd w (by decide), fun w => absurd w (by decide), fun w => absurd w (by decide), fun w => absurd w (by decide), fun w => absurd w (by decide), fun w => absurd w (by decide), fun w => absurd w (by decide), fun w => absurd w (by decide), fun w => absurd w (by decide), fun w => absurd w (by decide), fun w => absurd w (by decide), fun w => absurd w (by decide), fun _ => ⟨hF.2.2.2.2.2.2.1, hT⟩, fun w => absurd w (by decide)⟩)
  · have nn : ∀ j : Int, 0 ≤ j → j ≤ 12 → ¬ p = j := fun j a b e => by omega
    refine fun r => s_isWithin hE r (by decide) (by decide) (fun a b => ⟨fun d => absurd d (by decide), fun _ => ⟨⟨by omega, by omega⟩, ⟨by omega, by omega⟩, ?_⟩⟩) fun a => ⟨fun _ => ?_, fun d => absurd rfl d⟩
    · refine eX12_count (k := 1198) hp (rX12_count_0 hE ⟨fun w => absurd w (nn 0 (by decide) (by decide)), fun w => absurd w (nn 1 (by decide) (by decide)), fun w => absurd w (nn 2 (by decide) (by decide)), fun w => absurd w (nn 3 (by decide) (by decide)), fun w => absurd w (nn 4 (by decide) (by decide)), fun w => absurd w (nn 5 (by decide) (by decide)), fun w => absurd w (nn 6 (by decide) (by decide)), fun w => absurd w (nn 7 (by decide) (by decide)), fun w => absurd w (nn 8 (by decide) (by decide)), fun w => absurd w (nn 9 (by decide) (by decide)), fun w => absurd w (nn 10 (by decide) (by decide)), fun w => absurd w (nn 11 (by decide) (by decide)), fun w => absurd w (nn 12 (by decide) (by decide)), fun _ r => s_in hE r (by decide) (by decide) (fun _ _ => ⟨fun d => absurd d (by decide), fun _ => ⟨⟨by omega, by omega⟩, ⟨by omega, by omega⟩, ⟨by omega, by omega⟩, ?_, hT⟩⟩) fun q => absurd q (by omega)⟩)
      rw [aUp_nn (by omega), show 3 + p - 13 = 3 + (p - 13) by omega]
      exact a4 (p - 13) (by omega) (by omega)
    · exact eX12_count (k := 1198) hp (rX12_count_0 hE ⟨fun w => absurd w (nn 0 (by decide) (by decide)), fun w => absurd w (nn 1 (by decide) (by decide)), fun w => absurd w (nn 2 (by decide) (by decide)), fun w => absurd w (nn 3 (by decide) (by decide)), fun w => absurd w (nn 4 (by decide) (by decide)), fun w => absurd w (nn 5 (by decide) (by decide)), fun w => absurd w (nn 6 (by decide) (by decide)), fun w => absurd w (nn 7 (by decide) (by decide)), fun w => absurd w (nn 8 (by decide) (by decide)), fun w => absurd w (nn 9 (by decide) (by decide)), fun w => absurd w (nn 10 (by decide) (by decide)), fun w => absurd w (nn 11 (by decide) (by decide)), fun w => absurd w (nn 12 (by decide) (by decide)), fun _ r => s_in hE r (by decide) (by decide) (fun q q2 => absurd a (by omega)) fun q => ⟨fun _ => ⟨rfl, hT⟩, fun d => absurd rfl d⟩⟩)
