-- the four acts on the model's side
def bFr (m m2 : Mm) : Prop := ∀ o i, o ≠ 605 → ¬ (o = 608 ∧ i < 1232) → o ≠ 609 → o ≠ 621 → o ≠ 623 → o ≠ 624 → ¬ (o = 603 ∧ (i = 8 ∨ i = 34 ∨ i = 38 ∨ i = 39 ∨ i = 40 ∨ i = 42 ∨ i = 43)) → m2 o i = m o i
theorem bFr_rf {m : Mm} : bFr m m := fun _ _ _ _ _ _ _ _ _ => rfl
theorem bFr_tr {m m2 m3 : Mm} (h : bFr m m2) (h2 : bFr m2 m3) : bFr m m3 := fun o i a b c d e f g => (h2 o i a b c d e f g).trans (h o i a b c d e f g)
theorem bFr_g {m m2 : Mm} (h : gFr m m2) : bFr m m2 := fun o i _ _ _ d e _ g => h o i d e fun q => g ⟨q.1, by omega⟩
theorem bFr_p {m m2 : Mm} (h : pFr m m2) : bFr m m2 := fun o i a _ _ d e f g => h o i a d e f fun q => g ⟨q.1, by omega⟩
theorem bFr_rem {m m2 : Mm} (h : ∀ o i, ¬ (o = 608 ∧ i < 1232) → o ≠ 609 → ¬ (o = 603 ∧ i = 8) → m2 o i = m o i) : bFr m m2 := fun o i _ b c _ _ _ g => h o i b c fun q => g ⟨q.1, Or.inl q.2⟩
def mV (m : Mm) (r : Rw) (P : PS) (L : LW) : Prop := m 605 = r ∧ pM m P ∧ mL m L ∧ m 603 20 = 0
theorem pM_row {m m2 : Mm} {P : PS} (h5 : ∀ i, i < 3 ∨ 80 ≤ i → m2 605 i = m 605 i) (h8 : ∀ i, i < 1232 → m2 608 i = m 608 i) (h9 : ∀ i, m2 609 i = m 609 i) (hn : m2 603 8 = m 603 8) (h16 : P.1 ≤ 16) (hP : pM m P) : pM m2 P := by
  obtain ⟨a1, a2⟩ := hP
  refine ⟨hn.trans a1, fun k u v => ?_⟩
  obtain ⟨b1, b2⟩ := a2 k u v
  refine ⟨?_, (h9 k).trans b2⟩
  rw [← b1]
  funext i
  unfold snR
  by_cases y : 3 ≤ i ∧ i < 80
  · rw [if_pos y, if_pos y]; exact h8 _ (by omega)
  · rw [if_neg y, if_neg y]; exact h5 i (by omega)
theorem pM_g {m m2 : Mm} {P : PS} (h : gFr m m2) (h16 : P.1 ≤ 16) (hP : pM m P) : pM m2 P :=
  pM_row (fun i _ => congrFun (gFr_605 h) i) (fun i _ => h 608 i (by decide) (by decide) (fun q => absurd q.1 (by decide))) (fun i => h 609 i (by decide) (by decide) (fun q => absurd q.1 (by decide))) (h 603 8 (by decide) (by decide) (by decide)) h16 hP
theorem m_buryNow {E : EN} (hE : Ep E) {k : Nat} {mem : Mm} {Q : Int → Mm → Prop} {L : LW} {r : Rw} {P : PS} {f c sm : Int} (hV : mV mem r P L) (hok : rOk 999 r) (hP : pOk P) (hf : R32 f) (hc : R32 c) (hs : R32 sm) (hs1 : sm = 0 ∨ sm = 1) (hQ : ∀ m2 : Mm, bFr mem m2 → m2 603 43 = mem 603 43 → mV m2 (aBury L r P f c sm).2.1 (aBury L r P f c sm).2.2 L → Q (aBury L r P f c sm).1 m2) : CI E mX12_buryNow (k + 7) mem [aR 603, aI f, aI c, aI sm] Q := by
  obtain ⟨rfl, v2, v3, v4⟩ := hV
  unfold aBury at hQ
  have h0 := hok.1
  have no : ¬ ((0 ≤ f ∧ f < 6) ∧ 0 ≤ c ∧ c < 32) → Q (-1) mem := fun z => by
    rw [if_pos z] at hQ
    exact hQ mem bFr_rf rfl ⟨rfl, v2, v3, v4⟩
  refine eX12_buryNow hf hc hs (rX12_buryNow_0 hE fun r1 => s_in hE r1 (by decide) (by decide) (fun a b => ⟨fun d => absurd d (by decide), fun _ _ => m_isCell (k := k + 5) hE hc (fun a2 b2 => ⟨fun d => absurd d (by decide), fun _ r3 => s_in hE r3 (by decide) (by decide) (fun a3 b3 => ⟨fun _ _ _ => ?_, fun d => absurd d (by decide)⟩) (fun a3 => absurd a3 (by omega))⟩) (fun a2 => ⟨fun _ => no (by omega), fun d => absurd rfl d⟩)⟩) (fun a => ⟨fun _ => no (by omega), fun d => absurd rfl d⟩))
  rw [if_neg (fun z => z ⟨⟨a, by omega⟩, a2, b2⟩)] at hQ
  refine m_canLie (k := k) hE v4 v3 (by decide) hok a (by omega) a2 b2 fun m2 q => ?_
  have e5 := gFr_605 q
  have e43 : m2 603 43 = mem 603 43 := q 603 43 (by decide) (by decide) (by decide)
  have e20 : m2 603 20 = 0 := (q 603 20 (by decide) (by decide) (by decide)).trans v4
  have w2 : pM m2 P := pM_g q hP.2.1 v2
  cases hl : rLi L (mem 605) f c with
  | false =>
    rw [hl, if_pos rfl] at hQ
    exact ⟨fun d => absurd rfl d, fun _ => hQ m2 (bFr_g q) e43 ⟨e5, w2, mL_eq e5 v3, e20⟩⟩
  | true =>
    rw [hl, if_neg (by decide)] at hQ
    refine ⟨fun _ => ⟨fun d => ?_, fun d => ?_⟩, fun d => absurd d (by decide)⟩
    · rw [e5] at d
      have h10 := hok.2.1
      rw [if_neg (by omega)] at hQ
      refine m_remember (k := k + 5) hE w2 hP.1 hP.2.1 (by decide) fun m3 g1 g2 _ _ _ => ?_
      have f5 : m3 605 = mem 605 := (funext fun i => g1 605 i (by omega) (by decide) (by omega)).trans e5
      refine m_lay hE (by rw [f5]; exact h0) (by rw [f5]; omega) hf hc hs fun m4 y1 y2 => ?_
      rw [f5] at y2
      rw [e5] at g2
      have f7 : m4 605 7 = mem 605 7 + 1 := by rw [y2, rAd_at, if_pos rfl]
      rw [f7, show mem 605 7 + 1 - 1 = mem 605 7 by omega]
      have go : ∀ i, i < 3 ∨ 80 ≤ i → m4 605 i = m3 605 i := fun i u => by rw [y2, f5]; exact rAd_out h0 h10 (by omega)
      refine ⟨⟨by omega, by omega⟩, hQ m4 (bFr_tr (bFr_g q) (bFr_tr (bFr_rem g1) fun o i u _ _ _ _ _ _ => y1 o i u)) (((y1 603 43 (by decide)).trans (g1 603 43 (by decide) (by decide) (by decide))).trans e43) ⟨y2, pM_row go (fun i _ => y1 608 i (by decide)) (fun i => y1 609 i (by decide)) (y1 603 8 (by decide)) (psh_16 hP.2.1) g2, mL_fr ?_ (fun i u => ?_) v3, ?_⟩⟩
      · rw [go 2 (by decide), f5]
      · rw [go i (by omega), f5]
      · exact ((y1 603 20 (by decide)).trans (g1 603 20 (by decide) (by decide) (by decide))).trans e20
    · rw [e5] at d
      rw [if_pos (by omega)] at hQ
      exact hQ m2 (bFr_g q) e43 ⟨e5, w2, mL_eq e5 v3, e20⟩
theorem m_buyNow {E : EN} (hE : Ep E) {k : Nat} {mem : Mm} {Q : Int → Mm → Prop} {L : LW} {r : Rw} {P : PS} {c : Int} (hV : mV mem r P L) (hP : pOk P) (hc : R32 c) (hQ : ∀ m2 : Mm, bFr mem m2 → m2 603 43 = mem 603 43 → mV m2 (aBuy r P c).2.1 (aBuy r P c).2.2 L → Q (aBuy r P c).1 m2) : CI E mX12_buyNow (k + 2) mem [aR 603, aI c] Q := by
  obtain ⟨rfl, v2, v3, v4⟩ := hV
  unfold aBuy at hQ
  refine eX12_buyNow hc (rX12_buyNow_0 hE fun _ => m_isCell (k := k) hE hc (fun a b => ⟨fun _ => ?_, fun d => absurd d (by decide)⟩) (fun a => ⟨fun d => absurd rfl d, fun _ => ?_⟩))
  · rw [if_neg (fun z => z ⟨a, b⟩)] at hQ
    have no : ¬ (mem 605 (80 + c) = 1 ∧ ¬ mem 605 (48 + c) = 1) → Q (-3) mem := fun z => by
      rw [if_pos z] at hQ
      exact hQ mem bFr_rf rfl ⟨rfl, v2, v3, v4⟩
    refine ⟨⟨by omega, by omega⟩, ⟨by omega, by omega⟩, fun d => no fun z => d z.1, fun d => ⟨⟨by omega, by omega⟩, ⟨by omega, by omega⟩, fun e => ?_, fun e => no fun z => z.2 e⟩⟩
    rw [if_neg (fun z => z ⟨d, e⟩)] at hQ
    refine m_remember (k := k) hE v2 hP.1 hP.2.1 (by decide) fun m3 g1 g2 => ⟨⟨by omega, by omega⟩, ⟨by omega, by omega⟩, ?_⟩
    have f5 : m3 605 = mem 605 := funext fun i => g1 605 i (by omega) (by decide) (by omega)
    rw [aUp_ri (show (112 : Int) + c ≠ 48 + c by omega), f5]
    have go : ∀ i, i < 3 ∨ 80 ≤ i → (aUp m3 605 (48 + c) 1) 605 i = m3 605 i := fun i u => aUp_ri (by omega)
    refine hQ _ (bFr_tr (bFr_rem g1) fun o i u _ _ _ _ _ _ => aUp_rn u) ((aUp_rn (by decide)).trans (g1 603 43 (by decide) (by decide) (by decide))) ⟨by rw [aUp_rUp, f5], pM_row go (fun i _ => aUp_rn (by decide)) (fun i => aUp_rn (by decide)) (aUp_rn (by decide)) (psh_16 hP.2.1) g2, mL_fr ?_ (fun i u => ?_) v3, ?_⟩
    · rw [go 2 (by decide), f5]
    · rw [go i (by omega), f5]
    · exact (aUp_rn (by decide)).trans ((g1 603 20 (by decide) (by decide) (by decide)).trans v4)
  · rw [if_pos (by omega)] at hQ
    exact hQ mem bFr_rf rfl ⟨rfl, v2, v3, v4⟩
theorem m_rm_l {E : EN} (hE : Ep E) {k : Nat} {m0 : Mm} {Q : Int → Mm → Prop} {r : Rw} {p w : Int} (h10 : r 7 ≤ 10) (h0 : 0 ≤ p) (hp : p < r 7) (hQ : ∀ m2 : Mm, (∀ o i, o ≠ 605 → m2 o i = m0 o i) → m2 605 = rRm r p → Q w m2) : ∀ (n : Nat) (mem : Mm) (x : Int), p ≤ x → x + n = r 7 - 1 → (∀ o i, o ≠ 605 → mem o i = m0 o i) → (∀ i, mem 605 i = if i = 7 then r 7 - 1 else if (8 + p ≤ i ∧ i < 8 + x) ∨ (18 + p ≤ i ∧ i < 18 + x) ∨ (28 + p ≤ i ∧ i < 28 + x) ∨ (38 + p ≤ i ∧ i < 38 + x) then r (i + 1) else r i) → VM E mX12_raiseNow (k + 1) mem 39 [(0, aR 603), (2, aI w), (3, aI x)] [] (retI Q) := by
  intro n
  induction n with
  | zero =>
    intro mem x x0 x1 e1 e2
    have e7 : mem 605 7 = r 7 - 1 := by rw [e2, if_pos rfl]
    refine rX12_raiseNow_39 (p0 := 0) hE ⟨fun _ => hQ mem e1 (funext fun i => ?_), fun c => absurd c (by omega)⟩
    rw [e2]
    unfold rRm
    by_cases z : i = 7
    · rw [if_pos z, if_pos z]
    · rw [if_neg z, if_neg z]
      by_cases y : (8 + p ≤ i ∧ i < 8 + x) ∨ (18 + p ≤ i ∧ i < 18 + x) ∨ (28 + p ≤ i ∧ i < 28 + x) ∨ (38 + p ≤ i ∧ i < 38 + x)
      · rw [if_pos y, if_pos (by omega)]
      · rw [if_neg y, if_neg (by omega)]
  | succ n ih =>
    intro mem x x0 x1 e1 e2
    have e7 : mem 605 7 = r 7 - 1 := by rw [e2, if_pos rfl]
    have rd : ∀ b, b = 8 ∨ b = 18 ∨ b = 28 ∨ b = 38 → mem 605 (b + x + 1) = r (b + x + 1) := fun b hb => by rw [e2, if_neg (by omega), if_neg (by omega)]
    refine rX12_raiseNow_39 (p0 := 0) hE ⟨fun c => absurd c (by omega), fun _ => ?_⟩
    rw [aUp_ri (show (18 : Int) + x + 1 ≠ 8 + x by omega), aUp_ri (show (28 : Int) + x + 1 ≠ 18 + x by omega), aUp_ri (show (28 : Int) + x + 1 ≠ 8 + x by omega), aUp_ri (show (38 : Int) + x + 1 ≠ 28 + x by omega), aUp_ri (show (38 : Int) + x + 1 ≠ 18 + x by omega), aUp_ri (show (38 : Int) + x + 1 ≠ 8 + x by omega), rd 8 (by omega), rd 18 (by omega), rd 28 (by omega), rd 38 (by omega)]
    refine ⟨⟨by omega, by omega⟩, ⟨by omega, by omega⟩, ⟨by omega, by omega⟩, ⟨by omega, by omega⟩, ⟨by omega, by omega⟩, ⟨by omega, by omega⟩, ⟨by omega, by omega⟩, ⟨by omega, by omega⟩, ⟨by omega, by omega⟩, ⟨by omega, by omega⟩, ⟨by omega, by omega⟩, ⟨by omega, by omega⟩, ⟨by omega, by omega⟩, ⟨by omega, by omega⟩, ⟨by omega, by omega⟩, ⟨by omega, by omega⟩, ⟨by omega, by omega⟩, ih _ (x + 1) (by omega) (by omega) (fun o i u => ?_) (fun i => ?_)⟩
    · rw [aUp_rn u, aUp_rn u, aUp_rn u, aUp_rn u]; exact e1 o i u
    · by_cases z8 : i = 8 + x
      · rw [aUp_ri (by omega), aUp_ri (by omega), aUp_ri (by omega), z8, aUp_re, if_neg (by omega), if_pos (by omega)]
      · by_cases z18 : i = 18 + x
        · rw [aUp_ri (by omega), aUp_ri (by omega), z18, aUp_re, if_neg (by omega), if_pos (by omega)]
        · by_cases z28 : i = 28 + x
          · rw [aUp_ri (by omega), z28, aUp_re, if_neg (by omega), if_pos (by omega)]
          · by_cases z38 : i = 38 + x
            · rw [z38, aUp_re, if_neg (by omega), if_pos (by omega)]
            · rw [aUp_ri z38, aUp_ri z28, aUp_ri z18, aUp_ri z8, e2]
              by_cases z : i = 7
              · rw [if_pos z, if_pos z]
              · rw [if_neg z, if_neg z]
                by_cases y : (8 + p ≤ i ∧ i < 8 + x) ∨ (18 + p ≤ i ∧ i < 18 + x) ∨ (28 + p ≤ i ∧ i < 28 + x) ∨ (38 + p ≤ i ∧ i < 38 + x)
                · rw [if_pos y, if_pos (by omega)]
                · rw [if_neg y, if_neg (by omega)]
theorem rRm_out {r : Rw} {p i : Int} (h0 : 0 ≤ p) (h10 : r 7 ≤ 10) (hi : i < 3 ∨ 80 ≤ i) : rRm r p i = r i := by
  unfold rRm
  rw [if_neg (by omega), if_neg (by omega)]
theorem m_raiseNow {E : EN} (hE : Ep E) {k : Nat} {mem : Mm} {Q : Int → Mm → Prop} {L : LW} {r : Rw} {P : PS} {p : Int} (hV : mV mem r P L) (hok : rOk 999 r) (hP : pOk P) (hp : R32 p) (hQ : ∀ m2 : Mm, bFr mem m2 → m2 603 43 = mem 603 43 → mV m2 (aRaise r P p).2.1 (aRaise r P p).2.2 L → Q (aRaise r P p).1 m2) : CI E mX12_raiseNow (k + 2) mem [aR 603, aI p] Q := by
  obtain ⟨rfl, v2, v3, v4⟩ := hV
  have h10 := hok.2.1
  have h0 := hok.1
  unfold aRaise at hQ
  refine eX12_raiseNow hp (rX12_raiseNow_0 hE fun _ => m_isPlot (k := k) hE hp h0 h10 (fun a b => ⟨fun _ => ?_, fun d => absurd d (by decide)⟩) (fun a => ⟨fun d => absurd rfl d, fun _ => ?_⟩))
  · rw [if_neg (fun z => z ⟨a, b⟩)] at hQ
    refine m_remember (k := k) hE v2 hP.1 hP.2.1 (by decide) fun m3 g1 g2 => ?_
    have f5 : m3 605 = mem 605 := funext fun i => g1 605 i (by omega) (by decide) (by omega)
    rw [f5]
    refine ⟨⟨by omega, by omega⟩, ⟨by omega, by omega⟩, ⟨by omega, by omega⟩, ?_⟩
    refine m_rm_l hE (m0 := m3) (r := mem 605) (p := p) h10 a b (fun m4 y1 y2 => ?_) (mem 605 7 - 1 - p).toNat _ p (by omega) (by omega) (fun o i u => aUp_rn u) (fun i => ?_)
    · have go : ∀ i, i < 3 ∨ 80 ≤ i → m4 605 i = m3 605 i := fun i u => by rw [y2, f5]; exact rRm_out a h10 u
      refine hQ m4 (bFr_tr (bFr_rem g1) fun o i u _ _ _ _ _ _ => y1 o i u) ((y1 603 43 (by decide)).trans (g1 603 43 (by decide) (by decide) (by decide))) ⟨y2, pM_row go (fun i _ => y1 608 i (by decide)) (fun i => y1 609 i (by decide)) (y1 603 8 (by decide)) (psh_16 hP.2.1) g2, mL_fr ?_ (fun i u => ?_) v3, ?_⟩
      · rw [go 2 (by decide), f5]
      · rw [go i (by omega), f5]
      · exact (y1 603 20 (by decide)).trans ((g1 603 20 (by decide) (by decide) (by decide)).trans v4)
    · rw [aUp_at, f5]
      by_cases z : i = 7
      · rw [if_pos ⟨rfl, z⟩, if_pos z]
      · rw [if_neg (fun q => z q.2), if_neg z, if_neg (by omega)]
  · rw [if_pos (by omega)] at hQ
    exact hQ mem bFr_rf rfl ⟨rfl, v2, v3, v4⟩
theorem m_passNow {E : EN} (hE : Ep E) {k : Nat} {mem : Mm} {Q : Int → Mm → Prop} {L : LW} {r : Rw} {P : PS} (hV : mV mem r P L) (hok : rOk 999 r) (hP : pOk P) (hQ : ∀ m2 : Mm, bFr mem m2 → m2 603 43 = (if 999 ≤ r 3 then mem 603 43 else (rTn L r).2.2) → mV m2 (aPass L r P).2.1 (aPass L r P).2.2 L → Q (aPass L r P).1 m2) : CI E mX12_passNow (k + 8) mem [aR 603] Q := by
  obtain ⟨rfl, v2, v3, v4⟩ := hV
  have hy := hok.2.2.2.2.2.1
  unfold aPass at hQ
  refine eX12_passNow (rX12_passNow_0 hE (m_term hE (by decide) (by decide) ⟨fun c => ?_, fun c => ?_⟩))
  · rw [show (3 : Int) + 0 = 3 from rfl] at c
    rw [if_neg (by omega), if_neg (by omega)] at hQ
    refine m_remember (k := k + 6) hE v2 hP.1 hP.2.1 (by decide) fun m3 g1 g2 => ?_
    have f5 : m3 605 = mem 605 := funext fun i => g1 605 i (by omega) (by decide) (by omega)
    refine m_turn (k := k) (Y := 999) hE ((g1 603 20 (by decide) (by decide) (by decide)).trans v4) (mL_eq f5 v3) (by decide) (by rw [f5]; exact hok) fun m4 a b c2 _ => ?_
    rw [f5] at b c2 ⊢
    have kp := (rTn_ok (L := L) hok).2
    have go : ∀ i, i < 3 ∨ 80 ≤ i → (aUp m4 603 43 (m4 603 42)) 605 i = m3 605 i := fun i u => by rw [aUp_rn (by decide), b, f5]; exact rKp_out kp u
    have q8 : ∀ i, (aUp m4 603 43 (m4 603 42)) 608 i = m3 608 i := fun i => (aUp_rn (by decide)).trans (a 608 i (by decide) (by decide) (by decide) (by decide) (fun q => absurd q.1 (by decide)))
    have q9 : ∀ i, (aUp m4 603 43 (m4 603 42)) 609 i = m3 609 i := fun i => (aUp_rn (by decide)).trans (a 609 i (by decide) (by decide) (by decide) (by decide) (fun q => absurd q.1 (by decide)))
    have qn : (aUp m4 603 43 (m4 603 42)) 603 8 = m3 603 8 := (aUp_ri (by decide)).trans (a 603 8 (by decide) (by decide) (by decide) (by decide) (by decide))
    refine hQ _ (bFr_tr (bFr_rem g1) (bFr_tr (bFr_p a) fun o i _ _ _ _ _ _ g => if_neg fun q => g ⟨q.1, by omega⟩)) (by rw [aUp_re, c2]) ⟨(aUp_ne (by decide)).trans b, pM_row go (fun i _ => q8 i) q9 qn (psh_16 hP.2.1) g2, mL_fr ?_ (fun i u => ?_) v3, ?_⟩
    · rw [go 2 (by decide), f5]
    · rw [go i (by omega), f5]
    · exact (aUp_ri (by decide)).trans ((a 603 20 (by decide) (by decide) (by decide) (by decide) (by decide)).trans ((g1 603 20 (by decide) (by decide) (by decide)).trans v4))
  · rw [show (3 : Int) + 0 = 3 from rfl] at c
    rw [if_pos (by omega), if_pos (by omega)] at hQ
    exact hQ mem bFr_rf rfl ⟨rfl, v2, v3, v4⟩
