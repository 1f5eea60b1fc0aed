-- the class's PLAIN and TEST
def pCore (od : Bool) (T : Rw) (n : Int) (b : Nat) (u : Bool) (q c : Int) : PR := if tG T n q = 40 then (match b with
    | 0 => .inr (tF T n q)
    | b' + 1 => pClo T n 41 u (lpT T n (pPlain od T n b') (tT T n q) c)) else pCmp od T n b u q c
theorem pPlain_core (od : Bool) (T : Rw) (n : Int) (b : Nat) (p c : Int) : pPlain od T n b p c = pCore od T n b (pNots T n 401 p).1 (pNots T n 401 p).2 c := by
  cases b <;> rfl
theorem not_len {T : Rw} {n p : Int} (hpn : p ≤ n) (h : tW T n p = 14836) : tF T n p + 3 ≤ tT T n p := by
  have s1 := tW_s (T := T) (n := n) (p := p) (by omega)
  have b := tT_b (T := T) hpn
  have := b.2.2 (by omega)
  have w1 : tW T n p = (if tT T n p - tF T n p ≤ 10 then hsh T (tF T n p) (tT T n p - tF T n p).toNat else -1) := if_pos s1
  have h3 : hsh (lFn [110, 111, 116]) 0 ([110, 111, 116] : List Int).length = 14836 := by decide
  have := (tok_w (T := T) (f := tF T n p) (z := tT T n p - tF T n p) (u := [110, 111, 116]) (by omega) (fun j u v => tT_le s1 u (by omega)) (by decide) (by decide) (by decide)).mpr (by rw [h3, ← w1]; exact h)
  have h4 : ((([110, 111, 116] : List Int).length : Nat) : Int) = 3 := rfl
  omega
theorem c_core {E : EN} (hE : Ep E) (hSt : aStr E) {k : Nat} {mem : Mm} {Q : Int → Mm → Prop} {t : Int} {T : Rw} {n : Int} {od : Bool} {N dp x2 : Int} {L b : Nat} {u : Bool} {p p0 c s : Int} (ht : isTx t) (hT : tOk T n) (hL : L + 3 < 40) (hdp : dp = 8 - (b : Int)) (hb8 : b ≤ 8)
    (hsum : cEl E mX7_readSum (k + 6) dp t T n od N (L + 1) (pSum od T n b)) (htst : ∀ b', b = b' + 1 → cEl E mX7_readTest (k + 6) (dp + 1) t T n od N L (lpT T n (pPlain od T n b')))
    (hx2 : (u = false ∧ x2 = 0) ∨ (u = true ∧ x2 = 1)) (hst : cSt mem t T n od p c s) (hp : 0 ≤ p) (hpn : p ≤ n) (hc : 0 ≤ c) (hc2 : c ≤ 50) (hs0 : 0 ≤ s) (hcnt : s + x2 ≤ tF T n p) (hp0 : tF T n p0 + x2 ≤ tF T n p)
    (hF : ∀ x, pCore od T n b u p c = .inr x → ∀ m2, cFr t s mem m2 → m2 591 7 = x → Q 0 m2) (hO : ∀ q d f, pCore od T n b u p c = .inl (q, d, f) → ∀ m2 s2, cFr t s mem m2 → cSt m2 t T n od q d s2 → s2 - s ≤ tF T n q - tF T n p0 → cSg N m2 t L s s2 f → Q 1 m2) :
    (CI E mX7_isSign (k + 6) mem [aR 591, aI 40] (fun r29 m28 => ((r29 = 0 → (R32 dp → CI E mX7_readSum (k + 6) m28 [aR 591, aI dp] (fun r31 m30 => ((¬ r31 = 0 → (CI E mX7_signIn (k + 6) m30 [aR 591, aF (strA E 8)] (fun r33 m32 => ((¬ r33 = (-1) → (CV E mX7_advance (k + 6) m32 [aR 591] (fun m34 => (R32 dp → CI E mX7_readSum (k + 6) m34 [aR 591, aI dp] (fun r36 m35 => ((¬ r36 = 0 → (isTx (m35 591 4)) ∧ (R32 r33 → CI E mX9_emit (k + 6) m35 [aR (m35 591 4), aI r33, aI 0] (fun r39 m38 => ((x2 = 0 → Q 1 m38) ∧ (¬ x2 = 0 → (isTx (m38 591 4)) ∧ (CI E mX9_emit (k + 6) m38 [aR (m38 591 4), aI 2, aI 0] (fun r42 m41 => Q 1 m41))))))) ∧ (r36 = 0 → Q 0 m35))))))) ∧ (r33 = (-1) → Q 0 m32))))) ∧ (r31 = 0 → Q 0 m30))))) ∧ (¬ r29 = 0 → ((dp < 8 → (CV E mX7_advance (k + 6) m28 [aR 591] (fun m43 => (R32 (dp + 1)) ∧ (R32 (dp + 1) → CI E mX7_readTest (k + 6) m43 [aR 591, aI (dp + 1)] (fun r46 m45 => ((r46 = 0 → Q 0 m45) ∧ (¬ r46 = 0 → (CI E mX7_isSign (k + 6) m45 [aR 591, aI 41] (fun r48 m47 => ((¬ r48 = 0 → (CV E mX7_advance (k + 6) m47 [aR 591] (fun m49 => ((x2 = 0 → Q 1 m49) ∧ (¬ x2 = 0 → (isTx (m49 591 4)) ∧ (CI E mX9_emit (k + 6) m49 [aR (m49 591 4), aI 2, aI 0] (fun r52 m51 => Q 1 m51))))))) ∧ (r48 = 0 → Q 0 m47))))))))))) ∧ (8 ≤ dp → Q 0 m28)))))) := by
  have hT1 := hT.2.1
  have machc := machC N
  have hbF := tF_b (T := T) hpn
  have fin : ∀ (m : Mm) (s3 q d : Int) (f : Rw → Int), cFr t s mem m → cSt m t T n od q d s3 → q ≤ n → cSg N m t L s s3 f → tB f → s3 + x2 - s ≤ tF T n q - tF T n p0 → s3 + x2 ≤ 400 → pCore od T n b u p c = .inl (q, d, neg u f) → ((x2 = 0 → Q 1 m) ∧ (¬ x2 = 0 → (isTx (m 591 4)) ∧ (CI E mX9_emit (k + 6) m [aR (m 591 4), aI 2, aI 0] (fun r42 m41 => Q 1 m41)))) := by
    intro m s3 q d f g1 g2 gq g3 g4 g5 g6 g7
    have hs3 := g3.2.1
    refine ⟨fun z => ?_, fun z => ⟨by rw [g2.2.1]; exact ht, ?_⟩⟩
    · rcases hx2 with ⟨u1, -⟩ | ⟨-, u2⟩
      · subst u1
        exact hO q d f g7 m s3 g1 g2 (by omega) g3
      · omega
    · rcases hx2 with ⟨-, u2⟩ | ⟨u1, u2⟩
      · exact absurd u2 z
      · subst u1
        rw [g2.2.1]
        exact c_emit hE ht g2 (by omega) (by omega) (by decide) (by decide) fun m2 a1 a2 a3 a4 _ => hO q d _ g7 m2 (s3 + 1) (cFr_tr g1 a1 (by omega)) a2 (by omega) (sg_not (cd := cdC) machc (lim := 40) (by omega) (cFr_sg ht a1 (Int.le_refl s3) g3) a3 a4 g4)
  refine c_isSign hE hT hst.1 hp hpn (by decide) (by decide) (fun g => ⟨fun z => absurd z (by decide), fun _ => ?_⟩) (fun g => ⟨fun _ _ => ?_, fun z => absurd rfl z⟩)
  · cases b with
    | zero =>
      have e : pCore od T n 0 u p c = .inr (tF T n p) := if_pos g
      exact ⟨fun z => absurd z (by omega), fun _ => hF _ e mem cFr_rf hst.1.2.1⟩
    | succ b =>
      have e : pCore od T n (b + 1) u p c = pClo T n 41 u (lpT T n (pPlain od T n b) (tT T n p) c) := if_pos g
      have nx := nx_b (T := T) hpn (by rw [tG_s (T := T) (n := n) (p := p) (by omega)]; decide)
      have hbx := tF_b (T := T) nx.2.1
      refine ⟨fun _ => c_advS hE ht hT hst hp hpn fun m1 a1 a2 => ⟨⟨by omega, by omega⟩, fun _ => ?_⟩, fun z => absurd z (by omega)⟩
      refine htst b rfl m1 _ (tT T n p) c s a2 (by omega) nx.2.1 hc hc2 hs0 (by omega) (fun x hx m2 b1 b2 => ⟨fun _ => hF x (by rw [e, hx]; rfl) m2 (cFr_tr (cFr_4 a1) b1 (Int.le_refl _)) b2, fun z => absurd rfl z⟩) (fun q d f hq m2 s2 b1 b2 b3 b4 => ⟨fun z => absurd z (by decide), fun _ => ?_⟩)
      obtain ⟨k1, k2, k3, k4, k5⟩ := lpT_ok hT1 (pPlain_ok hT1 b) _ _ _ _ _ (by omega) nx.2.1 hc hc2 hq
      have hbq := tF_b (T := T) k2
      refine c_isSign hE hT b2.1 (by omega) k2 (by decide) (by decide) (fun g2 => ⟨fun _ => ?_, fun z => absurd z (by decide)⟩) (fun g2 => ⟨fun z => absurd rfl z, fun _ => ?_⟩)
      · have nx2 := nx_b (T := T) k2 (by rw [tG_s (T := T) (n := n) (p := q) (by omega)]; decide)
        have hbx2 := tF_b (T := T) nx2.2.1
        refine c_advS hE ht hT b2 (by omega) k2 fun m3 d1 d2 => fin m3 s2 _ d f (cFr_tr (cFr_tr (cFr_4 a1) b1 (Int.le_refl _)) (cFr_4 d1) (Int.le_refl _)) d2 nx2.2.1 (cFr_sg ht (cFr_4 d1) (Int.le_refl s2) b4) k5 (by omega) (by omega) (by rw [e, hq]; exact if_pos g2)
      · exact hF _ (by rw [e, hq]; exact if_neg g2) m2 (cFr_tr (cFr_4 a1) b1 (Int.le_refl _)) b2.1.2.1
  · have e : pCore od T n b u p c = pCmp od T n b u p c := if_neg g
    rw [e] at hF
    refine hsum mem _ p c s hst hp hpn hc hc2 hs0 (by omega) (fun x hx m2 b1 b2 => ⟨fun z => absurd rfl z, fun _ => hF x (by unfold pCmp; rw [hx]; rfl) m2 b1 b2⟩) (fun q d f hq m2 s2 b1 b2 b3 b4 => ⟨fun _ => ?_, fun z => absurd z (by decide)⟩)
    obtain ⟨k1, k2, k3, k4, k5⟩ := pSum_ok hT1 b _ _ _ _ _ hp hpn hc hc2 hq
    have hbq := tF_b (T := T) k2
    have hs2 := b4.2.1
    have ec : pCmp od T n b u p c = (if oCmp (tG T n q) = -1 then .inr (tF T n q) else (match pSum od T n b (tT T n q) d with
      | .inr x => .inr x
      | .inl (q2, d2, g) => .inl (q2, d2, neg u (cmb (oCmp (tG T n q)) f g)))) := by unfold pCmp; rw [hq]; rfl
    refine c_signIn hE hSt hT b2.1 (by omega) k2 (Or.inl rfl) ?_
    rcases sIn8 (tG T n q) with ⟨e1, e2⟩ | ⟨e1, e2, e3, e4, e5, e6⟩
    · rw [e2]
      rw [if_pos e1] at ec
      exact ⟨fun z => absurd rfl z, fun _ => hF _ ec m2 b1 b2.1.2.1⟩
    · rw [e3]
      rw [if_neg (by omega)] at ec
      have nx := nx_b (T := T) k2 (by rw [tG_s (T := T) (n := n) (p := q) (by omega)]; decide)
      have hbx := tF_b (T := T) nx.2.1
      refine ⟨fun _ => c_advS hE ht hT b2 (by omega) k2 fun m3 d1 d2 _ => ?_, fun z => absurd z (by omega)⟩
      have fr3 : cFr t s mem m3 := cFr_tr b1 (cFr_4 d1) (Int.le_refl s)
      refine hsum m3 _ (tT T n q) d s2 d2 (by omega) nx.2.1 k3 k4 (by omega) (by omega) (fun x hx m4 f1 f2 => ⟨fun z => absurd rfl z, fun _ => hF x (by rw [ec, hx]) m4 (cFr_tr fr3 f1 (by omega)) f2⟩) (fun q4 d4 f4 hq4 m4 s4 f1 f2 f3 f5 => ⟨fun _ => ⟨by rw [f2.2.1]; exact ht, fun rr => ?_⟩, fun z => absurd z (by decide)⟩)
      obtain ⟨l1, l2, l3, l4, l5⟩ := pSum_ok hT1 b _ _ _ _ _ (by omega) nx.2.1 k3 k4 hq4
      have hbq4 := tF_b (T := T) l2
      have hs4 := f5.2.1
      rw [f2.2.1]
      refine c_emit hE ht f2 (by omega) (by omega) rr (by decide) fun m5 a1 a2 a3 a4 _ => ?_
      have hsg := sg_op (cd := cdC) machc (lim := 40) (L := L) (by omega) (cFr_sg ht a1 (by omega) (cFr_sg ht f1 (Int.le_refl s2) (cFr_sg ht (cFr_4 d1) (Int.le_refl s2) (sg_le (Nat.le_succ L) b4)))) (cFr_sg ht a1 (Int.le_refl s4) f5) ⟨by omega, by omega⟩ a3 a4 k5 l5
      exact fin m5 (s4 + 1) q4 d4 _ (cFr_tr (cFr_tr fr3 f1 (by omega)) a1 (by omega)) a2 l2 hsg (cmb_c ⟨e1, e2⟩) (by omega) (by omega) (by rw [e, ec, hq4])
theorem c_plain {E : EN} (hE : Ep E) (hSt : aStr E) {k : Nat} {t : Int} {T : Rw} {n : Int} {od : Bool} {N dp : Int} {L b : Nat} (ht : isTx t) (hT : tOk T n) (hL : L + 3 < 40) (hdp : dp = 8 - (b : Int)) (hb8 : b ≤ 8)
    (hsum : cEl E mX7_readSum (k + 6) dp t T n od N (L + 1) (pSum od T n b)) (htst : ∀ b', b = b' + 1 → cEl E mX7_readTest (k + 6) (dp + 1) t T n od N L (lpT T n (pPlain od T n b'))) : cEl E mX7_readPlain (k + 6 + 1) dp t T n od N L (pPlain od T n b) := by
  intro mem Q p c s hst hp hpn hc hc2 hs0 hsp hF hO
  have hT1 := hT.2.1
  rw [pPlain_core] at hF hO
  have rdp : R32 dp := ⟨by omega, by omega⟩
  have loop : ∀ (d : Nat) (m : Mm) (q x2 x3 : Int) (u : Bool), cF4 mem m → cSt m t T n od q c s → 0 ≤ q → q ≤ n → 401 - q ≤ d → 0 ≤ x3 → 3 * x3 ≤ q → ((u = false ∧ x2 = 0) ∨ (u = true ∧ x2 = 1)) → s + x2 ≤ tF T n q → tF T n p + x2 ≤ tF T n q → ((u ^^ (pNots T n d q).1) = (pNots T n 401 p).1 ∧ (pNots T n d q).2 = (pNots T n 401 p).2) → VM E mX7_readPlain (k + 6 + 1) m 4 [(0, aR 591), (1, aI dp), (2, aI x2), (3, aI x3)] [] (retI Q) := by
    intro d
    induction d with
    | zero => intro m q x2 x3 u _ _ _ h1 h2; exact absurd h2 (by omega)
    | succ d ih =>
      intro m q x2 x3 u hm hst2 q0 qn hd hx3 hx3q hx2 hcnt hp0 hN
      have hbq := tF_b (T := T) qn
      refine rX7_readPlain_4 (k := k + 6) hE hSt ⟨fun z => absurd z (by omega), fun _ => c_isWord hE hSt hT hst2.1 q0 qn (Or.inl (by decide)) rfl (fun w => ?_) (fun w => ⟨fun _ => ?_, fun z => absurd rfl z⟩)⟩
      · have nl := not_len (T := T) qn w
        have nx := nx_b (T := T) qn (by rw [tW_s (T := T) (n := n) (p := q) (by omega)]; decide)
        have hbx := tF_b (T := T) nx.2.1
        have hN2 : (pNots T n (d + 1) q).1 = !(pNots T n d (tT T n q)).1 ∧ (pNots T n (d + 1) q).2 = (pNots T n d (tT T n q)).2 := by
          constructor <;> (conv => lhs; unfold pNots) <;> rw [if_pos w]
        refine ⟨fun z => absurd z (by decide), fun _ => ⟨fun z => ?_, fun z => ?_⟩⟩
        · refine c_advS hE ht hT hst2 q0 qn fun m2 a1 a2 => ⟨⟨by omega, by omega⟩, ih m2 (tT T n q) 0 (x3 + 1) false (cF4_tr hm a1) a2 (by omega) nx.2.1 (by omega) (by omega) (by omega) (Or.inl ⟨rfl, rfl⟩) (by omega) (by omega) ?_⟩
          obtain ⟨u1, -⟩ : u = true ∧ x2 = 1 := hx2.resolve_left fun y => z y.2
          rw [hN2.1, hN2.2, u1] at hN
          refine ⟨?_, hN.2⟩
          rw [← hN.1]
          cases (pNots T n d (tT T n q)).1 <;> rfl
        · refine c_advS hE ht hT hst2 q0 qn fun m2 a1 a2 => ⟨⟨by omega, by omega⟩, ih m2 (tT T n q) 1 (x3 + 1) true (cF4_tr hm a1) a2 (by omega) nx.2.1 (by omega) (by omega) (by omega) (Or.inr ⟨rfl, rfl⟩) (by omega) (by omega) ?_⟩
          obtain ⟨u1, -⟩ : u = false ∧ x2 = 0 := hx2.resolve_right fun y => by omega
          rw [hN2.1, hN2.2, u1] at hN
          refine ⟨?_, hN.2⟩
          rw [← hN.1]
          cases (pNots T n d (tT T n q)).1 <;> rfl
      · have hN2 : pNots T n (d + 1) q = (false, q) := by
          conv => lhs; unfold pNots
          rw [if_neg w]
        rw [hN2] at hN
        have hN1 : (pNots T n 401 p).1 = u := by rw [← hN.1]; cases u <;> rfl
        rw [hN1, ← hN.2] at hF hO
        exact c_core hE hSt ht hT hL hdp hb8 hsum htst hx2 hst2 q0 qn hc hc2 hs0 hcnt hp0 (fun x hx m2 b1 b2 => hF x hx m2 (cFr_tr (cFr_4 hm) b1 (Int.le_refl _)) b2) (fun q2 d2 f hq m2 s2 b1 b2 b3 b4 => hO q2 d2 f hq m2 s2 (cFr_tr (cFr_4 hm) b1 (Int.le_refl _)) b2 b3 b4)
  refine eX7_readPlain rdp (rX7_readPlain_0 (k := k + 6) hE ?_)
  exact loop 401 mem p 0 0 false cF4_rf hst hp hpn (by omega) (by omega) (by omega) (Or.inl ⟨rfl, rfl⟩) (by omega) (by omega) ⟨by cases (pNots T n 401 p).1 <;> rfl, rfl⟩
