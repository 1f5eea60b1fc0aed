-- the tape of both sides: four cells a number
def put1 (m : Mm) (ta o f t b : Int) : Mm := aUp (aUp m ta t b) o f (t + 1)
def byA (p s : Int) : Int := xAnd (xUshr p s) 255
def byM (p s : Int) : Int := xAnd (xShr p s) 255
def app4 (g : Int → Int → Int) (m : Mm) (ta o f t p : Int) : Mm := put1 (put1 (put1 (put1 m ta o f t (g p 24)) ta o f (t + 1) (g p (24 + -8))) ta o f (t + 1 + 1) (g p (24 + -8 + -8))) ta o f (t + 1 + 1 + 1) (g p (24 + -8 + -8 + -8))
theorem app_go {E : EN} (hE : Ep E) {k : Nat} {mem : Mm} {Q : Mm → Prop} {p x t : Int} (h0 : 0 ≤ x) (h24 : x ≤ 24) (ht : mem 591 2 = t) (h1 : 0 ≤ t) (h2 : t < 400) (h : VM E mX7_append k (put1 mem 592 591 2 t (byA p x)) 3 [(0, aR 591), (1, aI p), (2, aI (x + -8))] [] (retV Q)) : VM E mX7_append k mem 3 [(0, aR 591), (1, aI p), (2, aI x)] [] (retV Q) := by
  subst ht
  exact rX7_append_3 hE ⟨fun c => absurd c (by omega), fun _ => ⟨fun c => absurd c (by omega), fun _ => ⟨fun c => absurd c (by omega), fun _ => ⟨⟨h1, h2⟩, ⟨by omega, by omega⟩, ⟨by omega, by omega⟩, h⟩⟩⟩⟩
theorem s_append {E : EN} (hE : Ep E) {k : Nat} {mem : Mm} {Q : Mm → Prop} {p t : Int} (hp : R32 p) (ht : mem 591 2 = t) (h1 : 0 ≤ t) (h2 : t ≤ 396) (hQ : Q (app4 byA mem 592 591 2 t p)) : CV E mX7_append k mem [aR 591, aI p] Q := by
  refine eX7_append hp (rX7_append_0 hE ?_)
  refine app_go hE (by decide) (by decide) ht h1 (by omega) ?_
  refine app_go hE (by decide) (by decide) aUp_re (by omega) (by omega) ?_
  refine app_go hE (by decide) (by decide) aUp_re (by omega) (by omega) ?_
  refine app_go hE (by decide) (by decide) aUp_re (by omega) (by omega) ?_
  exact rX7_append_3 hE ⟨fun _ => hQ, fun c => absurd c (by decide)⟩
theorem four_go {E : EN} (hE : Ep E) {k : Nat} {mem : Mm} {Q : Mm → Prop} {p x t : Int} (h0 : 0 ≤ x) (h24 : x ≤ 24) (ht : mem 603 13 = t) (h1 : 0 ≤ t) (h2 : t < 400) (h : VM E mX12_four k (put1 mem 612 603 13 t (byM p x)) 3 [(0, aR 603), (1, aI p), (2, aI (x + -8))] [] (retV Q)) : VM E mX12_four k mem 3 [(0, aR 603), (1, aI p), (2, aI x)] [] (retV Q) := by
  subst ht
  exact rX12_four_3 hE ⟨fun c => absurd c (by omega), fun _ => ⟨⟨h1, h2⟩, ⟨by omega, by omega⟩, ⟨by omega, by omega⟩, h⟩⟩
theorem s_four {E : EN} (hE : Ep E) {k : Nat} {mem : Mm} {Q : Mm → Prop} {p t : Int} (hp : R32 p) (ht : mem 603 13 = t) (h1 : 0 ≤ t) (h2 : t ≤ 396) (hQ : Q (app4 byM mem 612 603 13 t p)) : CV E mX12_four k mem [aR 603, aI p] Q := by
  refine eX12_four hp (rX12_four_0 hE ?_)
  refine four_go hE (by decide) (by decide) ht h1 (by omega) ?_
  refine four_go hE (by decide) (by decide) aUp_re (by omega) (by omega) ?_
  refine four_go hE (by decide) (by decide) aUp_re (by omega) (by omega) ?_
  refine four_go hE (by decide) (by decide) aUp_re (by omega) (by omega) ?_
  exact rX12_four_3 hE ⟨fun _ => hQ, fun c => absurd c (by decide)⟩
