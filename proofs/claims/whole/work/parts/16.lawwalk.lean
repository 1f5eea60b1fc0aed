set_option maxHeartbeats 40000000 in
set_option maxRecDepth 20000 in
theorem rL_law_18 {E : EN} (hE : Ep E) {k b L : Nat} {xs : Nat → Int32} (hX : aScr E b L xs) {mem : Mm} {i : Int} {Q : Int → Mm → Prop}
    (h : (R32 ((L : Int) - 6)) ∧ ((((L : Int) - 6) < i → Q 1 mem) ∧ (i ≤ ((L : Int) - 6) → (0 ≤ i ∧ i < (L : Int)) ∧ (((xAnd (sx xs i) 63) = 0 → (R32 (i + 1)) ∧ (0 ≤ (i + 1) ∧ (i + 1) < (L : Int)) ∧ (R32 (i + 2)) ∧ (0 ≤ (i + 2) ∧ (i + 2) < (L : Int)) ∧ (R32 (i + 3)) ∧ (0 ≤ (i + 3) ∧ (i + 3) < (L : Int)) ∧ (R32 (sx xs (i + 1)) → R32 (sx xs (i + 2)) → R32 (sx xs (i + 3)) → CI E mX11_put k mem [aR 0, aI (sx xs (i + 1)), aI (sx xs (i + 2)), aI (sx xs (i + 3))] (fun r10 m9 => (R32 (sx xs (i + 1)) → R32 (sx xs (i + 2)) → R32 (sx xs (i + 3)) → CI E mX12_put k m9 [aR 603, aI (sx xs (i + 1)), aI (sx xs (i + 2)), aI (sx xs (i + 3))] (fun r12 m11 => ((r10 = r12 → (R32 (i + 6)) ∧ VG E mL_law (k + 1) cL_C cL_S SH m11 (cL_C, cL_S) 18 [(0, aF b), (1, aR 0), (2, aR 603), (3, aI (i + 6))] [] (retI Q)) ∧ (¬ r10 = r12 → Q 0 m11))))))) ∧ ((xAnd (sx xs i) 63) = 1 → (R32 (i + 1)) ∧ (0 ≤ (i + 1) ∧ (i + 1) < (L : Int)) ∧ (R32 (i + 2)) ∧ (0 ≤ (i + 2) ∧ (i + 2) < (L : Int)) ∧ (R32 (sx xs (i + 1)) → R32 (sx xs (i + 2)) → CI E mX11_at k mem [aR 0, aI (sx xs (i + 1)), aI (sx xs (i + 2))] (fun r19 m18 => (R32 (sx xs (i + 1)) → R32 (sx xs (i + 2)) → CI E mX12_at k m18 [aR 603, aI (sx xs (i + 1)), aI (sx xs (i + 2))] (fun r21 m20 => ((r19 = r21 → (R32 (i + 6)) ∧ VG E mL_law (k + 1) cL_C cL_S SH m20 (cL_C, cL_S) 18 [(0, aF b), (1, aR 0), (2, aR 603), (3, aI (i + 6))] [] (retI Q)) ∧ (¬ r19 = r21 → Q 0 m20))))))) ∧ ((xAnd (sx xs i) 63) = 2 → (R32 (i + 1)) ∧ (0 ≤ (i + 1) ∧ (i + 1) < (L : Int)) ∧ (R32 (i + 2)) ∧ (0 ≤ (i + 2) ∧ (i + 2) < (L : Int)) ∧ (R32 (sx xs (i + 1)) → R32 (sx xs (i + 2)) → CI E mX11_of k mem [aR 0, aI (sx xs (i + 1)), aI (sx xs (i + 2))] (fun r28 m27 => (R32 (sx xs (i + 1)) → R32 (sx xs (i + 2)) → CI E mX12_of k m27 [aR 603, aI (sx xs (i + 1)), aI (sx xs (i + 2))] (fun r30 m29 => ((r28 = r30 → (R32 (i + 6)) ∧ VG E mL_law (k + 1) cL_C cL_S SH m29 (cL_C, cL_S) 18 [(0, aF b), (1, aR 0), (2, aR 603), (3, aI (i + 6))] [] (retI Q)) ∧ (¬ r28 = r30 → Q 0 m29))))))) ∧ ((xAnd (sx xs i) 63) = 3 → (R32 (i + 1)) ∧ (0 ≤ (i + 1) ∧ (i + 1) < (L : Int)) ∧ (R32 (i + 2)) ∧ (0 ≤ (i + 2) ∧ (i + 2) < (L : Int)) ∧ (R32 (sx xs (i + 1)) → R32 (sx xs (i + 2)) → CI E mX11_goes k mem [aR 0, aI (sx xs (i + 1)), aI (sx xs (i + 2))] (fun r37 m36 => (R32 (sx xs (i + 1)) → R32 (sx xs (i + 2)) → CI E mX12_goes k m36 [aR 603, aI (sx xs (i + 1)), aI (sx xs (i + 2))] (fun r39 m38 => ((r37 = r39 → (R32 (i + 6)) ∧ VG E mL_law (k + 1) cL_C cL_S SH m38 (cL_C, cL_S) 18 [(0, aF b), (1, aR 0), (2, aR 603), (3, aI (i + 6))] [] (retI Q)) ∧ (¬ r37 = r39 → Q 0 m38))))))) ∧ ((xAnd (sx xs i) 63) = 4 → (R32 (i + 1)) ∧ (0 ≤ (i + 1) ∧ (i + 1) < (L : Int)) ∧ (R32 (i + 2)) ∧ (0 ≤ (i + 2) ∧ (i + 2) < (L : Int)) ∧ (R32 (sx xs (i + 1)) → R32 (sx xs (i + 2)) → CI E mX11_barred k mem [aR 0, aI (sx xs (i + 1)), aI (sx xs (i + 2))] (fun r46 m45 => (R32 (sx xs (i + 1)) → R32 (sx xs (i + 2)) → CI E mX12_barred k m45 [aR 603, aI (sx xs (i + 1)), aI (sx xs (i + 2))] (fun r48 m47 => ((r46 = r48 → (R32 (i + 6)) ∧ VG E mL_law (k + 1) cL_C cL_S SH m47 (cL_C, cL_S) 18 [(0, aF b), (1, aR 0), (2, aR 603), (3, aI (i + 6))] [] (retI Q)) ∧ (¬ r46 = r48 → Q 0 m47))))))) ∧ ((xAnd (sx xs i) 63) = 5 → (R32 (i + 1)) ∧ (0 ≤ (i + 1) ∧ (i + 1) < (L : Int)) ∧ (R32 (i + 2)) ∧ (0 ≤ (i + 2) ∧ (i + 2) < (L : Int)) ∧ (R32 (sx xs (i + 1)) → R32 (sx xs (i + 2)) → CI E mX11_terms k mem [aR 0, aI (sx xs (i + 1)), aI (sx xs (i + 2))] (fun r55 m54 => (R32 (sx xs (i + 1)) → R32 (sx xs (i + 2)) → CI E mX12_terms k m54 [aR 603, aI (sx xs (i + 1)), aI (sx xs (i + 2))] (fun r57 m56 => ((r55 = r57 → (R32 (i + 6)) ∧ VG E mL_law (k + 1) cL_C cL_S SH m56 (cL_C, cL_S) 18 [(0, aF b), (1, aR 0), (2, aR 603), (3, aI (i + 6))] [] (retI Q)) ∧ (¬ r55 = r57 → Q 0 m56))))))) ∧ ((xAnd (sx xs i) 63) = 6 → (R32 (i + 1)) ∧ (0 ≤ (i + 1) ∧ (i + 1) < (L : Int)) ∧ (R32 (i + 2)) ∧ (0 ≤ (i + 2) ∧ (i + 2) < (L : Int)) ∧ (R32 (i + 3)) ∧ (0 ≤ (i + 3) ∧ (i + 3) < (L : Int)) ∧ (R32 (i + 4)) ∧ (0 ≤ (i + 4) ∧ (i + 4) < (L : Int)) ∧ (R32 (i + 5)) ∧ (0 ≤ (i + 5) ∧ (i + 5) < (L : Int)) ∧ (R32 (sx xs (i + 1)) → R32 (sx xs (i + 2)) → R32 (sx xs (i + 3)) → R32 (sx xs (i + 4)) → R32 (sx xs (i + 5)) → CI E mX11_feed k mem [aR 0, aI (sx xs (i + 1)), aI (sx xs (i + 2)), aI (sx xs (i + 3)), aI (sx xs (i + 4)), aI (sx xs (i + 5))] (fun r70 m69 => (R32 (sx xs (i + 1)) → R32 (sx xs (i + 2)) → R32 (sx xs (i + 3)) → R32 (sx xs (i + 4)) → R32 (sx xs (i + 5)) → CI E mX12_feed k m69 [aR 603, aI (sx xs (i + 1)), aI (sx xs (i + 2)), aI (sx xs (i + 3)), aI (sx xs (i + 4)), aI (sx xs (i + 5))] (fun r72 m71 => ((r70 = r72 → (R32 (i + 6)) ∧ VG E mL_law (k + 1) cL_C cL_S SH m71 (cL_C, cL_S) 18 [(0, aF b), (1, aR 0), (2, aR 603), (3, aI (i + 6))] [] (retI Q)) ∧ (¬ r70 = r72 → Q 0 m71))))))) ∧ ((xAnd (sx xs i) 63) = 7 → (R32 (i + 1)) ∧ (0 ≤ (i + 1) ∧ (i + 1) < (L : Int)) ∧ (R32 (sx xs (i + 1)) → CI E mX11_end k mem [aR 0, aI (sx xs (i + 1))] (fun r77 m76 => (R32 (sx xs (i + 1)) → CI E mX12_end k m76 [aR 603, aI (sx xs (i + 1))] (fun r79 m78 => ((r77 = r79 → (R32 (i + 6)) ∧ VG E mL_law (k + 1) cL_C cL_S SH m78 (cL_C, cL_S) 18 [(0, aF b), (1, aR 0), (2, aR 603), (3, aI (i + 6))] [] (retI Q)) ∧ (¬ r77 = r79 → Q 0 m78))))))) ∧ ((xAnd (sx xs i) 63) = 8 → (CI E mX11_row k mem [aR 0] (fun r82 m81 => (CI E mX12_row k m81 [aR 603] (fun r84 m83 => ((r82 = r84 → (R32 (i + 6)) ∧ VG E mL_law (k + 1) cL_C cL_S SH m83 (cL_C, cL_S) 18 [(0, aF b), (1, aR 0), (2, aR 603), (3, aI (i + 6))] [] (retI Q)) ∧ (¬ r82 = r84 → Q 0 m83))))))) ∧ ((xAnd (sx xs i) 63) = 9 → (CI E mX11_moles k mem [aR 0] (fun r87 m86 => (CI E mX12_moles k m86 [aR 603] (fun r89 m88 => ((r87 = r89 → (R32 (i + 6)) ∧ VG E mL_law (k + 1) cL_C cL_S SH m88 (cL_C, cL_S) 18 [(0, aF b), (1, aR 0), (2, aR 603), (3, aI (i + 6))] [] (retI Q)) ∧ (¬ r87 = r89 → Q 0 m88))))))) ∧ ((xAnd (sx xs i) 63) = 10 → (CI E mX11_law k mem [aR 0] (fun r92 m91 => (CI E mX12_law k m91 [aR 603] (fun r94 m93 => ((r92 = r94 → (R32 (i + 6)) ∧ VG E mL_law (k + 1) cL_C cL_S SH m93 (cL_C, cL_S) 18 [(0, aF b), (1, aR 0), (2, aR 603), (3, aI (i + 6))] [] (retI Q)) ∧ (¬ r92 = r94 → Q 0 m93))))))) ∧ ((xAnd (sx xs i) 63) = 11 → (CI E mX11_orders k mem [aR 0] (fun r97 m96 => (CI E mX12_orders k m96 [aR 603] (fun r99 m98 => ((r97 = r99 → (R32 (i + 6)) ∧ VG E mL_law (k + 1) cL_C cL_S SH m98 (cL_C, cL_S) 18 [(0, aF b), (1, aR 0), (2, aR 603), (3, aI (i + 6))] [] (retI Q)) ∧ (¬ r97 = r99 → Q 0 m98))))))) ∧ ((xAnd (sx xs i) 63) = 12 → (CI E mX11_fault k mem [aR 0] (fun r102 m101 => (CI E mX12_fault k m101 [aR 603] (fun r104 m103 => ((r102 = r104 → (R32 (i + 6)) ∧ VG E mL_law (k + 1) cL_C cL_S SH m103 (cL_C, cL_S) 18 [(0, aF b), (1, aR 0), (2, aR 603), (3, aI (i + 6))] [] (retI Q)) ∧ (¬ r102 = r104 → Q 0 m103))))))) ∧ ((xAnd (sx xs i) 63) = 13 → (CI E mX11_stopped k mem [aR 0] (fun r107 m106 => (CI E mX12_stopped k m106 [aR 603] (fun r109 m108 => ((r107 = r109 → (R32 (i + 6)) ∧ VG E mL_law (k + 1) cL_C cL_S SH m108 (cL_C, cL_S) 18 [(0, aF b), (1, aR 0), (2, aR 603), (3, aI (i + 6))] [] (retI Q)) ∧ (¬ r107 = r109 → Q 0 m108))))))) ∧ ((xAnd (sx xs i) 63) = 14 → (R32 (i + 1)) ∧ (0 ≤ (i + 1) ∧ (i + 1) < (L : Int)) ∧ (R32 (sx xs (i + 1)) → CI E mX11_force k mem [aR 0, aI (sx xs (i + 1))] (fun r114 m113 => (R32 (sx xs (i + 1)) → CI E mX12_force k m113 [aR 603, aI (sx xs (i + 1))] (fun r116 m115 => ((r114 = r116 → (R32 (i + 6)) ∧ VG E mL_law (k + 1) cL_C cL_S SH m115 (cL_C, cL_S) 18 [(0, aF b), (1, aR 0), (2, aR 603), (3, aI (i + 6))] [] (retI Q)) ∧ (¬ r114 = r116 → Q 0 m115))))))) ∧ ((xAnd (sx xs i) 63) = 15 → (R32 (i + 1)) ∧ (0 ≤ (i + 1) ∧ (i + 1) < (L : Int)) ∧ (R32 (i + 2)) ∧ (0 ≤ (i + 2) ∧ (i + 2) < (L : Int)) ∧ (R32 (i + 3)) ∧ (0 ≤ (i + 3) ∧ (i + 3) < (L : Int)) ∧ (R32 (sx xs (i + 1)) → R32 (sx xs (i + 2)) → R32 (sx xs (i + 3)) → CI E mX11_bury k mem [aR 0, aI (sx xs (i + 1)), aI (sx xs (i + 2)), aI (sx xs (i + 3))] (fun r125 m124 => (R32 (sx xs (i + 1)) → R32 (sx xs (i + 2)) → R32 (sx xs (i + 3)) → CI E mX12_bury k m124 [aR 603, aI (sx xs (i + 1)), aI (sx xs (i + 2)), aI (sx xs (i + 3))] (fun r127 m126 => ((r125 = r127 → (R32 (i + 6)) ∧ VG E mL_law (k + 1) cL_C cL_S SH m126 (cL_C, cL_S) 18 [(0, aF b), (1, aR 0), (2, aR 603), (3, aI (i + 6))] [] (retI Q)) ∧ (¬ r125 = r127 → Q 0 m126))))))) ∧ ((xAnd (sx xs i) 63) = 16 → (R32 (i + 1)) ∧ (0 ≤ (i + 1) ∧ (i + 1) < (L : Int)) ∧ (R32 (sx xs (i + 1)) → CI E mX11_buy k mem [aR 0, aI (sx xs (i + 1))] (fun r132 m131 => (R32 (sx xs (i + 1)) → CI E mX12_buy k m131 [aR 603, aI (sx xs (i + 1))] (fun r134 m133 => ((r132 = r134 → (R32 (i + 6)) ∧ VG E mL_law (k + 1) cL_C cL_S SH m133 (cL_C, cL_S) 18 [(0, aF b), (1, aR 0), (2, aR 603), (3, aI (i + 6))] [] (retI Q)) ∧ (¬ r132 = r134 → Q 0 m133))))))) ∧ ((xAnd (sx xs i) 63) = 17 → (R32 (i + 1)) ∧ (0 ≤ (i + 1) ∧ (i + 1) < (L : Int)) ∧ (R32 (sx xs (i + 1)) → CI E mX11_raise k mem [aR 0, aI (sx xs (i + 1))] (fun r139 m138 => (R32 (sx xs (i + 1)) → CI E mX12_raise k m138 [aR 603, aI (sx xs (i + 1))] (fun r141 m140 => ((r139 = r141 → (R32 (i + 6)) ∧ VG E mL_law (k + 1) cL_C cL_S SH m140 (cL_C, cL_S) 18 [(0, aF b), (1, aR 0), (2, aR 603), (3, aI (i + 6))] [] (retI Q)) ∧ (¬ r139 = r141 → Q 0 m140))))))) ∧ ((xAnd (sx xs i) 63) = 18 → (CI E mX11_pass k mem [aR 0] (fun r144 m143 => (CI E mX12_pass k m143 [aR 603] (fun r146 m145 => ((r144 = r146 → (R32 (i + 6)) ∧ VG E mL_law (k + 1) cL_C cL_S SH m145 (cL_C, cL_S) 18 [(0, aF b), (1, aR 0), (2, aR 603), (3, aI (i + 6))] [] (retI Q)) ∧ (¬ r144 = r146 → Q 0 m145))))))) ∧ ((xAnd (sx xs i) 63) = 19 → (CI E mX11_blocked k mem [aR 0] (fun r149 m148 => (CI E mX12_blocked k m148 [aR 603] (fun r151 m150 => ((r149 = r151 → (R32 (i + 6)) ∧ VG E mL_law (k + 1) cL_C cL_S SH m150 (cL_C, cL_S) 18 [(0, aF b), (1, aR 0), (2, aR 603), (3, aI (i + 6))] [] (retI Q)) ∧ (¬ r149 = r151 → Q 0 m150))))))) ∧ ((xAnd (sx xs i) 63) = 20 → (CI E mX11_undo k mem [aR 0] (fun r154 m153 => (CI E mX12_undo k m153 [aR 603] (fun r156 m155 => ((r154 = r156 → (R32 (i + 6)) ∧ VG E mL_law (k + 1) cL_C cL_S SH m155 (cL_C, cL_S) 18 [(0, aF b), (1, aR 0), (2, aR 603), (3, aI (i + 6))] [] (retI Q)) ∧ (¬ r154 = r156 → Q 0 m155))))))) ∧ ((xAnd (sx xs i) 63) = 21 → (R32 (i + 1)) ∧ (0 ≤ (i + 1) ∧ (i + 1) < (L : Int)) ∧ (R32 (i + 2)) ∧ (0 ≤ (i + 2) ∧ (i + 2) < (L : Int)) ∧ (R32 (sx xs (i + 1)) → R32 (sx xs (i + 2)) → CI E mX11_where k mem [aR 0, aI (sx xs (i + 1)), aI (sx xs (i + 2))] (fun r163 m162 => (R32 (sx xs (i + 1)) → R32 (sx xs (i + 2)) → CI E mX12_where k m162 [aR 603, aI (sx xs (i + 1)), aI (sx xs (i + 2))] (fun r165 m164 => ((r163 = r165 → (R32 (i + 6)) ∧ VG E mL_law (k + 1) cL_C cL_S SH m164 (cL_C, cL_S) 18 [(0, aF b), (1, aR 0), (2, aR 603), (3, aI (i + 6))] [] (retI Q)) ∧ (¬ r163 = r165 → Q 0 m164))))))) ∧ ((xAnd (sx xs i) 63) = 22 → (CI E mX11_indoors k mem [aR 0] (fun r168 m167 => (CI E mX12_indoors k m167 [aR 603] (fun r170 m169 => ((r168 = r170 → (R32 (i + 6)) ∧ VG E mL_law (k + 1) cL_C cL_S SH m169 (cL_C, cL_S) 18 [(0, aF b), (1, aR 0), (2, aR 603), (3, aI (i + 6))] [] (retI Q)) ∧ (¬ r168 = r170 → Q 0 m169))))))) ∧ ((xAnd (sx xs i) 63) = 23 → (R32 (i + 1)) ∧ (0 ≤ (i + 1) ∧ (i + 1) < (L : Int)) ∧ (R32 (i + 2)) ∧ (0 ≤ (i + 2) ∧ (i + 2) < (L : Int)) ∧ (R32 (i + 3)) ∧ (0 ≤ (i + 3) ∧ (i + 3) < (L : Int)) ∧ (R32 (i + 4)) ∧ (0 ≤ (i + 4) ∧ (i + 4) < (L : Int)) ∧ (R32 (sx xs (i + 1)) → R32 (sx xs (i + 2)) → R32 (sx xs (i + 3)) → R32 (sx xs (i + 4)) → CL E mX11_ways k mem [aR 0, aI (sx xs (i + 1)), aI (sx xs (i + 2)), aI (sx xs (i + 3)), aI (sx xs (i + 4))] (fun r181 m180 => (R32 (sx xs (i + 1)) → R32 (sx xs (i + 2)) → R32 (sx xs (i + 3)) → R32 (sx xs (i + 4)) → CL E mX12_ways k m180 [aR 603, aI (sx xs (i + 1)), aI (sx xs (i + 2)), aI (sx xs (i + 3)), aI (sx xs (i + 4))] (fun r183 m182 => ((r181 = r183 → (R32 (i + 6)) ∧ VG E mL_law (k + 1) cL_C cL_S SH m182 (cL_C, cL_S) 18 [(0, aF b), (1, aR 0), (2, aR 603), (3, aI (i + 6))] [] (retI Q)) ∧ (¬ r181 = r183 → Q 0 m182))))))) ∧ ((xAnd (sx xs i) 63) = 24 → (R32 (i + 1)) ∧ (0 ≤ (i + 1) ∧ (i + 1) < (L : Int)) ∧ (R32 (sx xs (i + 1)) → CI E mX11_packed k mem [aR 0, aI (sx xs (i + 1))] (fun r188 m187 => (R32 (sx xs (i + 1)) → CI E mX12_packed k m187 [aR 603, aI (sx xs (i + 1))] (fun r190 m189 => ((r188 = r190 → (R32 (i + 6)) ∧ VG E mL_law (k + 1) cL_C cL_S SH m189 (cL_C, cL_S) 18 [(0, aF b), (1, aR 0), (2, aR 603), (3, aI (i + 6))] [] (retI Q)) ∧ (¬ r188 = r190 → Q 0 m189))))))) ∧ ((xAnd (sx xs i) 63) = 25 → (R32 (i + 1)) ∧ (0 ≤ (i + 1) ∧ (i + 1) < (L : Int)) ∧ (R32 (i + 2)) ∧ (0 ≤ (i + 2) ∧ (i + 2) < (L : Int)) ∧ (R32 (sx xs (i + 1)) → R32 (sx xs (i + 2)) → CI E mX11_meets k mem [aR 0, aI (sx xs (i + 1)), aI (sx xs (i + 2))] (fun r197 m196 => (R32 (sx xs (i + 1)) → R32 (sx xs (i + 2)) → CI E mX12_meets k m196 [aR 603, aI (sx xs (i + 1)), aI (sx xs (i + 2))] (fun r199 m198 => ((r197 = r199 → (R32 (i + 6)) ∧ VG E mL_law (k + 1) cL_C cL_S SH m198 (cL_C, cL_S) 18 [(0, aF b), (1, aR 0), (2, aR 603), (3, aI (i + 6))] [] (retI Q)) ∧ (¬ r197 = r199 → Q 0 m198))))))) ∧ ((xAnd (sx xs i) 63) = 26 → (R32 (i + 1)) ∧ (0 ≤ (i + 1) ∧ (i + 1) < (L : Int)) ∧ (R32 (i + 2)) ∧ (0 ≤ (i + 2) ∧ (i + 2) < (L : Int)) ∧ (R32 (i + 3)) ∧ (0 ≤ (i + 3) ∧ (i + 3) < (L : Int)) ∧ (R32 (i + 4)) ∧ (0 ≤ (i + 4) ∧ (i + 4) < (L : Int)) ∧ (R32 (sx xs (i + 1)) → R32 (sx xs (i + 2)) → R32 (sx xs (i + 3)) → R32 (sx xs (i + 4)) → CI E mX11_meet k mem [aR 0, aI (sx xs (i + 1)), aI (sx xs (i + 2)), aI (sx xs (i + 3)), aI (sx xs (i + 4))] (fun r210 m209 => (R32 (sx xs (i + 1)) → R32 (sx xs (i + 2)) → R32 (sx xs (i + 3)) → R32 (sx xs (i + 4)) → CI E mX12_meet k m209 [aR 603, aI (sx xs (i + 1)), aI (sx xs (i + 2)), aI (sx xs (i + 3)), aI (sx xs (i + 4))] (fun r212 m211 => ((r210 = r212 → (R32 (i + 6)) ∧ VG E mL_law (k + 1) cL_C cL_S SH m211 (cL_C, cL_S) 18 [(0, aF b), (1, aR 0), (2, aR 603), (3, aI (i + 6))] [] (retI Q)) ∧ (¬ r210 = r212 → Q 0 m211))))))) ∧ ((xAnd (sx xs i) 63) = 27 → (R32 (i + 1)) ∧ (0 ≤ (i + 1) ∧ (i + 1) < (L : Int)) ∧ (R32 (i + 2)) ∧ (0 ≤ (i + 2) ∧ (i + 2) < (L : Int)) ∧ (R32 (i + 3)) ∧ (0 ≤ (i + 3) ∧ (i + 3) < (L : Int)) ∧ (R32 (sx xs (i + 1)) → R32 (sx xs (i + 2)) → R32 (sx xs (i + 3)) → CI E mX11_find k mem [aR 0, aI (sx xs (i + 1)), aI (sx xs (i + 2)), aI (sx xs (i + 3))] (fun r221 m220 => (R32 (sx xs (i + 1)) → R32 (sx xs (i + 2)) → R32 (sx xs (i + 3)) → CI E mX12_find k m220 [aR 603, aI (sx xs (i + 1)), aI (sx xs (i + 2)), aI (sx xs (i + 3))] (fun r223 m222 => ((r221 = r223 → (R32 (i + 6)) ∧ VG E mL_law (k + 1) cL_C cL_S SH m222 (cL_C, cL_S) 18 [(0, aF b), (1, aR 0), (2, aR 603), (3, aI (i + 6))] [] (retI Q)) ∧ (¬ r221 = r223 → Q 0 m222))))))) ∧ ((xAnd (sx xs i) 63) = 28 → (CI E mX11_forget k mem [aR 0] (fun r226 m225 => (CI E mX12_forget k m225 [aR 603] (fun r228 m227 => ((r226 = r228 → (R32 (i + 6)) ∧ VG E mL_law (k + 1) cL_C cL_S SH m227 (cL_C, cL_S) 18 [(0, aF b), (1, aR 0), (2, aR 603), (3, aI (i + 6))] [] (retI Q)) ∧ (¬ r226 = r228 → Q 0 m227))))))) ∧ ((xAnd (sx xs i) 63) = 29 → (R32 (i + 1)) ∧ (0 ≤ (i + 1) ∧ (i + 1) < (L : Int)) ∧ (R32 (sx xs (i + 1)) → CI E mX11_hidden k mem [aR 0, aI (sx xs (i + 1))] (fun r233 m232 => (R32 (sx xs (i + 1)) → CI E mX12_hidden k m232 [aR 603, aI (sx xs (i + 1))] (fun r235 m234 => ((r233 = r235 → (R32 (i + 6)) ∧ VG E mL_law (k + 1) cL_C cL_S SH m234 (cL_C, cL_S) 18 [(0, aF b), (1, aR 0), (2, aR 603), (3, aI (i + 6))] [] (retI Q)) ∧ (¬ r233 = r235 → Q 0 m234))))))) ∧ ((xAnd (sx xs i) 63) = 30 → (R32 (i + 1)) ∧ (0 ≤ (i + 1) ∧ (i + 1) < (L : Int)) ∧ (R32 (i + 2)) ∧ (0 ≤ (i + 2) ∧ (i + 2) < (L : Int)) ∧ (R32 (sx xs (i + 1)) → R32 (sx xs (i + 2)) → CI E mX11_spade k mem [aR 0, aI (sx xs (i + 1)), aI (sx xs (i + 2))] (fun r242 m241 => (R32 (sx xs (i + 1)) → R32 (sx xs (i + 2)) → CI E mX12_spade k m241 [aR 603, aI (sx xs (i + 1)), aI (sx xs (i + 2))] (fun r244 m243 => ((r242 = r244 → (R32 (i + 6)) ∧ VG E mL_law (k + 1) cL_C cL_S SH m243 (cL_C, cL_S) 18 [(0, aF b), (1, aR 0), (2, aR 603), (3, aI (i + 6))] [] (retI Q)) ∧ (¬ r242 = r244 → Q 0 m243))))))) ∧ ((xAnd (sx xs i) 63) = 31 → (R32 (i + 1)) ∧ (0 ≤ (i + 1) ∧ (i + 1) < (L : Int)) ∧ (R32 (i + 2)) ∧ (0 ≤ (i + 2) ∧ (i + 2) < (L : Int)) ∧ (R32 (sx xs (i + 1)) → R32 (sx xs (i + 2)) → CI E mX11_compare k mem [aR 0, aI (sx xs (i + 1)), aI (sx xs (i + 2))] (fun r251 m250 => (R32 (sx xs (i + 1)) → R32 (sx xs (i + 2)) → CI E mX12_compare k m250 [aR 603, aI (sx xs (i + 1)), aI (sx xs (i + 2))] (fun r253 m252 => ((r251 = r253 → (R32 (i + 6)) ∧ VG E mL_law (k + 1) cL_C cL_S SH m252 (cL_C, cL_S) 18 [(0, aF b), (1, aR 0), (2, aR 603), (3, aI (i + 6))] [] (retI Q)) ∧ (¬ r251 = r253 → Q 0 m252))))))) ∧ ((xAnd (sx xs i) 63) = 32 → (R32 (i + 1)) ∧ (0 ≤ (i + 1) ∧ (i + 1) < (L : Int)) ∧ (R32 (i + 2)) ∧ (0 ≤ (i + 2) ∧ (i + 2) < (L : Int)) ∧ (R32 (i + 3)) ∧ (0 ≤ (i + 3) ∧ (i + 3) < (L : Int)) ∧ (R32 (sx xs (i + 1)) → R32 (sx xs (i + 2)) → R32 (sx xs (i + 3)) → CL E mX11_arrives k mem [aR 0, aI (sx xs (i + 1)), aI (sx xs (i + 2)), aI (sx xs (i + 3))] (fun r262 m261 => (R32 (sx xs (i + 1)) → R32 (sx xs (i + 2)) → R32 (sx xs (i + 3)) → CL E mX12_arrives k m261 [aR 603, aI (sx xs (i + 1)), aI (sx xs (i + 2)), aI (sx xs (i + 3))] (fun r264 m263 => ((r262 = r264 → (R32 (i + 6)) ∧ VG E mL_law (k + 1) cL_C cL_S SH m263 (cL_C, cL_S) 18 [(0, aF b), (1, aR 0), (2, aR 603), (3, aI (i + 6))] [] (retI Q)) ∧ (¬ r262 = r264 → Q 0 m263))))))) ∧ ((xAnd (sx xs i) 63) = 33 → (R32 (i + 1)) ∧ (0 ≤ (i + 1) ∧ (i + 1) < (L : Int)) ∧ (R32 (sx xs (i + 1)) → CI E mX11_round k mem [aR 0, aI (sx xs (i + 1))] (fun r269 m268 => (R32 (sx xs (i + 1)) → CI E mX12_round k m268 [aR 603, aI (sx xs (i + 1))] (fun r271 m270 => ((r269 = r271 → (R32 (i + 6)) ∧ VG E mL_law (k + 1) cL_C cL_S SH m270 (cL_C, cL_S) 18 [(0, aF b), (1, aR 0), (2, aR 603), (3, aI (i + 6))] [] (retI Q)) ∧ (¬ r269 = r271 → Q 0 m270))))))) ∧ ((xAnd (sx xs i) 63) = 34 → (R32 (i + 1)) ∧ (0 ≤ (i + 1) ∧ (i + 1) < (L : Int)) ∧ (R32 (i + 2)) ∧ (0 ≤ (i + 2) ∧ (i + 2) < (L : Int)) ∧ (R32 (sx xs (i + 1)) → R32 (sx xs (i + 2)) → CI E mX11_centuries k mem [aR 0, aI (sx xs (i + 1)), aI (sx xs (i + 2))] (fun r278 m277 => (R32 (sx xs (i + 1)) → R32 (sx xs (i + 2)) → CI E mX12_centuries k m277 [aR 603, aI (sx xs (i + 1)), aI (sx xs (i + 2))] (fun r280 m279 => ((r278 = r280 → (R32 (i + 6)) ∧ VG E mL_law (k + 1) cL_C cL_S SH m279 (cL_C, cL_S) 18 [(0, aF b), (1, aR 0), (2, aR 603), (3, aI (i + 6))] [] (retI Q)) ∧ (¬ r278 = r280 → Q 0 m279))))))) ∧ ((xAnd (sx xs i) 63) = 35 → (R32 (i + 1)) ∧ (0 ≤ (i + 1) ∧ (i + 1) < (L : Int)) ∧ (R32 (i + 2)) ∧ (0 ≤ (i + 2) ∧ (i + 2) < (L : Int)) ∧ (R32 (sx xs (i + 1)) → R32 (sx xs (i + 2)) → CI E mX11_drawn k mem [aR 0, aI (sx xs (i + 1)), aI (sx xs (i + 2))] (fun r287 m286 => (R32 (sx xs (i + 1)) → R32 (sx xs (i + 2)) → CI E mX12_drawn k m286 [aR 603, aI (sx xs (i + 1)), aI (sx xs (i + 2))] (fun r289 m288 => ((r287 = r289 → (R32 (i + 6)) ∧ VG E mL_law (k + 1) cL_C cL_S SH m288 (cL_C, cL_S) 18 [(0, aF b), (1, aR 0), (2, aR 603), (3, aI (i + 6))] [] (retI Q)) ∧ (¬ r287 = r289 → Q 0 m288))))))) ∧ ((xAnd (sx xs i) 63) = 36 → (R32 (i + 1)) ∧ (0 ≤ (i + 1) ∧ (i + 1) < (L : Int)) ∧ (R32 (sx xs (i + 1)) → CI E mX11_image k mem [aR 0, aI (sx xs (i + 1))] (fun r294 m293 => (R32 (sx xs (i + 1)) → CI E mX12_image k m293 [aR 603, aI (sx xs (i + 1))] (fun r296 m295 => ((r294 = r296 → (R32 (i + 6)) ∧ VG E mL_law (k + 1) cL_C cL_S SH m295 (cL_C, cL_S) 18 [(0, aF b), (1, aR 0), (2, aR 603), (3, aI (i + 6))] [] (retI Q)) ∧ (¬ r294 = r296 → Q 0 m295))))))) ∧ ((xAnd (sx xs i) 63) = 37 → (R32 (i + 1)) ∧ (0 ≤ (i + 1) ∧ (i + 1) < (L : Int)) ∧ (R32 (sx xs (i + 1)) → CI E mX11_back k mem [aR 0, aI (sx xs (i + 1))] (fun r301 m300 => (R32 (sx xs (i + 1)) → CI E mX12_back k m300 [aR 603, aI (sx xs (i + 1))] (fun r303 m302 => ((r301 = r303 → (R32 (i + 6)) ∧ VG E mL_law (k + 1) cL_C cL_S SH m302 (cL_C, cL_S) 18 [(0, aF b), (1, aR 0), (2, aR 603), (3, aI (i + 6))] [] (retI Q)) ∧ (¬ r301 = r303 → Q 0 m302))))))) ∧ ((xAnd (sx xs i) 63) = 38 → (R32 (i + 1)) ∧ (0 ≤ (i + 1) ∧ (i + 1) < (L : Int)) ∧ (R32 (sx xs (i + 1)) → CI E mX11_count k mem [aR 0, aI (sx xs (i + 1))] (fun r308 m307 => (R32 (sx xs (i + 1)) → CI E mX12_count k m307 [aR 603, aI (sx xs (i + 1))] (fun r310 m309 => ((r308 = r310 → (R32 (i + 6)) ∧ VG E mL_law (k + 1) cL_C cL_S SH m309 (cL_C, cL_S) 18 [(0, aF b), (1, aR 0), (2, aR 603), (3, aI (i + 6))] [] (retI Q)) ∧ (¬ r308 = r310 → Q 0 m309))))))) ∧ ((xAnd (sx xs i) 63) = 39 → (CI E mX11_status k mem [aR 0] (fun r313 m312 => (CI E mX12_status k m312 [aR 603] (fun r315 m314 => ((r313 = r315 → (R32 (i + 6)) ∧ VG E mL_law (k + 1) cL_C cL_S SH m314 (cL_C, cL_S) 18 [(0, aF b), (1, aR 0), (2, aR 603), (3, aI (i + 6))] [] (retI Q)) ∧ (¬ r313 = r315 → Q 0 m314))))))) ∧ ((xAnd (sx xs i) 63) < 0 ∨ 39 < (xAnd (sx xs i) 63) → (R32 (i + 6)) ∧ VG E mL_law (k + 1) cL_C cL_S SH mem (cL_C, cL_S) 18 [(0, aF b), (1, aR 0), (2, aR 603), (3, aI (i + 6))] [] (retI Q)))))) :
    VG E mL_law (k + 1) cL_C cL_S SH mem (cL_C, cL_S) 18 [(0, aF b), (1, aR 0), (2, aR 603), (3, aI i)] [] (retI Q) := by
  refine v_iload_n (pc := 18) dL_law_18 3 rfl ?_
  refine v_aload_nF (pc := 19) dL_law_19 0 rfl ?_
  refine l_slen (pc := 20) hX dL_law_20 ?_
  refine v_bipush (pc := 21) dL_law_21 (by decide) ?_
  obtain ⟨o1, h⟩ := h
  refine l_isub (pc := 23) dL_law_23 o1 ?_
  refine v_icmpgt (pc := 24) (tgt := 1306) dL_law_24 (by decide) (fun c1 => ?_) (fun c1 => ?_)
  · have h := h.1 c1
    refine v_iconst (pc := 1306) dL_law_1306 (by decide) ?_
    exact l_retZ (pc := 1307) dL_law_1307 rfl (by decide) h
  · have h := h.2 c1
    refine v_aload_nF (pc := 27) dL_law_27 0 rfl ?_
    refine v_iload_n (pc := 28) dL_law_28 3 rfl ?_
    obtain ⟨o2, h⟩ := h
    refine l_sld (pc := 29) hX dL_law_29 o2.1 o2.2 ?_
    refine v_bipush (pc := 30) dL_law_30 (by decide) ?_
    refine v_iand (pc := 32) dL_law_32 ?_
    rcases (show (xAnd (sx xs i) 63) = 0 ∨ (xAnd (sx xs i) 63) = 1 ∨ (xAnd (sx xs i) 63) = 2 ∨ (xAnd (sx xs i) 63) = 3 ∨ (xAnd (sx xs i) 63) = 4 ∨ (xAnd (sx xs i) 63) = 5 ∨ (xAnd (sx xs i) 63) = 6 ∨ (xAnd (sx xs i) 63) = 7 ∨ (xAnd (sx xs i) 63) = 8 ∨ (xAnd (sx xs i) 63) = 9 ∨ (xAnd (sx xs i) 63) = 10 ∨ (xAnd (sx xs i) 63) = 11 ∨ (xAnd (sx xs i) 63) = 12 ∨ (xAnd (sx xs i) 63) = 13 ∨ (xAnd (sx xs i) 63) = 14 ∨ (xAnd (sx xs i) 63) = 15 ∨ (xAnd (sx xs i) 63) = 16 ∨ (xAnd (sx xs i) 63) = 17 ∨ (xAnd (sx xs i) 63) = 18 ∨ (xAnd (sx xs i) 63) = 19 ∨ (xAnd (sx xs i) 63) = 20 ∨ (xAnd (sx xs i) 63) = 21 ∨ (xAnd (sx xs i) 63) = 22 ∨ (xAnd (sx xs i) 63) = 23 ∨ (xAnd (sx xs i) 63) = 24 ∨ (xAnd (sx xs i) 63) = 25 ∨ (xAnd (sx xs i) 63) = 26 ∨ (xAnd (sx xs i) 63) = 27 ∨ (xAnd (sx xs i) 63) = 28 ∨ (xAnd (sx xs i) 63) = 29 ∨ (xAnd (sx xs i) 63) = 30 ∨ (xAnd (sx xs i) 63) = 31 ∨ (xAnd (sx xs i) 63) = 32 ∨ (xAnd (sx xs i) 63) = 33 ∨ (xAnd (sx xs i) 63) = 34 ∨ (xAnd (sx xs i) 63) = 35 ∨ (xAnd (sx xs i) 63) = 36 ∨ (xAnd (sx xs i) 63) = 37 ∨ (xAnd (sx xs i) 63) = 38 ∨ (xAnd (sx xs i) 63) = 39 ∨ ((xAnd (sx xs i) 63) < 0 ∨ 39 < (xAnd (sx xs i) 63)) by omega) with c1 | c1 | c1 | c1 | c1 | c1 | c1 | c1 | c1 | c1 | c1 | c1 | c1 | c1 | c1 | c1 | c1 | c1 | c1 | c1 | c1 | c1 | c1 | c1 | c1 | c1 | c1 | c1 | c1 | c1 | c1 | c1 | c1 | c1 | c1 | c1 | c1 | c1 | c1 | c1 | c1
    · have h := h.1 c1
      refine v_tabIn (pc := 33) (tgt := 208) dL_law_33 (by omega) (by omega) (by rw [c1] <;> rfl) (by decide) ?_
      refine v_aload_n (pc := 208) dL_law_208 1 rfl ?_
      refine v_aload_nF (pc := 209) dL_law_209 0 rfl ?_
      refine v_iload_n (pc := 210) dL_law_210 3 rfl ?_
      refine v_iconst (pc := 211) dL_law_211 (by decide) ?_
      obtain ⟨o3, h⟩ := h
      refine l_iadd (pc := 212) dL_law_212 o3 ?_
      obtain ⟨o4, h⟩ := h
      refine l_sld (pc := 213) hX dL_law_213 o4.1 o4.2 ?_
      refine v_aload_nF (pc := 214) dL_law_214 0 rfl ?_
      refine v_iload_n (pc := 215) dL_law_215 3 rfl ?_
      refine v_iconst (pc := 216) dL_law_216 (by decide) ?_
      obtain ⟨o5, h⟩ := h
      refine l_iadd (pc := 217) dL_law_217 o5 ?_
      obtain ⟨o6, h⟩ := h
      refine l_sld (pc := 218) hX dL_law_218 o6.1 o6.2 ?_
      refine v_aload_nF (pc := 219) dL_law_219 0 rfl ?_
      refine v_iload_n (pc := 220) dL_law_220 3 rfl ?_
      refine v_iconst (pc := 221) dL_law_221 (by decide) ?_
      obtain ⟨o7, h⟩ := h
      refine l_iadd (pc := 222) dL_law_222 o7 ?_
      obtain ⟨o8, h⟩ := h
      refine l_sld (pc := 223) hX dL_law_223 o8.1 o8.2 ?_
      refine l_invI (pc := 224) (mi' := mX11_put) (rest := []) [aI (sx xs (i + 1)), aI (sx xs (i + 2)), aI (sx xs (i + 3))] dL_law_224 at0 (by decide) rfl msX11_put mvX11_put lkL_13 rfl (Nat.le_of_ble_eq_true rfl) (fun hn => CI_mono (h (aaI hn 1 rfl) (aaI hn 2 rfl) (aaI hn 3 rfl)) (fun r10 m9 h => ?_))
      refine v_aload_n (pc := 227) dL_law_227 2 rfl ?_
      refine v_aload_nF (pc := 228) dL_law_228 0 rfl ?_
      refine v_iload_n (pc := 229) dL_law_229 3 rfl ?_
      refine v_iconst (pc := 230) dL_law_230 (by decide) ?_
      refine l_iadd (pc := 231) dL_law_231 o3 ?_
      refine l_sld (pc := 232) hX dL_law_232 o4.1 o4.2 ?_
      refine v_aload_nF (pc := 233) dL_law_233 0 rfl ?_
      refine v_iload_n (pc := 234) dL_law_234 3 rfl ?_
      refine v_iconst (pc := 235) dL_law_235 (by decide) ?_
      refine l_iadd (pc := 236) dL_law_236 o5 ?_
      refine l_sld (pc := 237) hX dL_law_237 o6.1 o6.2 ?_
      refine v_aload_nF (pc := 238) dL_law_238 0 rfl ?_
      refine v_iload_n (pc := 239) dL_law_239 3 rfl ?_
      refine v_iconst (pc := 240) dL_law_240 (by decide) ?_
      refine l_iadd (pc := 241) dL_law_241 o7 ?_
      refine l_sld (pc := 242) hX dL_law_242 o8.1 o8.2 ?_
      refine l_invI (pc := 243) (mi' := mX12_put) (rest := [aI r10]) [aI (sx xs (i + 1)), aI (sx xs (i + 2)), aI (sx xs (i + 3))] dL_law_243 at603 (by decide) rfl msX12_put mvX12_put lkL_17 rfl (Nat.le_of_ble_eq_true rfl) (fun hn => CI_mono (h (aaI hn 1 rfl) (aaI hn 2 rfl) (aaI hn 3 rfl)) (fun r12 m11 h => ?_))
      refine v_icmpeq (pc := 246) (tgt := 1300) dL_law_246 (by decide) (fun c1 => ?_) (fun c1 => ?_)
      · have h := h.1 c1
        obtain ⟨o13, h⟩ := h
        refine l_iinc (pc := 1300) (al2 := [(3, aI (i + 6)), (0, aF b), (1, aR 0), (2, aR 603)]) dL_law_1300 3 rfl (by decide) o13 rfl ?_
        refine v_goto (pc := 1303) (tgt := 18) dL_law_1303 (by decide) ?_
        exact VG_sub (al' := [(0, aF b), (1, aR 0), (2, aR 603), (3, aI (i + 6))]) [1, 2, 3, 0] rfl h
      · have h := h.2 c1
        refine v_iconst (pc := 249) dL_law_249 (by decide) ?_
        exact l_retZ (pc := 250) dL_law_250 rfl (by decide) h
    · have h := h.2.1 c1
      refine v_tabIn (pc := 33) (tgt := 251) dL_law_33 (by omega) (by omega) (by rw [c1] <;> rfl) (by decide) ?_
      refine v_aload_n (pc := 251) dL_law_251 1 rfl ?_
      refine v_aload_nF (pc := 252) dL_law_252 0 rfl ?_
      refine v_iload_n (pc := 253) dL_law_253 3 rfl ?_
      refine v_iconst (pc := 254) dL_law_254 (by decide) ?_
      obtain ⟨o14, h⟩ := h
      refine l_iadd (pc := 255) dL_law_255 o14 ?_
      obtain ⟨o15, h⟩ := h
      refine l_sld (pc := 256) hX dL_law_256 o15.1 o15.2 ?_
      refine v_aload_nF (pc := 257) dL_law_257 0 rfl ?_
      refine v_iload_n (pc := 258) dL_law_258 3 rfl ?_
      refine v_iconst (pc := 259) dL_law_259 (by decide) ?_
      obtain ⟨o16, h⟩ := h
      refine l_iadd (pc := 260) dL_law_260 o16 ?_
      obtain ⟨o17, h⟩ := h
      refine l_sld (pc := 261) hX dL_law_261 o17.1 o17.2 ?_
      refine l_invI (pc := 262) (mi' := mX11_at) (rest := []) [aI (sx xs (i + 1)), aI (sx xs (i + 2))] dL_law_262 at0 (by decide) rfl msX11_at mvX11_at lkL_18 rfl (Nat.le_of_ble_eq_true rfl) (fun hn => CI_mono (h (aaI hn 1 rfl) (aaI hn 2 rfl)) (fun r19 m18 h => ?_))
      refine v_aload_n (pc := 265) dL_law_265 2 rfl ?_
      refine v_aload_nF (pc := 266) dL_law_266 0 rfl ?_
      refine v_iload_n (pc := 267) dL_law_267 3 rfl ?_
      refine v_iconst (pc := 268) dL_law_268 (by decide) ?_
      refine l_iadd (pc := 269) dL_law_269 o14 ?_
      refine l_sld (pc := 270) hX dL_law_270 o15.1 o15.2 ?_
      refine v_aload_nF (pc := 271) dL_law_271 0 rfl ?_
      refine v_iload_n (pc := 272) dL_law_272 3 rfl ?_
      refine v_iconst (pc := 273) dL_law_273 (by decide) ?_
      refine l_iadd (pc := 274) dL_law_274 o16 ?_
      refine l_sld (pc := 275) hX dL_law_275 o17.1 o17.2 ?_
      refine l_invI (pc := 276) (mi' := mX12_at) (rest := [aI r19]) [aI (sx xs (i + 1)), aI (sx xs (i + 2))] dL_law_276 at603 (by decide) rfl msX12_at mvX12_at lkL_22 rfl (Nat.le_of_ble_eq_true rfl) (fun hn => CI_mono (h (aaI hn 1 rfl) (aaI hn 2 rfl)) (fun r21 m20 h => ?_))
      refine v_icmpeq (pc := 279) (tgt := 1300) dL_law_279 (by decide) (fun c1 => ?_) (fun c1 => ?_)
      · have h := h.1 c1
        obtain ⟨o22, h⟩ := h
        refine l_iinc (pc := 1300) (al2 := [(3, aI (i + 6)), (0, aF b), (1, aR 0), (2, aR 603)]) dL_law_1300 3 rfl (by decide) o22 rfl ?_
        refine v_goto (pc := 1303) (tgt := 18) dL_law_1303 (by decide) ?_
        exact VG_sub (al' := [(0, aF b), (1, aR 0), (2, aR 603), (3, aI (i + 6))]) [1, 2, 3, 0] rfl h
      · have h := h.2 c1
        refine v_iconst (pc := 282) dL_law_282 (by decide) ?_
        exact l_retZ (pc := 283) dL_law_283 rfl (by decide) h
    · have h := h.2.2.1 c1
      refine v_tabIn (pc := 33) (tgt := 284) dL_law_33 (by omega) (by omega) (by rw [c1] <;> rfl) (by decide) ?_
      refine v_aload_n (pc := 284) dL_law_284 1 rfl ?_
      refine v_aload_nF (pc := 285) dL_law_285 0 rfl ?_
      refine v_iload_n (pc := 286) dL_law_286 3 rfl ?_
      refine v_iconst (pc := 287) dL_law_287 (by decide) ?_
      obtain ⟨o23, h⟩ := h
      refine l_iadd (pc := 288) dL_law_288 o23 ?_
      obtain ⟨o24, h⟩ := h
      refine l_sld (pc := 289) hX dL_law_289 o24.1 o24.2 ?_
      refine v_aload_nF (pc := 290) dL_law_290 0 rfl ?_
      refine v_iload_n (pc := 291) dL_law_291 3 rfl ?_
      refine v_iconst (pc := 292) dL_law_292 (by decide) ?_
      obtain ⟨o25, h⟩ := h
      refine l_iadd (pc := 293) dL_law_293 o25 ?_
      obtain ⟨o26, h⟩ := h
      refine l_sld (pc := 294) hX dL_law_294 o26.1 o26.2 ?_
      refine l_invI (pc := 295) (mi' := mX11_of) (rest := []) [aI (sx xs (i + 1)), aI (sx xs (i + 2))] dL_law_295 at0 (by decide) rfl msX11_of mvX11_of lkL_23 rfl (Nat.le_of_ble_eq_true rfl) (fun hn => CI_mono (h (aaI hn 1 rfl) (aaI hn 2 rfl)) (fun r28 m27 h => ?_))
      refine v_aload_n (pc := 298) dL_law_298 2 rfl ?_
      refine v_aload_nF (pc := 299) dL_law_299 0 rfl ?_
      refine v_iload_n (pc := 300) dL_law_300 3 rfl ?_
      refine v_iconst (pc := 301) dL_law_301 (by decide) ?_
      refine l_iadd (pc := 302) dL_law_302 o23 ?_
      refine l_sld (pc := 303) hX dL_law_303 o24.1 o24.2 ?_
      refine v_aload_nF (pc := 304) dL_law_304 0 rfl ?_
      refine v_iload_n (pc := 305) dL_law_305 3 rfl ?_
      refine v_iconst (pc := 306) dL_law_306 (by decide) ?_
      refine l_iadd (pc := 307) dL_law_307 o25 ?_
      refine l_sld (pc := 308) hX dL_law_308 o26.1 o26.2 ?_
      refine l_invI (pc := 309) (mi' := mX12_of) (rest := [aI r28]) [aI (sx xs (i + 1)), aI (sx xs (i + 2))] dL_law_309 at603 (by decide) rfl msX12_of mvX12_of lkL_26 rfl (Nat.le_of_ble_eq_true rfl) (fun hn => CI_mono (h (aaI hn 1 rfl) (aaI hn 2 rfl)) (fun r30 m29 h => ?_))
      refine v_icmpeq (pc := 312) (tgt := 1300) dL_law_312 (by decide) (fun c1 => ?_) (fun c1 => ?_)
      · have h := h.1 c1
        obtain ⟨o31, h⟩ := h
        refine l_iinc (pc := 1300) (al2 := [(3, aI (i + 6)), (0, aF b), (1, aR 0), (2, aR 603)]) dL_law_1300 3 rfl (by decide) o31 rfl ?_
        refine v_goto (pc := 1303) (tgt := 18) dL_law_1303 (by decide) ?_
        exact VG_sub (al' := [(0, aF b), (1, aR 0), (2, aR 603), (3, aI (i + 6))]) [1, 2, 3, 0] rfl h
      · have h := h.2 c1
        refine v_iconst (pc := 315) dL_law_315 (by decide) ?_
        exact l_retZ (pc := 316) dL_law_316 rfl (by decide) h
    · have h := h.2.2.2.1 c1
      refine v_tabIn (pc := 33) (tgt := 317) dL_law_33 (by omega) (by omega) (by rw [c1] <;> rfl) (by decide) ?_
      refine v_aload_n (pc := 317) dL_law_317 1 rfl ?_
      refine v_aload_nF (pc := 318) dL_law_318 0 rfl ?_
      refine v_iload_n (pc := 319) dL_law_319 3 rfl ?_
      refine v_iconst (pc := 320) dL_law_320 (by decide) ?_
      obtain ⟨o32, h⟩ := h
      refine l_iadd (pc := 321) dL_law_321 o32 ?_
      obtain ⟨o33, h⟩ := h
      refine l_sld (pc := 322) hX dL_law_322 o33.1 o33.2 ?_
      refine v_aload_nF (pc := 323) dL_law_323 0 rfl ?_
      refine v_iload_n (pc := 324) dL_law_324 3 rfl ?_
      refine v_iconst (pc := 325) dL_law_325 (by decide) ?_
      obtain ⟨o34, h⟩ := h
      refine l_iadd (pc := 326) dL_law_326 o34 ?_
      obtain ⟨o35, h⟩ := h
      refine l_sld (pc := 327) hX dL_law_327 o35.1 o35.2 ?_
      refine l_invI (pc := 328) (mi' := mX11_goes) (rest := []) [aI (sx xs (i + 1)), aI (sx xs (i + 2))] dL_law_328 at0 (by decide) rfl msX11_goes mvX11_goes lkL_27 rfl (Nat.le_of_ble_eq_true rfl) (fun hn => CI_mono (h (aaI hn 1 rfl) (aaI hn 2 rfl)) (fun r37 m36 h => ?_))
      refine v_aload_n (pc := 331) dL_law_331 2 rfl ?_
      refine v_aload_nF (pc := 332) dL_law_332 0 rfl ?_
      refine v_iload_n (pc := 333) dL_law_333 3 rfl ?_
      refine v_iconst (pc := 334) dL_law_334 (by decide) ?_
      refine l_iadd (pc := 335) dL_law_335 o32 ?_
      refine l_sld (pc := 336) hX dL_law_336 o33.1 o33.2 ?_
      refine v_aload_nF (pc := 337) dL_law_337 0 rfl ?_
      refine v_iload_n (pc := 338) dL_law_338 3 rfl ?_
      refine v_iconst (pc := 339) dL_law_339 (by decide) ?_
      refine l_iadd (pc := 340) dL_law_340 o34 ?_
      refine l_sld (pc := 341) hX dL_law_341 o35.1 o35.2 ?_
      refine l_invI (pc := 342) (mi' := mX12_goes) (rest := [aI r37]) [aI (sx xs (i + 1)), aI (sx xs (i + 2))] dL_law_342 at603 (by decide) rfl msX12_goes mvX12_goes lkL_30 rfl (Nat.le_of_ble_eq_true rfl) (fun hn => CI_mono (h (aaI hn 1 rfl) (aaI hn 2 rfl)) (fun r39 m38 h => ?_))
      refine v_icmpeq (pc := 345) (tgt := 1300) dL_law_345 (by decide) (fun c1 => ?_) (fun c1 => ?_)
      · have h := h.1 c1
        obtain ⟨o40, h⟩ := h
        refine l_iinc (pc := 1300) (al2 := [(3, aI (i + 6)), (0, aF b), (1, aR 0), (2, aR 603)]) dL_law_1300 3 rfl (by decide) o40 rfl ?_
        refine v_goto (pc := 1303) (tgt := 18) dL_law_1303 (by decide) ?_
        exact VG_sub (al' := [(0, aF b), (1, aR 0), (2, aR 603), (3, aI (i + 6))]) [1, 2, 3, 0] rfl h
      · have h := h.2 c1
        refine v_iconst (pc := 348) dL_law_348 (by decide) ?_
        exact l_retZ (pc := 349) dL_law_349 rfl (by decide) h
    · have h := h.2.2.2.2.1 c1
      refine v_tabIn (pc := 33) (tgt := 350) dL_law_33 (by omega) (by omega) (by rw [c1] <;> rfl) (by decide) ?_
      refine v_aload_n (pc := 350) dL_law_350 1 rfl ?_
      refine v_aload_nF (pc := 351) dL_law_351 0 rfl ?_
      refine v_iload_n (pc := 352) dL_law_352 3 rfl ?_
      refine v_iconst (pc := 353) dL_law_353 (by decide) ?_
      obtain ⟨o41, h⟩ := h
      refine l_iadd (pc := 354) dL_law_354 o41 ?_
      obtain ⟨o42, h⟩ := h
      refine l_sld (pc := 355) hX dL_law_355 o42.1 o42.2 ?_
      refine v_aload_nF (pc := 356) dL_law_356 0 rfl ?_
      refine v_iload_n (pc := 357) dL_law_357 3 rfl ?_
      refine v_iconst (pc := 358) dL_law_358 (by decide) ?_
      obtain ⟨o43, h⟩ := h
      refine l_iadd (pc := 359) dL_law_359 o43 ?_
      obtain ⟨o44, h⟩ := h
      refine l_sld (pc := 360) hX dL_law_360 o44.1 o44.2 ?_
      refine l_invI (pc := 361) (mi' := mX11_barred) (rest := []) [aI (sx xs (i + 1)), aI (sx xs (i + 2))] dL_law_361 at0 (by decide) rfl msX11_barred mvX11_barred lkL_31 rfl (Nat.le_of_ble_eq_true rfl) (fun hn => CI_mono (h (aaI hn 1 rfl) (aaI hn 2 rfl)) (fun r46 m45 h => ?_))
      refine v_aload_n (pc := 364) dL_law_364 2 rfl ?_
      refine v_aload_nF (pc := 365) dL_law_365 0 rfl ?_
      refine v_iload_n (pc := 366) dL_law_366 3 rfl ?_
      refine v_iconst (pc := 367) dL_law_367 (by decide) ?_
      refine l_iadd (pc := 368) dL_law_368 o41 ?_
      refine l_sld (pc := 369) hX dL_law_369 o42.1 o42.2 ?_
      refine v_aload_nF (pc := 370) dL_law_370 0 rfl ?_
      refine v_iload_n (pc := 371) dL_law_371 3 rfl ?_
      refine v_iconst (pc := 372) dL_law_372 (by decide) ?_
      refine l_iadd (pc := 373) dL_law_373 o43 ?_
      refine l_sld (pc := 374) hX dL_law_374 o44.1 o44.2 ?_
      refine l_invI (pc := 375) (mi' := mX12_barred) (rest := [aI r46]) [aI (sx xs (i + 1)), aI (sx xs (i + 2))] dL_law_375 at603 (by decide) rfl msX12_barred mvX12_barred lkL_34 rfl (Nat.le_of_ble_eq_true rfl) (fun hn => CI_mono (h (aaI hn 1 rfl) (aaI hn 2 rfl)) (fun r48 m47 h => ?_))
      refine v_icmpeq (pc := 378) (tgt := 1300) dL_law_378 (by decide) (fun c1 => ?_) (fun c1 => ?_)
      · have h := h.1 c1
        obtain ⟨o49, h⟩ := h
        refine l_iinc (pc := 1300) (al2 := [(3, aI (i + 6)), (0, aF b), (1, aR 0), (2, aR 603)]) dL_law_1300 3 rfl (by decide) o49 rfl ?_
        refine v_goto (pc := 1303) (tgt := 18) dL_law_1303 (by decide) ?_
        exact VG_sub (al' := [(0, aF b), (1, aR 0), (2, aR 603), (3, aI (i + 6))]) [1, 2, 3, 0] rfl h
      · have h := h.2 c1
        refine v_iconst (pc := 381) dL_law_381 (by decide) ?_
        exact l_retZ (pc := 382) dL_law_382 rfl (by decide) h
    · have h := h.2.2.2.2.2.1 c1
      refine v_tabIn (pc := 33) (tgt := 383) dL_law_33 (by omega) (by omega) (by rw [c1] <;> rfl) (by decide) ?_
      refine v_aload_n (pc := 383) dL_law_383 1 rfl ?_
      refine v_aload_nF (pc := 384) dL_law_384 0 rfl ?_
      refine v_iload_n (pc := 385) dL_law_385 3 rfl ?_
      refine v_iconst (pc := 386) dL_law_386 (by decide) ?_
      obtain ⟨o50, h⟩ := h
      refine l_iadd (pc := 387) dL_law_387 o50 ?_
      obtain ⟨o51, h⟩ := h
      refine l_sld (pc := 388) hX dL_law_388 o51.1 o51.2 ?_
      refine v_aload_nF (pc := 389) dL_law_389 0 rfl ?_
      refine v_iload_n (pc := 390) dL_law_390 3 rfl ?_
      refine v_iconst (pc := 391) dL_law_391 (by decide) ?_
      obtain ⟨o52, h⟩ := h
      refine l_iadd (pc := 392) dL_law_392 o52 ?_
      obtain ⟨o53, h⟩ := h
      refine l_sld (pc := 393) hX dL_law_393 o53.1 o53.2 ?_
      refine l_invI (pc := 394) (mi' := mX11_terms) (rest := []) [aI (sx xs (i + 1)), aI (sx xs (i + 2))] dL_law_394 at0 (by decide) rfl msX11_terms mvX11_terms lkL_35 rfl (Nat.le_of_ble_eq_true rfl) (fun hn => CI_mono (h (aaI hn 1 rfl) (aaI hn 2 rfl)) (fun r55 m54 h => ?_))
      refine v_aload_n (pc := 397) dL_law_397 2 rfl ?_
      refine v_aload_nF (pc := 398) dL_law_398 0 rfl ?_
      refine v_iload_n (pc := 399) dL_law_399 3 rfl ?_
      refine v_iconst (pc := 400) dL_law_400 (by decide) ?_
      refine l_iadd (pc := 401) dL_law_401 o50 ?_
      refine l_sld (pc := 402) hX dL_law_402 o51.1 o51.2 ?_
      refine v_aload_nF (pc := 403) dL_law_403 0 rfl ?_
      refine v_iload_n (pc := 404) dL_law_404 3 rfl ?_
      refine v_iconst (pc := 405) dL_law_405 (by decide) ?_
      refine l_iadd (pc := 406) dL_law_406 o52 ?_
      refine l_sld (pc := 407) hX dL_law_407 o53.1 o53.2 ?_
      refine l_invI (pc := 408) (mi' := mX12_terms) (rest := [aI r55]) [aI (sx xs (i + 1)), aI (sx xs (i + 2))] dL_law_408 at603 (by decide) rfl msX12_terms mvX12_terms lkL_38 rfl (Nat.le_of_ble_eq_true rfl) (fun hn => CI_mono (h (aaI hn 1 rfl) (aaI hn 2 rfl)) (fun r57 m56 h => ?_))
      refine v_icmpeq (pc := 411) (tgt := 1300) dL_law_411 (by decide) (fun c1 => ?_) (fun c1 => ?_)
      · have h := h.1 c1
        obtain ⟨o58, h⟩ := h
        refine l_iinc (pc := 1300) (al2 := [(3, aI (i + 6)), (0, aF b), (1, aR 0), (2, aR 603)]) dL_law_1300 3 rfl (by decide) o58 rfl ?_
        refine v_goto (pc := 1303) (tgt := 18) dL_law_1303 (by decide) ?_
        exact VG_sub (al' := [(0, aF b), (1, aR 0), (2, aR 603), (3, aI (i + 6))]) [1, 2, 3, 0] rfl h
      · have h := h.2 c1
        refine v_iconst (pc := 414) dL_law_414 (by decide) ?_
        exact l_retZ (pc := 415) dL_law_415 rfl (by decide) h
    · have h := h.2.2.2.2.2.2.1 c1
      refine v_tabIn (pc := 33) (tgt := 416) dL_law_33 (by omega) (by omega) (by rw [c1] <;> rfl) (by decide) ?_
      refine v_aload_n (pc := 416) dL_law_416 1 rfl ?_
      refine v_aload_nF (pc := 417) dL_law_417 0 rfl ?_
      refine v_iload_n (pc := 418) dL_law_418 3 rfl ?_
      refine v_iconst (pc := 419) dL_law_419 (by decide) ?_
      obtain ⟨o59, h⟩ := h
      refine l_iadd (pc := 420) dL_law_420 o59 ?_
      obtain ⟨o60, h⟩ := h
      refine l_sld (pc := 421) hX dL_law_421 o60.1 o60.2 ?_
      refine v_aload_nF (pc := 422) dL_law_422 0 rfl ?_
      refine v_iload_n (pc := 423) dL_law_423 3 rfl ?_
      refine v_iconst (pc := 424) dL_law_424 (by decide) ?_
      obtain ⟨o61, h⟩ := h
      refine l_iadd (pc := 425) dL_law_425 o61 ?_
      obtain ⟨o62, h⟩ := h
      refine l_sld (pc := 426) hX dL_law_426 o62.1 o62.2 ?_
      refine v_aload_nF (pc := 427) dL_law_427 0 rfl ?_
      refine v_iload_n (pc := 428) dL_law_428 3 rfl ?_
      refine v_iconst (pc := 429) dL_law_429 (by decide) ?_
      obtain ⟨o63, h⟩ := h
      refine l_iadd (pc := 430) dL_law_430 o63 ?_
      obtain ⟨o64, h⟩ := h
      refine l_sld (pc := 431) hX dL_law_431 o64.1 o64.2 ?_
      refine v_aload_nF (pc := 432) dL_law_432 0 rfl ?_
      refine v_iload_n (pc := 433) dL_law_433 3 rfl ?_
      refine v_iconst (pc := 434) dL_law_434 (by decide) ?_
      obtain ⟨o65, h⟩ := h
      refine l_iadd (pc := 435) dL_law_435 o65 ?_
      obtain ⟨o66, h⟩ := h
      refine l_sld (pc := 436) hX dL_law_436 o66.1 o66.2 ?_
      refine v_aload_nF (pc := 437) dL_law_437 0 rfl ?_
      refine v_iload_n (pc := 438) dL_law_438 3 rfl ?_
      refine v_iconst (pc := 439) dL_law_439 (by decide) ?_
      obtain ⟨o67, h⟩ := h
      refine l_iadd (pc := 440) dL_law_440 o67 ?_
      obtain ⟨o68, h⟩ := h
      refine l_sld (pc := 441) hX dL_law_441 o68.1 o68.2 ?_
      refine l_invI (pc := 442) (mi' := mX11_feed) (rest := []) [aI (sx xs (i + 1)), aI (sx xs (i + 2)), aI (sx xs (i + 3)), aI (sx xs (i + 4)), aI (sx xs (i + 5))] dL_law_442 at0 (by decide) rfl msX11_feed mvX11_feed lkL_39 rfl (Nat.le_of_ble_eq_true rfl) (fun hn => CI_mono (h (aaI hn 1 rfl) (aaI hn 2 rfl) (aaI hn 3 rfl) (aaI hn 4 rfl) (aaI hn 5 rfl)) (fun r70 m69 h => ?_))
      refine v_aload_n (pc := 445) dL_law_445 2 rfl ?_
      refine v_aload_nF (pc := 446) dL_law_446 0 rfl ?_
      refine v_iload_n (pc := 447) dL_law_447 3 rfl ?_
      refine v_iconst (pc := 448) dL_law_448 (by decide) ?_
      refine l_iadd (pc := 449) dL_law_449 o59 ?_
      refine l_sld (pc := 450) hX dL_law_450 o60.1 o60.2 ?_
      refine v_aload_nF (pc := 451) dL_law_451 0 rfl ?_
      refine v_iload_n (pc := 452) dL_law_452 3 rfl ?_
      refine v_iconst (pc := 453) dL_law_453 (by decide) ?_
      refine l_iadd (pc := 454) dL_law_454 o61 ?_
      refine l_sld (pc := 455) hX dL_law_455 o62.1 o62.2 ?_
      refine v_aload_nF (pc := 456) dL_law_456 0 rfl ?_
      refine v_iload_n (pc := 457) dL_law_457 3 rfl ?_
      refine v_iconst (pc := 458) dL_law_458 (by decide) ?_
      refine l_iadd (pc := 459) dL_law_459 o63 ?_
      refine l_sld (pc := 460) hX dL_law_460 o64.1 o64.2 ?_
      refine v_aload_nF (pc := 461) dL_law_461 0 rfl ?_
      refine v_iload_n (pc := 462) dL_law_462 3 rfl ?_
      refine v_iconst (pc := 463) dL_law_463 (by decide) ?_
      refine l_iadd (pc := 464) dL_law_464 o65 ?_
      refine l_sld (pc := 465) hX dL_law_465 o66.1 o66.2 ?_
      refine v_aload_nF (pc := 466) dL_law_466 0 rfl ?_
      refine v_iload_n (pc := 467) dL_law_467 3 rfl ?_
      refine v_iconst (pc := 468) dL_law_468 (by decide) ?_
      refine l_iadd (pc := 469) dL_law_469 o67 ?_
      refine l_sld (pc := 470) hX dL_law_470 o68.1 o68.2 ?_
      refine l_invI (pc := 471) (mi' := mX12_feed) (rest := [aI r70]) [aI (sx xs (i + 1)), aI (sx xs (i + 2)), aI (sx xs (i + 3)), aI (sx xs (i + 4)), aI (sx xs (i + 5))] dL_law_471 at603 (by decide) rfl msX12_feed mvX12_feed lkL_43 rfl (Nat.le_of_ble_eq_true rfl) (fun hn => CI_mono (h (aaI hn 1 rfl) (aaI hn 2 rfl) (aaI hn 3 rfl) (aaI hn 4 rfl) (aaI hn 5 rfl)) (fun r72 m71 h => ?_))
      refine v_icmpeq (pc := 474) (tgt := 1300) dL_law_474 (by decide) (fun c1 => ?_) (fun c1 => ?_)
      · have h := h.1 c1
        obtain ⟨o73, h⟩ := h
        refine l_iinc (pc := 1300) (al2 := [(3, aI (i + 6)), (0, aF b), (1, aR 0), (2, aR 603)]) dL_law_1300 3 rfl (by decide) o73 rfl ?_
        refine v_goto (pc := 1303) (tgt := 18) dL_law_1303 (by decide) ?_
        exact VG_sub (al' := [(0, aF b), (1, aR 0), (2, aR 603), (3, aI (i + 6))]) [1, 2, 3, 0] rfl h
      · have h := h.2 c1
        refine v_iconst (pc := 477) dL_law_477 (by decide) ?_
        exact l_retZ (pc := 478) dL_law_478 rfl (by decide) h
    · have h := h.2.2.2.2.2.2.2.1 c1
      refine v_tabIn (pc := 33) (tgt := 479) dL_law_33 (by omega) (by omega) (by rw [c1] <;> rfl) (by decide) ?_
      refine v_aload_n (pc := 479) dL_law_479 1 rfl ?_
      refine v_aload_nF (pc := 480) dL_law_480 0 rfl ?_
      refine v_iload_n (pc := 481) dL_law_481 3 rfl ?_
      refine v_iconst (pc := 482) dL_law_482 (by decide) ?_
      obtain ⟨o74, h⟩ := h
      refine l_iadd (pc := 483) dL_law_483 o74 ?_
      obtain ⟨o75, h⟩ := h
      refine l_sld (pc := 484) hX dL_law_484 o75.1 o75.2 ?_
      refine l_invI (pc := 485) (mi' := mX11_end) (rest := []) [aI (sx xs (i + 1))] dL_law_485 at0 (by decide) rfl msX11_end mvX11_end lkL_44 rfl (Nat.le_of_ble_eq_true rfl) (fun hn => CI_mono (h (aaI hn 1 rfl)) (fun r77 m76 h => ?_))
      refine v_aload_n (pc := 488) dL_law_488 2 rfl ?_
      refine v_aload_nF (pc := 489) dL_law_489 0 rfl ?_
      refine v_iload_n (pc := 490) dL_law_490 3 rfl ?_
      refine v_iconst (pc := 491) dL_law_491 (by decide) ?_
      refine l_iadd (pc := 492) dL_law_492 o74 ?_
      refine l_sld (pc := 493) hX dL_law_493 o75.1 o75.2 ?_
      refine l_invI (pc := 494) (mi' := mX12_end) (rest := [aI r77]) [aI (sx xs (i + 1))] dL_law_494 at603 (by decide) rfl msX12_end mvX12_end lkL_48 rfl (Nat.le_of_ble_eq_true rfl) (fun hn => CI_mono (h (aaI hn 1 rfl)) (fun r79 m78 h => ?_))
      refine v_icmpeq (pc := 497) (tgt := 1300) dL_law_497 (by decide) (fun c1 => ?_) (fun c1 => ?_)
      · have h := h.1 c1
        obtain ⟨o80, h⟩ := h
        refine l_iinc (pc := 1300) (al2 := [(3, aI (i + 6)), (0, aF b), (1, aR 0), (2, aR 603)]) dL_law_1300 3 rfl (by decide) o80 rfl ?_
        refine v_goto (pc := 1303) (tgt := 18) dL_law_1303 (by decide) ?_
        exact VG_sub (al' := [(0, aF b), (1, aR 0), (2, aR 603), (3, aI (i + 6))]) [1, 2, 3, 0] rfl h
      · have h := h.2 c1
        refine v_iconst (pc := 500) dL_law_500 (by decide) ?_
        exact l_retZ (pc := 501) dL_law_501 rfl (by decide) h
    · have h := h.2.2.2.2.2.2.2.2.1 c1
      refine v_tabIn (pc := 33) (tgt := 502) dL_law_33 (by omega) (by omega) (by rw [c1] <;> rfl) (by decide) ?_
      refine v_aload_n (pc := 502) dL_law_502 1 rfl ?_
      refine l_invI (pc := 503) (mi' := mX11_row) (rest := []) [] dL_law_503 at0 (by decide) rfl msX11_row mvX11_row lkL_49 rfl (Nat.le_of_ble_eq_true rfl) (fun hn => CI_mono (h) (fun r82 m81 h => ?_))
      refine v_aload_n (pc := 506) dL_law_506 2 rfl ?_
      refine l_invI (pc := 507) (mi' := mX12_row) (rest := [aI r82]) [] dL_law_507 at603 (by decide) rfl msX12_row mvX12_row lkL_53 rfl (Nat.le_of_ble_eq_true rfl) (fun hn => CI_mono (h) (fun r84 m83 h => ?_))
      refine v_icmpeq (pc := 510) (tgt := 1300) dL_law_510 (by decide) (fun c1 => ?_) (fun c1 => ?_)
      · have h := h.1 c1
        obtain ⟨o85, h⟩ := h
        refine l_iinc (pc := 1300) (al2 := [(3, aI (i + 6)), (0, aF b), (1, aR 0), (2, aR 603)]) dL_law_1300 3 rfl (by decide) o85 rfl ?_
        refine v_goto (pc := 1303) (tgt := 18) dL_law_1303 (by decide) ?_
        exact VG_sub (al' := [(0, aF b), (1, aR 0), (2, aR 603), (3, aI (i + 6))]) [1, 2, 3, 0] rfl h
      · have h := h.2 c1
        refine v_iconst (pc := 513) dL_law_513 (by decide) ?_
        exact l_retZ (pc := 514) dL_law_514 rfl (by decide) h
    · have h := h.2.2.2.2.2.2.2.2.2.1 c1
      refine v_tabIn (pc := 33) (tgt := 515) dL_law_33 (by omega) (by omega) (by rw [c1] <;> rfl) (by decide) ?_
      refine v_aload_n (pc := 515) dL_law_515 1 rfl ?_
      refine l_invI (pc := 516) (mi' := mX11_moles) (rest := []) [] dL_law_516 at0 (by decide) rfl msX11_moles mvX11_moles lkL_54 rfl (Nat.le_of_ble_eq_true rfl) (fun hn => CI_mono (h) (fun r87 m86 h => ?_))
      refine v_aload_n (pc := 519) dL_law_519 2 rfl ?_
      refine l_invI (pc := 520) (mi' := mX12_moles) (rest := [aI r87]) [] dL_law_520 at603 (by decide) rfl msX12_moles mvX12_moles lkL_57 rfl (Nat.le_of_ble_eq_true rfl) (fun hn => CI_mono (h) (fun r89 m88 h => ?_))
      refine v_icmpeq (pc := 523) (tgt := 1300) dL_law_523 (by decide) (fun c1 => ?_) (fun c1 => ?_)
      · have h := h.1 c1
        obtain ⟨o90, h⟩ := h
        refine l_iinc (pc := 1300) (al2 := [(3, aI (i + 6)), (0, aF b), (1, aR 0), (2, aR 603)]) dL_law_1300 3 rfl (by decide) o90 rfl ?_
        refine v_goto (pc := 1303) (tgt := 18) dL_law_1303 (by decide) ?_
        exact VG_sub (al' := [(0, aF b), (1, aR 0), (2, aR 603), (3, aI (i + 6))]) [1, 2, 3, 0] rfl h
      · have h := h.2 c1
        refine v_iconst (pc := 526) dL_law_526 (by decide) ?_
        exact l_retZ (pc := 527) dL_law_527 rfl (by decide) h
    · have h := h.2.2.2.2.2.2.2.2.2.2.1 c1
      refine v_tabIn (pc := 33) (tgt := 528) dL_law_33 (by omega) (by omega) (by rw [c1] <;> rfl) (by decide) ?_
      refine v_aload_n (pc := 528) dL_law_528 1 rfl ?_
      refine l_invI (pc := 529) (mi' := mX11_law) (rest := []) [] dL_law_529 at0 (by decide) rfl msX11_law mvX11_law lkL_58 rfl (Nat.le_of_ble_eq_true rfl) (fun hn => CI_mono (h) (fun r92 m91 h => ?_))
      refine v_aload_n (pc := 532) dL_law_532 2 rfl ?_
      refine l_invI (pc := 533) (mi' := mX12_law) (rest := [aI r92]) [] dL_law_533 at603 (by decide) rfl msX12_law mvX12_law lkL_61 rfl (Nat.le_of_ble_eq_true rfl) (fun hn => CI_mono (h) (fun r94 m93 h => ?_))
      refine v_icmpeq (pc := 536) (tgt := 1300) dL_law_536 (by decide) (fun c1 => ?_) (fun c1 => ?_)
      · have h := h.1 c1
        obtain ⟨o95, h⟩ := h
        refine l_iinc (pc := 1300) (al2 := [(3, aI (i + 6)), (0, aF b), (1, aR 0), (2, aR 603)]) dL_law_1300 3 rfl (by decide) o95 rfl ?_
        refine v_goto (pc := 1303) (tgt := 18) dL_law_1303 (by decide) ?_
        exact VG_sub (al' := [(0, aF b), (1, aR 0), (2, aR 603), (3, aI (i + 6))]) [1, 2, 3, 0] rfl h
      · have h := h.2 c1
        refine v_iconst (pc := 539) dL_law_539 (by decide) ?_
        exact l_retZ (pc := 540) dL_law_540 rfl (by decide) h
    · have h := h.2.2.2.2.2.2.2.2.2.2.2.1 c1
      refine v_tabIn (pc := 33) (tgt := 541) dL_law_33 (by omega) (by omega) (by rw [c1] <;> rfl) (by decide) ?_
      refine v_aload_n (pc := 541) dL_law_541 1 rfl ?_
      refine l_invI (pc := 542) (mi' := mX11_orders) (rest := []) [] dL_law_542 at0 (by decide) rfl msX11_orders mvX11_orders lkL_62 rfl (Nat.le_of_ble_eq_true rfl) (fun hn => CI_mono (h) (fun r97 m96 h => ?_))
      refine v_aload_n (pc := 545) dL_law_545 2 rfl ?_
      refine l_invI (pc := 546) (mi' := mX12_orders) (rest := [aI r97]) [] dL_law_546 at603 (by decide) rfl msX12_orders mvX12_orders lkL_65 rfl (Nat.le_of_ble_eq_true rfl) (fun hn => CI_mono (h) (fun r99 m98 h => ?_))
      refine v_icmpeq (pc := 549) (tgt := 1300) dL_law_549 (by decide) (fun c1 => ?_) (fun c1 => ?_)
      · have h := h.1 c1
        obtain ⟨o100, h⟩ := h
        refine l_iinc (pc := 1300) (al2 := [(3, aI (i + 6)), (0, aF b), (1, aR 0), (2, aR 603)]) dL_law_1300 3 rfl (by decide) o100 rfl ?_
        refine v_goto (pc := 1303) (tgt := 18) dL_law_1303 (by decide) ?_
        exact VG_sub (al' := [(0, aF b), (1, aR 0), (2, aR 603), (3, aI (i + 6))]) [1, 2, 3, 0] rfl h
      · have h := h.2 c1
        refine v_iconst (pc := 552) dL_law_552 (by decide) ?_
        exact l_retZ (pc := 553) dL_law_553 rfl (by decide) h
    · have h := h.2.2.2.2.2.2.2.2.2.2.2.2.1 c1
      refine v_tabIn (pc := 33) (tgt := 554) dL_law_33 (by omega) (by omega) (by rw [c1] <;> rfl) (by decide) ?_
      refine v_aload_n (pc := 554) dL_law_554 1 rfl ?_
      refine l_invI (pc := 555) (mi' := mX11_fault) (rest := []) [] dL_law_555 at0 (by decide) rfl msX11_fault mvX11_fault lkL_66 rfl (Nat.le_of_ble_eq_true rfl) (fun hn => CI_mono (h) (fun r102 m101 h => ?_))
      refine v_aload_n (pc := 558) dL_law_558 2 rfl ?_
      refine l_invI (pc := 559) (mi' := mX12_fault) (rest := [aI r102]) [] dL_law_559 at603 (by decide) rfl msX12_fault mvX12_fault lkL_69 rfl (Nat.le_of_ble_eq_true rfl) (fun hn => CI_mono (h) (fun r104 m103 h => ?_))
      refine v_icmpeq (pc := 562) (tgt := 1300) dL_law_562 (by decide) (fun c1 => ?_) (fun c1 => ?_)
      · have h := h.1 c1
        obtain ⟨o105, h⟩ := h
        refine l_iinc (pc := 1300) (al2 := [(3, aI (i + 6)), (0, aF b), (1, aR 0), (2, aR 603)]) dL_law_1300 3 rfl (by decide) o105 rfl ?_
        refine v_goto (pc := 1303) (tgt := 18) dL_law_1303 (by decide) ?_
        exact VG_sub (al' := [(0, aF b), (1, aR 0), (2, aR 603), (3, aI (i + 6))]) [1, 2, 3, 0] rfl h
      · have h := h.2 c1
        refine v_iconst (pc := 565) dL_law_565 (by decide) ?_
        exact l_retZ (pc := 566) dL_law_566 rfl (by decide) h
    · have h := h.2.2.2.2.2.2.2.2.2.2.2.2.2.1 c1
      refine v_tabIn (pc := 33) (tgt := 567) dL_law_33 (by omega) (by omega) (by rw [c1] <;> rfl) (by decide) ?_
      refine v_aload_n (pc := 567) dL_law_567 1 rfl ?_
      refine l_invI (pc := 568) (mi' := mX11_stopped) (rest := []) [] dL_law_568 at0 (by decide) rfl msX11_stopped mvX11_stopped lkL_70 rfl (Nat.le_of_ble_eq_true rfl) (fun hn => CI_mono (h) (fun r107 m106 h => ?_))
      refine v_aload_n (pc := 571) dL_law_571 2 rfl ?_
      refine l_invI (pc := 572) (mi' := mX12_stopped) (rest := [aI r107]) [] dL_law_572 at603 (by decide) rfl msX12_stopped mvX12_stopped lkL_73 rfl (Nat.le_of_ble_eq_true rfl) (fun hn => CI_mono (h) (fun r109 m108 h => ?_))
      refine v_icmpeq (pc := 575) (tgt := 1300) dL_law_575 (by decide) (fun c1 => ?_) (fun c1 => ?_)
      · have h := h.1 c1
        obtain ⟨o110, h⟩ := h
        refine l_iinc (pc := 1300) (al2 := [(3, aI (i + 6)), (0, aF b), (1, aR 0), (2, aR 603)]) dL_law_1300 3 rfl (by decide) o110 rfl ?_
        refine v_goto (pc := 1303) (tgt := 18) dL_law_1303 (by decide) ?_
        exact VG_sub (al' := [(0, aF b), (1, aR 0), (2, aR 603), (3, aI (i + 6))]) [1, 2, 3, 0] rfl h
      · have h := h.2 c1
        refine v_iconst (pc := 578) dL_law_578 (by decide) ?_
        exact l_retZ (pc := 579) dL_law_579 rfl (by decide) h
    · have h := h.2.2.2.2.2.2.2.2.2.2.2.2.2.2.1 c1
      refine v_tabIn (pc := 33) (tgt := 580) dL_law_33 (by omega) (by omega) (by rw [c1] <;> rfl) (by decide) ?_
      refine v_aload_n (pc := 580) dL_law_580 1 rfl ?_
      refine v_aload_nF (pc := 581) dL_law_581 0 rfl ?_
      refine v_iload_n (pc := 582) dL_law_582 3 rfl ?_
      refine v_iconst (pc := 583) dL_law_583 (by decide) ?_
      obtain ⟨o111, h⟩ := h
      refine l_iadd (pc := 584) dL_law_584 o111 ?_
      obtain ⟨o112, h⟩ := h
      refine l_sld (pc := 585) hX dL_law_585 o112.1 o112.2 ?_
      refine l_invI (pc := 586) (mi' := mX11_force) (rest := []) [aI (sx xs (i + 1))] dL_law_586 at0 (by decide) rfl msX11_force mvX11_force lkL_74 rfl (Nat.le_of_ble_eq_true rfl) (fun hn => CI_mono (h (aaI hn 1 rfl)) (fun r114 m113 h => ?_))
      refine v_aload_n (pc := 589) dL_law_589 2 rfl ?_
      refine v_aload_nF (pc := 590) dL_law_590 0 rfl ?_
      refine v_iload_n (pc := 591) dL_law_591 3 rfl ?_
      refine v_iconst (pc := 592) dL_law_592 (by decide) ?_
      refine l_iadd (pc := 593) dL_law_593 o111 ?_
      refine l_sld (pc := 594) hX dL_law_594 o112.1 o112.2 ?_
      refine l_invI (pc := 595) (mi' := mX12_force) (rest := [aI r114]) [aI (sx xs (i + 1))] dL_law_595 at603 (by decide) rfl msX12_force mvX12_force lkL_77 rfl (Nat.le_of_ble_eq_true rfl) (fun hn => CI_mono (h (aaI hn 1 rfl)) (fun r116 m115 h => ?_))
      refine v_icmpeq (pc := 598) (tgt := 1300) dL_law_598 (by decide) (fun c1 => ?_) (fun c1 => ?_)
      · have h := h.1 c1
        obtain ⟨o117, h⟩ := h
        refine l_iinc (pc := 1300) (al2 := [(3, aI (i + 6)), (0, aF b), (1, aR 0), (2, aR 603)]) dL_law_1300 3 rfl (by decide) o117 rfl ?_
        refine v_goto (pc := 1303) (tgt := 18) dL_law_1303 (by decide) ?_
        exact VG_sub (al' := [(0, aF b), (1, aR 0), (2, aR 603), (3, aI (i + 6))]) [1, 2, 3, 0] rfl h
      · have h := h.2 c1
        refine v_iconst (pc := 601) dL_law_601 (by decide) ?_
        exact l_retZ (pc := 602) dL_law_602 rfl (by decide) h
    · have h := h.2.2.2.2.2.2.2.2.2.2.2.2.2.2.2.1 c1
      refine v_tabIn (pc := 33) (tgt := 603) dL_law_33 (by omega) (by omega) (by rw [c1] <;> rfl) (by decide) ?_
      refine v_aload_n (pc := 603) dL_law_603 1 rfl ?_
      refine v_aload_nF (pc := 604) dL_law_604 0 rfl ?_
      refine v_iload_n (pc := 605) dL_law_605 3 rfl ?_
      refine v_iconst (pc := 606) dL_law_606 (by decide) ?_
      obtain ⟨o118, h⟩ := h
      refine l_iadd (pc := 607) dL_law_607 o118 ?_
      obtain ⟨o119, h⟩ := h
      refine l_sld (pc := 608) hX dL_law_608 o119.1 o119.2 ?_
      refine v_aload_nF (pc := 609) dL_law_609 0 rfl ?_
      refine v_iload_n (pc := 610) dL_law_610 3 rfl ?_
      refine v_iconst (pc := 611) dL_law_611 (by decide) ?_
      obtain ⟨o120, h⟩ := h
      refine l_iadd (pc := 612) dL_law_612 o120 ?_
      obtain ⟨o121, h⟩ := h
      refine l_sld (pc := 613) hX dL_law_613 o121.1 o121.2 ?_
      refine v_aload_nF (pc := 614) dL_law_614 0 rfl ?_
      refine v_iload_n (pc := 615) dL_law_615 3 rfl ?_
      refine v_iconst (pc := 616) dL_law_616 (by decide) ?_
      obtain ⟨o122, h⟩ := h
      refine l_iadd (pc := 617) dL_law_617 o122 ?_
      obtain ⟨o123, h⟩ := h
      refine l_sld (pc := 618) hX dL_law_618 o123.1 o123.2 ?_
      refine l_invI (pc := 619) (mi' := mX11_bury) (rest := []) [aI (sx xs (i + 1)), aI (sx xs (i + 2)), aI (sx xs (i + 3))] dL_law_619 at0 (by decide) rfl msX11_bury mvX11_bury lkL_78 rfl (Nat.le_of_ble_eq_true rfl) (fun hn => CI_mono (h (aaI hn 1 rfl) (aaI hn 2 rfl) (aaI hn 3 rfl)) (fun r125 m124 h => ?_))
      refine v_aload_n (pc := 622) dL_law_622 2 rfl ?_
      refine v_aload_nF (pc := 623) dL_law_623 0 rfl ?_
      refine v_iload_n (pc := 624) dL_law_624 3 rfl ?_
      refine v_iconst (pc := 625) dL_law_625 (by decide) ?_
      refine l_iadd (pc := 626) dL_law_626 o118 ?_
      refine l_sld (pc := 627) hX dL_law_627 o119.1 o119.2 ?_
      refine v_aload_nF (pc := 628) dL_law_628 0 rfl ?_
      refine v_iload_n (pc := 629) dL_law_629 3 rfl ?_
      refine v_iconst (pc := 630) dL_law_630 (by decide) ?_
      refine l_iadd (pc := 631) dL_law_631 o120 ?_
      refine l_sld (pc := 632) hX dL_law_632 o121.1 o121.2 ?_
      refine v_aload_nF (pc := 633) dL_law_633 0 rfl ?_
      refine v_iload_n (pc := 634) dL_law_634 3 rfl ?_
      refine v_iconst (pc := 635) dL_law_635 (by decide) ?_
      refine l_iadd (pc := 636) dL_law_636 o122 ?_
      refine l_sld (pc := 637) hX dL_law_637 o123.1 o123.2 ?_
      refine l_invI (pc := 638) (mi' := mX12_bury) (rest := [aI r125]) [aI (sx xs (i + 1)), aI (sx xs (i + 2)), aI (sx xs (i + 3))] dL_law_638 at603 (by decide) rfl msX12_bury mvX12_bury lkL_81 rfl (Nat.le_of_ble_eq_true rfl) (fun hn => CI_mono (h (aaI hn 1 rfl) (aaI hn 2 rfl) (aaI hn 3 rfl)) (fun r127 m126 h => ?_))
      refine v_icmpeq (pc := 641) (tgt := 1300) dL_law_641 (by decide) (fun c1 => ?_) (fun c1 => ?_)
      · have h := h.1 c1
        obtain ⟨o128, h⟩ := h
        refine l_iinc (pc := 1300) (al2 := [(3, aI (i + 6)), (0, aF b), (1, aR 0), (2, aR 603)]) dL_law_1300 3 rfl (by decide) o128 rfl ?_
        refine v_goto (pc := 1303) (tgt := 18) dL_law_1303 (by decide) ?_
        exact VG_sub (al' := [(0, aF b), (1, aR 0), (2, aR 603), (3, aI (i + 6))]) [1, 2, 3, 0] rfl h
      · have h := h.2 c1
        refine v_iconst (pc := 644) dL_law_644 (by decide) ?_
        exact l_retZ (pc := 645) dL_law_645 rfl (by decide) h
    · have h := h.2.2.2.2.2.2.2.2.2.2.2.2.2.2.2.2.1 c1
      refine v_tabIn (pc := 33) (tgt := 646) dL_law_33 (by omega) (by omega) (by rw [c1] <;> rfl) (by decide) ?_
      refine v_aload_n (pc := 646) dL_law_646 1 rfl ?_
      refine v_aload_nF (pc := 647) dL_law_647 0 rfl ?_
      refine v_iload_n (pc := 648) dL_law_648 3 rfl ?_
      refine v_iconst (pc := 649) dL_law_649 (by decide) ?_
      obtain ⟨o129, h⟩ := h
      refine l_iadd (pc := 650) dL_law_650 o129 ?_
      obtain ⟨o130, h⟩ := h
      refine l_sld (pc := 651) hX dL_law_651 o130.1 o130.2 ?_
      refine l_invI (pc := 652) (mi' := mX11_buy) (rest := []) [aI (sx xs (i + 1))] dL_law_652 at0 (by decide) rfl msX11_buy mvX11_buy lkL_82 rfl (Nat.le_of_ble_eq_true rfl) (fun hn => CI_mono (h (aaI hn 1 rfl)) (fun r132 m131 h => ?_))
      refine v_aload_n (pc := 655) dL_law_655 2 rfl ?_
      refine v_aload_nF (pc := 656) dL_law_656 0 rfl ?_
      refine v_iload_n (pc := 657) dL_law_657 3 rfl ?_
      refine v_iconst (pc := 658) dL_law_658 (by decide) ?_
      refine l_iadd (pc := 659) dL_law_659 o129 ?_
      refine l_sld (pc := 660) hX dL_law_660 o130.1 o130.2 ?_
      refine l_invI (pc := 661) (mi' := mX12_buy) (rest := [aI r132]) [aI (sx xs (i + 1))] dL_law_661 at603 (by decide) rfl msX12_buy mvX12_buy lkL_85 rfl (Nat.le_of_ble_eq_true rfl) (fun hn => CI_mono (h (aaI hn 1 rfl)) (fun r134 m133 h => ?_))
      refine v_icmpeq (pc := 664) (tgt := 1300) dL_law_664 (by decide) (fun c1 => ?_) (fun c1 => ?_)
      · have h := h.1 c1
        obtain ⟨o135, h⟩ := h
        refine l_iinc (pc := 1300) (al2 := [(3, aI (i + 6)), (0, aF b), (1, aR 0), (2, aR 603)]) dL_law_1300 3 rfl (by decide) o135 rfl ?_
        refine v_goto (pc := 1303) (tgt := 18) dL_law_1303 (by decide) ?_
        exact VG_sub (al' := [(0, aF b), (1, aR 0), (2, aR 603), (3, aI (i + 6))]) [1, 2, 3, 0] rfl h
      · have h := h.2 c1
        refine v_iconst (pc := 667) dL_law_667 (by decide) ?_
        exact l_retZ (pc := 668) dL_law_668 rfl (by decide) h
    · have h := h.2.2.2.2.2.2.2.2.2.2.2.2.2.2.2.2.2.1 c1
      refine v_tabIn (pc := 33) (tgt := 669) dL_law_33 (by omega) (by omega) (by rw [c1] <;> rfl) (by decide) ?_
      refine v_aload_n (pc := 669) dL_law_669 1 rfl ?_
      refine v_aload_nF (pc := 670) dL_law_670 0 rfl ?_
      refine v_iload_n (pc := 671) dL_law_671 3 rfl ?_
      refine v_iconst (pc := 672) dL_law_672 (by decide) ?_
      obtain ⟨o136, h⟩ := h
      refine l_iadd (pc := 673) dL_law_673 o136 ?_
      obtain ⟨o137, h⟩ := h
      refine l_sld (pc := 674) hX dL_law_674 o137.1 o137.2 ?_
      refine l_invI (pc := 675) (mi' := mX11_raise) (rest := []) [aI (sx xs (i + 1))] dL_law_675 at0 (by decide) rfl msX11_raise mvX11_raise lkL_86 rfl (Nat.le_of_ble_eq_true rfl) (fun hn => CI_mono (h (aaI hn 1 rfl)) (fun r139 m138 h => ?_))
      refine v_aload_n (pc := 678) dL_law_678 2 rfl ?_
      refine v_aload_nF (pc := 679) dL_law_679 0 rfl ?_
      refine v_iload_n (pc := 680) dL_law_680 3 rfl ?_
      refine v_iconst (pc := 681) dL_law_681 (by decide) ?_
      refine l_iadd (pc := 682) dL_law_682 o136 ?_
      refine l_sld (pc := 683) hX dL_law_683 o137.1 o137.2 ?_
      refine l_invI (pc := 684) (mi' := mX12_raise) (rest := [aI r139]) [aI (sx xs (i + 1))] dL_law_684 at603 (by decide) rfl msX12_raise mvX12_raise lkL_89 rfl (Nat.le_of_ble_eq_true rfl) (fun hn => CI_mono (h (aaI hn 1 rfl)) (fun r141 m140 h => ?_))
      refine v_icmpeq (pc := 687) (tgt := 1300) dL_law_687 (by decide) (fun c1 => ?_) (fun c1 => ?_)
      · have h := h.1 c1
        obtain ⟨o142, h⟩ := h
        refine l_iinc (pc := 1300) (al2 := [(3, aI (i + 6)), (0, aF b), (1, aR 0), (2, aR 603)]) dL_law_1300 3 rfl (by decide) o142 rfl ?_
        refine v_goto (pc := 1303) (tgt := 18) dL_law_1303 (by decide) ?_
        exact VG_sub (al' := [(0, aF b), (1, aR 0), (2, aR 603), (3, aI (i + 6))]) [1, 2, 3, 0] rfl h
      · have h := h.2 c1
        refine v_iconst (pc := 690) dL_law_690 (by decide) ?_
        exact l_retZ (pc := 691) dL_law_691 rfl (by decide) h
    · have h := h.2.2.2.2.2.2.2.2.2.2.2.2.2.2.2.2.2.2.1 c1
      refine v_tabIn (pc := 33) (tgt := 692) dL_law_33 (by omega) (by omega) (by rw [c1] <;> rfl) (by decide) ?_
      refine v_aload_n (pc := 692) dL_law_692 1 rfl ?_
      refine l_invI (pc := 693) (mi' := mX11_pass) (rest := []) [] dL_law_693 at0 (by decide) rfl msX11_pass mvX11_pass lkL_90 rfl (Nat.le_of_ble_eq_true rfl) (fun hn => CI_mono (h) (fun r144 m143 h => ?_))
      refine v_aload_n (pc := 696) dL_law_696 2 rfl ?_
      refine l_invI (pc := 697) (mi' := mX12_pass) (rest := [aI r144]) [] dL_law_697 at603 (by decide) rfl msX12_pass mvX12_pass lkL_93 rfl (Nat.le_of_ble_eq_true rfl) (fun hn => CI_mono (h) (fun r146 m145 h => ?_))
      refine v_icmpeq (pc := 700) (tgt := 1300) dL_law_700 (by decide) (fun c1 => ?_) (fun c1 => ?_)
      · have h := h.1 c1
        obtain ⟨o147, h⟩ := h
        refine l_iinc (pc := 1300) (al2 := [(3, aI (i + 6)), (0, aF b), (1, aR 0), (2, aR 603)]) dL_law_1300 3 rfl (by decide) o147 rfl ?_
        refine v_goto (pc := 1303) (tgt := 18) dL_law_1303 (by decide) ?_
        exact VG_sub (al' := [(0, aF b), (1, aR 0), (2, aR 603), (3, aI (i + 6))]) [1, 2, 3, 0] rfl h
      · have h := h.2 c1
        refine v_iconst (pc := 703) dL_law_703 (by decide) ?_
        exact l_retZ (pc := 704) dL_law_704 rfl (by decide) h
    · have h := h.2.2.2.2.2.2.2.2.2.2.2.2.2.2.2.2.2.2.2.1 c1
      refine v_tabIn (pc := 33) (tgt := 705) dL_law_33 (by omega) (by omega) (by rw [c1] <;> rfl) (by decide) ?_
      refine v_aload_n (pc := 705) dL_law_705 1 rfl ?_
      refine l_invI (pc := 706) (mi' := mX11_blocked) (rest := []) [] dL_law_706 at0 (by decide) rfl msX11_blocked mvX11_blocked lkL_94 rfl (Nat.le_of_ble_eq_true rfl) (fun hn => CI_mono (h) (fun r149 m148 h => ?_))
      refine v_aload_n (pc := 709) dL_law_709 2 rfl ?_
      refine l_invI (pc := 710) (mi' := mX12_blocked) (rest := [aI r149]) [] dL_law_710 at603 (by decide) rfl msX12_blocked mvX12_blocked lkL_97 rfl (Nat.le_of_ble_eq_true rfl) (fun hn => CI_mono (h) (fun r151 m150 h => ?_))
      refine v_icmpeq (pc := 713) (tgt := 1300) dL_law_713 (by decide) (fun c1 => ?_) (fun c1 => ?_)
      · have h := h.1 c1
        obtain ⟨o152, h⟩ := h
        refine l_iinc (pc := 1300) (al2 := [(3, aI (i + 6)), (0, aF b), (1, aR 0), (2, aR 603)]) dL_law_1300 3 rfl (by decide) o152 rfl ?_
        refine v_goto (pc := 1303) (tgt := 18) dL_law_1303 (by decide) ?_
        exact VG_sub (al' := [(0, aF b), (1, aR 0), (2, aR 603), (3, aI (i + 6))]) [1, 2, 3, 0] rfl h
      · have h := h.2 c1
        refine v_iconst (pc := 716) dL_law_716 (by decide) ?_
        exact l_retZ (pc := 717) dL_law_717 rfl (by decide) h
    · have h := h.2.2.2.2.2.2.2.2.2.2.2.2.2.2.2.2.2.2.2.2.1 c1
      refine v_tabIn (pc := 33) (tgt := 718) dL_law_33 (by omega) (by omega) (by rw [c1] <;> rfl) (by decide) ?_
      refine v_aload_n (pc := 718) dL_law_718 1 rfl ?_
      refine l_invI (pc := 719) (mi' := mX11_undo) (rest := []) [] dL_law_719 at0 (by decide) rfl msX11_undo mvX11_undo lkL_98 rfl (Nat.le_of_ble_eq_true rfl) (fun hn => CI_mono (h) (fun r154 m153 h => ?_))
      refine v_aload_n (pc := 722) dL_law_722 2 rfl ?_
      refine l_invI (pc := 723) (mi' := mX12_undo) (rest := [aI r154]) [] dL_law_723 at603 (by decide) rfl msX12_undo mvX12_undo lkL_101 rfl (Nat.le_of_ble_eq_true rfl) (fun hn => CI_mono (h) (fun r156 m155 h => ?_))
      refine v_icmpeq (pc := 726) (tgt := 1300) dL_law_726 (by decide) (fun c1 => ?_) (fun c1 => ?_)
      · have h := h.1 c1
        obtain ⟨o157, h⟩ := h
        refine l_iinc (pc := 1300) (al2 := [(3, aI (i + 6)), (0, aF b), (1, aR 0), (2, aR 603)]) dL_law_1300 3 rfl (by decide) o157 rfl ?_
        refine v_goto (pc := 1303) (tgt := 18) dL_law_1303 (by decide) ?_
        exact VG_sub (al' := [(0, aF b), (1, aR 0), (2, aR 603), (3, aI (i + 6))]) [1, 2, 3, 0] rfl h
      · have h := h.2 c1
        refine v_iconst (pc := 729) dL_law_729 (by decide) ?_
        exact l_retZ (pc := 730) dL_law_730 rfl (by decide) h
    · have h := h.2.2.2.2.2.2.2.2.2.2.2.2.2.2.2.2.2.2.2.2.2.1 c1
      refine v_tabIn (pc := 33) (tgt := 731) dL_law_33 (by omega) (by omega) (by rw [c1] <;> rfl) (by decide) ?_
      refine v_aload_n (pc := 731) dL_law_731 1 rfl ?_
      refine v_aload_nF (pc := 732) dL_law_732 0 rfl ?_
      refine v_iload_n (pc := 733) dL_law_733 3 rfl ?_
      refine v_iconst (pc := 734) dL_law_734 (by decide) ?_
      obtain ⟨o158, h⟩ := h
      refine l_iadd (pc := 735) dL_law_735 o158 ?_
      obtain ⟨o159, h⟩ := h
      refine l_sld (pc := 736) hX dL_law_736 o159.1 o159.2 ?_
      refine v_aload_nF (pc := 737) dL_law_737 0 rfl ?_
      refine v_iload_n (pc := 738) dL_law_738 3 rfl ?_
      refine v_iconst (pc := 739) dL_law_739 (by decide) ?_
      obtain ⟨o160, h⟩ := h
      refine l_iadd (pc := 740) dL_law_740 o160 ?_
      obtain ⟨o161, h⟩ := h
      refine l_sld (pc := 741) hX dL_law_741 o161.1 o161.2 ?_
      refine l_invI (pc := 742) (mi' := mX11_where) (rest := []) [aI (sx xs (i + 1)), aI (sx xs (i + 2))] dL_law_742 at0 (by decide) rfl msX11_where mvX11_where lkL_102 rfl (Nat.le_of_ble_eq_true rfl) (fun hn => CI_mono (h (aaI hn 1 rfl) (aaI hn 2 rfl)) (fun r163 m162 h => ?_))
      refine v_aload_n (pc := 745) dL_law_745 2 rfl ?_
      refine v_aload_nF (pc := 746) dL_law_746 0 rfl ?_
      refine v_iload_n (pc := 747) dL_law_747 3 rfl ?_
      refine v_iconst (pc := 748) dL_law_748 (by decide) ?_
      refine l_iadd (pc := 749) dL_law_749 o158 ?_
      refine l_sld (pc := 750) hX dL_law_750 o159.1 o159.2 ?_
      refine v_aload_nF (pc := 751) dL_law_751 0 rfl ?_
      refine v_iload_n (pc := 752) dL_law_752 3 rfl ?_
      refine v_iconst (pc := 753) dL_law_753 (by decide) ?_
      refine l_iadd (pc := 754) dL_law_754 o160 ?_
      refine l_sld (pc := 755) hX dL_law_755 o161.1 o161.2 ?_
      refine l_invI (pc := 756) (mi' := mX12_where) (rest := [aI r163]) [aI (sx xs (i + 1)), aI (sx xs (i + 2))] dL_law_756 at603 (by decide) rfl msX12_where mvX12_where lkL_105 rfl (Nat.le_of_ble_eq_true rfl) (fun hn => CI_mono (h (aaI hn 1 rfl) (aaI hn 2 rfl)) (fun r165 m164 h => ?_))
      refine v_icmpeq (pc := 759) (tgt := 1300) dL_law_759 (by decide) (fun c1 => ?_) (fun c1 => ?_)
      · have h := h.1 c1
        obtain ⟨o166, h⟩ := h
        refine l_iinc (pc := 1300) (al2 := [(3, aI (i + 6)), (0, aF b), (1, aR 0), (2, aR 603)]) dL_law_1300 3 rfl (by decide) o166 rfl ?_
        refine v_goto (pc := 1303) (tgt := 18) dL_law_1303 (by decide) ?_
        exact VG_sub (al' := [(0, aF b), (1, aR 0), (2, aR 603), (3, aI (i + 6))]) [1, 2, 3, 0] rfl h
      · have h := h.2 c1
        refine v_iconst (pc := 762) dL_law_762 (by decide) ?_
        exact l_retZ (pc := 763) dL_law_763 rfl (by decide) h
    · have h := h.2.2.2.2.2.2.2.2.2.2.2.2.2.2.2.2.2.2.2.2.2.2.1 c1
      refine v_tabIn (pc := 33) (tgt := 764) dL_law_33 (by omega) (by omega) (by rw [c1] <;> rfl) (by decide) ?_
      refine v_aload_n (pc := 764) dL_law_764 1 rfl ?_
      refine l_invI (pc := 765) (mi' := mX11_indoors) (rest := []) [] dL_law_765 at0 (by decide) rfl msX11_indoors mvX11_indoors lkL_106 rfl (Nat.le_of_ble_eq_true rfl) (fun hn => CI_mono (h) (fun r168 m167 h => ?_))
      refine v_aload_n (pc := 768) dL_law_768 2 rfl ?_
      refine l_invI (pc := 769) (mi' := mX12_indoors) (rest := [aI r168]) [] dL_law_769 at603 (by decide) rfl msX12_indoors mvX12_indoors lkL_109 rfl (Nat.le_of_ble_eq_true rfl) (fun hn => CI_mono (h) (fun r170 m169 h => ?_))
      refine v_icmpeq (pc := 772) (tgt := 1300) dL_law_772 (by decide) (fun c1 => ?_) (fun c1 => ?_)
      · have h := h.1 c1
        obtain ⟨o171, h⟩ := h
        refine l_iinc (pc := 1300) (al2 := [(3, aI (i + 6)), (0, aF b), (1, aR 0), (2, aR 603)]) dL_law_1300 3 rfl (by decide) o171 rfl ?_
        refine v_goto (pc := 1303) (tgt := 18) dL_law_1303 (by decide) ?_
        exact VG_sub (al' := [(0, aF b), (1, aR 0), (2, aR 603), (3, aI (i + 6))]) [1, 2, 3, 0] rfl h
      · have h := h.2 c1
        refine v_iconst (pc := 775) dL_law_775 (by decide) ?_
        exact l_retZ (pc := 776) dL_law_776 rfl (by decide) h
    · have h := h.2.2.2.2.2.2.2.2.2.2.2.2.2.2.2.2.2.2.2.2.2.2.2.1 c1
      refine v_tabIn (pc := 33) (tgt := 777) dL_law_33 (by omega) (by omega) (by rw [c1] <;> rfl) (by decide) ?_
      refine v_aload_n (pc := 777) dL_law_777 1 rfl ?_
      refine v_aload_nF (pc := 778) dL_law_778 0 rfl ?_
      refine v_iload_n (pc := 779) dL_law_779 3 rfl ?_
      refine v_iconst (pc := 780) dL_law_780 (by decide) ?_
      obtain ⟨o172, h⟩ := h
      refine l_iadd (pc := 781) dL_law_781 o172 ?_
      obtain ⟨o173, h⟩ := h
      refine l_sld (pc := 782) hX dL_law_782 o173.1 o173.2 ?_
      refine v_aload_nF (pc := 783) dL_law_783 0 rfl ?_
      refine v_iload_n (pc := 784) dL_law_784 3 rfl ?_
      refine v_iconst (pc := 785) dL_law_785 (by decide) ?_
      obtain ⟨o174, h⟩ := h
      refine l_iadd (pc := 786) dL_law_786 o174 ?_
      obtain ⟨o175, h⟩ := h
      refine l_sld (pc := 787) hX dL_law_787 o175.1 o175.2 ?_
      refine v_aload_nF (pc := 788) dL_law_788 0 rfl ?_
      refine v_iload_n (pc := 789) dL_law_789 3 rfl ?_
      refine v_iconst (pc := 790) dL_law_790 (by decide) ?_
      obtain ⟨o176, h⟩ := h
      refine l_iadd (pc := 791) dL_law_791 o176 ?_
      obtain ⟨o177, h⟩ := h
      refine l_sld (pc := 792) hX dL_law_792 o177.1 o177.2 ?_
      refine v_aload_nF (pc := 793) dL_law_793 0 rfl ?_
      refine v_iload_n (pc := 794) dL_law_794 3 rfl ?_
      refine v_iconst (pc := 795) dL_law_795 (by decide) ?_
      obtain ⟨o178, h⟩ := h
      refine l_iadd (pc := 796) dL_law_796 o178 ?_
      obtain ⟨o179, h⟩ := h
      refine l_sld (pc := 797) hX dL_law_797 o179.1 o179.2 ?_
      refine l_invL (pc := 798) (mi' := mX11_ways) (rest := []) [aI (sx xs (i + 1)), aI (sx xs (i + 2)), aI (sx xs (i + 3)), aI (sx xs (i + 4))] dL_law_798 at0 (by decide) rfl msX11_ways mvX11_ways lkL_110 rfl (Nat.le_of_ble_eq_true rfl) (fun hn => CL_mono (h (aaI hn 1 rfl) (aaI hn 2 rfl) (aaI hn 3 rfl) (aaI hn 4 rfl)) (fun r181 m180 h => ?_))
      refine v_aload_n (pc := 801) dL_law_801 2 rfl ?_
      refine v_aload_nF (pc := 802) dL_law_802 0 rfl ?_
      refine v_iload_n (pc := 803) dL_law_803 3 rfl ?_
      refine v_iconst (pc := 804) dL_law_804 (by decide) ?_
      refine l_iadd (pc := 805) dL_law_805 o172 ?_
      refine l_sld (pc := 806) hX dL_law_806 o173.1 o173.2 ?_
      refine v_aload_nF (pc := 807) dL_law_807 0 rfl ?_
      refine v_iload_n (pc := 808) dL_law_808 3 rfl ?_
      refine v_iconst (pc := 809) dL_law_809 (by decide) ?_
      refine l_iadd (pc := 810) dL_law_810 o174 ?_
      refine l_sld (pc := 811) hX dL_law_811 o175.1 o175.2 ?_
      refine v_aload_nF (pc := 812) dL_law_812 0 rfl ?_
      refine v_iload_n (pc := 813) dL_law_813 3 rfl ?_
      refine v_iconst (pc := 814) dL_law_814 (by decide) ?_
      refine l_iadd (pc := 815) dL_law_815 o176 ?_
      refine l_sld (pc := 816) hX dL_law_816 o177.1 o177.2 ?_
      refine v_aload_nF (pc := 817) dL_law_817 0 rfl ?_
      refine v_iload_n (pc := 818) dL_law_818 3 rfl ?_
      refine v_iconst (pc := 819) dL_law_819 (by decide) ?_
      refine l_iadd (pc := 820) dL_law_820 o178 ?_
      refine l_sld (pc := 821) hX dL_law_821 o179.1 o179.2 ?_
      refine l_invL (pc := 822) (mi' := mX12_ways) (rest := [aL r181]) [aI (sx xs (i + 1)), aI (sx xs (i + 2)), aI (sx xs (i + 3)), aI (sx xs (i + 4))] dL_law_822 at603 (by decide) rfl msX12_ways mvX12_ways lkL_114 rfl (Nat.le_of_ble_eq_true rfl) (fun hn => CL_mono (h (aaI hn 1 rfl) (aaI hn 2 rfl) (aaI hn 3 rfl) (aaI hn 4 rfl)) (fun r183 m182 h => ?_))
      refine v_lcmpeq (pc := 825) (tgt := 1300) dL_law_825 dL_law_826 (by decide) (fun c1 => ?_) (fun c1 => ?_)
      · have h := h.1 c1
        obtain ⟨o184, h⟩ := h
        refine l_iinc (pc := 1300) (al2 := [(3, aI (i + 6)), (0, aF b), (1, aR 0), (2, aR 603)]) dL_law_1300 3 rfl (by decide) o184 rfl ?_
        refine v_goto (pc := 1303) (tgt := 18) dL_law_1303 (by decide) ?_
        exact VG_sub (al' := [(0, aF b), (1, aR 0), (2, aR 603), (3, aI (i + 6))]) [1, 2, 3, 0] rfl h
      · have h := h.2 c1
        refine v_iconst (pc := 829) dL_law_829 (by decide) ?_
        exact l_retZ (pc := 830) dL_law_830 rfl (by decide) h
    · have h := h.2.2.2.2.2.2.2.2.2.2.2.2.2.2.2.2.2.2.2.2.2.2.2.2.1 c1
      refine v_tabIn (pc := 33) (tgt := 831) dL_law_33 (by omega) (by omega) (by rw [c1] <;> rfl) (by decide) ?_
      refine v_aload_n (pc := 831) dL_law_831 1 rfl ?_
      refine v_aload_nF (pc := 832) dL_law_832 0 rfl ?_
      refine v_iload_n (pc := 833) dL_law_833 3 rfl ?_
      refine v_iconst (pc := 834) dL_law_834 (by decide) ?_
      obtain ⟨o185, h⟩ := h
      refine l_iadd (pc := 835) dL_law_835 o185 ?_
      obtain ⟨o186, h⟩ := h
      refine l_sld (pc := 836) hX dL_law_836 o186.1 o186.2 ?_
      refine l_invI (pc := 837) (mi' := mX11_packed) (rest := []) [aI (sx xs (i + 1))] dL_law_837 at0 (by decide) rfl msX11_packed mvX11_packed lkL_115 rfl (Nat.le_of_ble_eq_true rfl) (fun hn => CI_mono (h (aaI hn 1 rfl)) (fun r188 m187 h => ?_))
      refine v_aload_n (pc := 840) dL_law_840 2 rfl ?_
      refine v_aload_nF (pc := 841) dL_law_841 0 rfl ?_
      refine v_iload_n (pc := 842) dL_law_842 3 rfl ?_
      refine v_iconst (pc := 843) dL_law_843 (by decide) ?_
      refine l_iadd (pc := 844) dL_law_844 o185 ?_
      refine l_sld (pc := 845) hX dL_law_845 o186.1 o186.2 ?_
      refine l_invI (pc := 846) (mi' := mX12_packed) (rest := [aI r188]) [aI (sx xs (i + 1))] dL_law_846 at603 (by decide) rfl msX12_packed mvX12_packed lkL_118 rfl (Nat.le_of_ble_eq_true rfl) (fun hn => CI_mono (h (aaI hn 1 rfl)) (fun r190 m189 h => ?_))
      refine v_icmpeq (pc := 849) (tgt := 1300) dL_law_849 (by decide) (fun c1 => ?_) (fun c1 => ?_)
      · have h := h.1 c1
        obtain ⟨o191, h⟩ := h
        refine l_iinc (pc := 1300) (al2 := [(3, aI (i + 6)), (0, aF b), (1, aR 0), (2, aR 603)]) dL_law_1300 3 rfl (by decide) o191 rfl ?_
        refine v_goto (pc := 1303) (tgt := 18) dL_law_1303 (by decide) ?_
        exact VG_sub (al' := [(0, aF b), (1, aR 0), (2, aR 603), (3, aI (i + 6))]) [1, 2, 3, 0] rfl h
      · have h := h.2 c1
        refine v_iconst (pc := 852) dL_law_852 (by decide) ?_
        exact l_retZ (pc := 853) dL_law_853 rfl (by decide) h
    · have h := h.2.2.2.2.2.2.2.2.2.2.2.2.2.2.2.2.2.2.2.2.2.2.2.2.2.1 c1
      refine v_tabIn (pc := 33) (tgt := 854) dL_law_33 (by omega) (by omega) (by rw [c1] <;> rfl) (by decide) ?_
      refine v_aload_n (pc := 854) dL_law_854 1 rfl ?_
      refine v_aload_nF (pc := 855) dL_law_855 0 rfl ?_
      refine v_iload_n (pc := 856) dL_law_856 3 rfl ?_
      refine v_iconst (pc := 857) dL_law_857 (by decide) ?_
      obtain ⟨o192, h⟩ := h
      refine l_iadd (pc := 858) dL_law_858 o192 ?_
      obtain ⟨o193, h⟩ := h
      refine l_sld (pc := 859) hX dL_law_859 o193.1 o193.2 ?_
      refine v_aload_nF (pc := 860) dL_law_860 0 rfl ?_
      refine v_iload_n (pc := 861) dL_law_861 3 rfl ?_
      refine v_iconst (pc := 862) dL_law_862 (by decide) ?_
      obtain ⟨o194, h⟩ := h
      refine l_iadd (pc := 863) dL_law_863 o194 ?_
      obtain ⟨o195, h⟩ := h
      refine l_sld (pc := 864) hX dL_law_864 o195.1 o195.2 ?_
      refine l_invI (pc := 865) (mi' := mX11_meets) (rest := []) [aI (sx xs (i + 1)), aI (sx xs (i + 2))] dL_law_865 at0 (by decide) rfl msX11_meets mvX11_meets lkL_119 rfl (Nat.le_of_ble_eq_true rfl) (fun hn => CI_mono (h (aaI hn 1 rfl) (aaI hn 2 rfl)) (fun r197 m196 h => ?_))
      refine v_aload_n (pc := 868) dL_law_868 2 rfl ?_
      refine v_aload_nF (pc := 869) dL_law_869 0 rfl ?_
      refine v_iload_n (pc := 870) dL_law_870 3 rfl ?_
      refine v_iconst (pc := 871) dL_law_871 (by decide) ?_
      refine l_iadd (pc := 872) dL_law_872 o192 ?_
      refine l_sld (pc := 873) hX dL_law_873 o193.1 o193.2 ?_
      refine v_aload_nF (pc := 874) dL_law_874 0 rfl ?_
      refine v_iload_n (pc := 875) dL_law_875 3 rfl ?_
      refine v_iconst (pc := 876) dL_law_876 (by decide) ?_
      refine l_iadd (pc := 877) dL_law_877 o194 ?_
      refine l_sld (pc := 878) hX dL_law_878 o195.1 o195.2 ?_
      refine l_invI (pc := 879) (mi' := mX12_meets) (rest := [aI r197]) [aI (sx xs (i + 1)), aI (sx xs (i + 2))] dL_law_879 at603 (by decide) rfl msX12_meets mvX12_meets lkL_122 rfl (Nat.le_of_ble_eq_true rfl) (fun hn => CI_mono (h (aaI hn 1 rfl) (aaI hn 2 rfl)) (fun r199 m198 h => ?_))
      refine v_icmpeq (pc := 882) (tgt := 1300) dL_law_882 (by decide) (fun c1 => ?_) (fun c1 => ?_)
      · have h := h.1 c1
        obtain ⟨o200, h⟩ := h
        refine l_iinc (pc := 1300) (al2 := [(3, aI (i + 6)), (0, aF b), (1, aR 0), (2, aR 603)]) dL_law_1300 3 rfl (by decide) o200 rfl ?_
        refine v_goto (pc := 1303) (tgt := 18) dL_law_1303 (by decide) ?_
        exact VG_sub (al' := [(0, aF b), (1, aR 0), (2, aR 603), (3, aI (i + 6))]) [1, 2, 3, 0] rfl h
      · have h := h.2 c1
        refine v_iconst (pc := 885) dL_law_885 (by decide) ?_
        exact l_retZ (pc := 886) dL_law_886 rfl (by decide) h
    · have h := h.2.2.2.2.2.2.2.2.2.2.2.2.2.2.2.2.2.2.2.2.2.2.2.2.2.2.1 c1
      refine v_tabIn (pc := 33) (tgt := 887) dL_law_33 (by omega) (by omega) (by rw [c1] <;> rfl) (by decide) ?_
      refine v_aload_n (pc := 887) dL_law_887 1 rfl ?_
      refine v_aload_nF (pc := 888) dL_law_888 0 rfl ?_
      refine v_iload_n (pc := 889) dL_law_889 3 rfl ?_
      refine v_iconst (pc := 890) dL_law_890 (by decide) ?_
      obtain ⟨o201, h⟩ := h
      refine l_iadd (pc := 891) dL_law_891 o201 ?_
      obtain ⟨o202, h⟩ := h
      refine l_sld (pc := 892) hX dL_law_892 o202.1 o202.2 ?_
      refine v_aload_nF (pc := 893) dL_law_893 0 rfl ?_
      refine v_iload_n (pc := 894) dL_law_894 3 rfl ?_
      refine v_iconst (pc := 895) dL_law_895 (by decide) ?_
      obtain ⟨o203, h⟩ := h
      refine l_iadd (pc := 896) dL_law_896 o203 ?_
      obtain ⟨o204, h⟩ := h
      refine l_sld (pc := 897) hX dL_law_897 o204.1 o204.2 ?_
      refine v_aload_nF (pc := 898) dL_law_898 0 rfl ?_
      refine v_iload_n (pc := 899) dL_law_899 3 rfl ?_
      refine v_iconst (pc := 900) dL_law_900 (by decide) ?_
      obtain ⟨o205, h⟩ := h
      refine l_iadd (pc := 901) dL_law_901 o205 ?_
      obtain ⟨o206, h⟩ := h
      refine l_sld (pc := 902) hX dL_law_902 o206.1 o206.2 ?_
      refine v_aload_nF (pc := 903) dL_law_903 0 rfl ?_
      refine v_iload_n (pc := 904) dL_law_904 3 rfl ?_
      refine v_iconst (pc := 905) dL_law_905 (by decide) ?_
      obtain ⟨o207, h⟩ := h
      refine l_iadd (pc := 906) dL_law_906 o207 ?_
      obtain ⟨o208, h⟩ := h
      refine l_sld (pc := 907) hX dL_law_907 o208.1 o208.2 ?_
      refine l_invI (pc := 908) (mi' := mX11_meet) (rest := []) [aI (sx xs (i + 1)), aI (sx xs (i + 2)), aI (sx xs (i + 3)), aI (sx xs (i + 4))] dL_law_908 at0 (by decide) rfl msX11_meet mvX11_meet lkL_123 rfl (Nat.le_of_ble_eq_true rfl) (fun hn => CI_mono (h (aaI hn 1 rfl) (aaI hn 2 rfl) (aaI hn 3 rfl) (aaI hn 4 rfl)) (fun r210 m209 h => ?_))
      refine v_aload_n (pc := 911) dL_law_911 2 rfl ?_
      refine v_aload_nF (pc := 912) dL_law_912 0 rfl ?_
      refine v_iload_n (pc := 913) dL_law_913 3 rfl ?_
      refine v_iconst (pc := 914) dL_law_914 (by decide) ?_
      refine l_iadd (pc := 915) dL_law_915 o201 ?_
      refine l_sld (pc := 916) hX dL_law_916 o202.1 o202.2 ?_
      refine v_aload_nF (pc := 917) dL_law_917 0 rfl ?_
      refine v_iload_n (pc := 918) dL_law_918 3 rfl ?_
      refine v_iconst (pc := 919) dL_law_919 (by decide) ?_
      refine l_iadd (pc := 920) dL_law_920 o203 ?_
      refine l_sld (pc := 921) hX dL_law_921 o204.1 o204.2 ?_
      refine v_aload_nF (pc := 922) dL_law_922 0 rfl ?_
      refine v_iload_n (pc := 923) dL_law_923 3 rfl ?_
      refine v_iconst (pc := 924) dL_law_924 (by decide) ?_
      refine l_iadd (pc := 925) dL_law_925 o205 ?_
      refine l_sld (pc := 926) hX dL_law_926 o206.1 o206.2 ?_
      refine v_aload_nF (pc := 927) dL_law_927 0 rfl ?_
      refine v_iload_n (pc := 928) dL_law_928 3 rfl ?_
      refine v_iconst (pc := 929) dL_law_929 (by decide) ?_
      refine l_iadd (pc := 930) dL_law_930 o207 ?_
      refine l_sld (pc := 931) hX dL_law_931 o208.1 o208.2 ?_
      refine l_invI (pc := 932) (mi' := mX12_meet) (rest := [aI r210]) [aI (sx xs (i + 1)), aI (sx xs (i + 2)), aI (sx xs (i + 3)), aI (sx xs (i + 4))] dL_law_932 at603 (by decide) rfl msX12_meet mvX12_meet lkL_127 rfl (Nat.le_of_ble_eq_true rfl) (fun hn => CI_mono (h (aaI hn 1 rfl) (aaI hn 2 rfl) (aaI hn 3 rfl) (aaI hn 4 rfl)) (fun r212 m211 h => ?_))
      refine v_icmpeq (pc := 935) (tgt := 1300) dL_law_935 (by decide) (fun c1 => ?_) (fun c1 => ?_)
      · have h := h.1 c1
        obtain ⟨o213, h⟩ := h
        refine l_iinc (pc := 1300) (al2 := [(3, aI (i + 6)), (0, aF b), (1, aR 0), (2, aR 603)]) dL_law_1300 3 rfl (by decide) o213 rfl ?_
        refine v_goto (pc := 1303) (tgt := 18) dL_law_1303 (by decide) ?_
        exact VG_sub (al' := [(0, aF b), (1, aR 0), (2, aR 603), (3, aI (i + 6))]) [1, 2, 3, 0] rfl h
      · have h := h.2 c1
        refine v_iconst (pc := 938) dL_law_938 (by decide) ?_
        exact l_retZ (pc := 939) dL_law_939 rfl (by decide) h
    · have h := h.2.2.2.2.2.2.2.2.2.2.2.2.2.2.2.2.2.2.2.2.2.2.2.2.2.2.2.1 c1
      refine v_tabIn (pc := 33) (tgt := 940) dL_law_33 (by omega) (by omega) (by rw [c1] <;> rfl) (by decide) ?_
      refine v_aload_n (pc := 940) dL_law_940 1 rfl ?_
      refine v_aload_nF (pc := 941) dL_law_941 0 rfl ?_
      refine v_iload_n (pc := 942) dL_law_942 3 rfl ?_
      refine v_iconst (pc := 943) dL_law_943 (by decide) ?_
      obtain ⟨o214, h⟩ := h
      refine l_iadd (pc := 944) dL_law_944 o214 ?_
      obtain ⟨o215, h⟩ := h
      refine l_sld (pc := 945) hX dL_law_945 o215.1 o215.2 ?_
      refine v_aload_nF (pc := 946) dL_law_946 0 rfl ?_
      refine v_iload_n (pc := 947) dL_law_947 3 rfl ?_
      refine v_iconst (pc := 948) dL_law_948 (by decide) ?_
      obtain ⟨o216, h⟩ := h
      refine l_iadd (pc := 949) dL_law_949 o216 ?_
      obtain ⟨o217, h⟩ := h
      refine l_sld (pc := 950) hX dL_law_950 o217.1 o217.2 ?_
      refine v_aload_nF (pc := 951) dL_law_951 0 rfl ?_
      refine v_iload_n (pc := 952) dL_law_952 3 rfl ?_
      refine v_iconst (pc := 953) dL_law_953 (by decide) ?_
      obtain ⟨o218, h⟩ := h
      refine l_iadd (pc := 954) dL_law_954 o218 ?_
      obtain ⟨o219, h⟩ := h
      refine l_sld (pc := 955) hX dL_law_955 o219.1 o219.2 ?_
      refine l_invI (pc := 956) (mi' := mX11_find) (rest := []) [aI (sx xs (i + 1)), aI (sx xs (i + 2)), aI (sx xs (i + 3))] dL_law_956 at0 (by decide) rfl msX11_find mvX11_find lkL_128 rfl (Nat.le_of_ble_eq_true rfl) (fun hn => CI_mono (h (aaI hn 1 rfl) (aaI hn 2 rfl) (aaI hn 3 rfl)) (fun r221 m220 h => ?_))
      refine v_aload_n (pc := 959) dL_law_959 2 rfl ?_
      refine v_aload_nF (pc := 960) dL_law_960 0 rfl ?_
      refine v_iload_n (pc := 961) dL_law_961 3 rfl ?_
      refine v_iconst (pc := 962) dL_law_962 (by decide) ?_
      refine l_iadd (pc := 963) dL_law_963 o214 ?_
      refine l_sld (pc := 964) hX dL_law_964 o215.1 o215.2 ?_
      refine v_aload_nF (pc := 965) dL_law_965 0 rfl ?_
      refine v_iload_n (pc := 966) dL_law_966 3 rfl ?_
      refine v_iconst (pc := 967) dL_law_967 (by decide) ?_
      refine l_iadd (pc := 968) dL_law_968 o216 ?_
      refine l_sld (pc := 969) hX dL_law_969 o217.1 o217.2 ?_
      refine v_aload_nF (pc := 970) dL_law_970 0 rfl ?_
      refine v_iload_n (pc := 971) dL_law_971 3 rfl ?_
      refine v_iconst (pc := 972) dL_law_972 (by decide) ?_
      refine l_iadd (pc := 973) dL_law_973 o218 ?_
      refine l_sld (pc := 974) hX dL_law_974 o219.1 o219.2 ?_
      refine l_invI (pc := 975) (mi' := mX12_find) (rest := [aI r221]) [aI (sx xs (i + 1)), aI (sx xs (i + 2)), aI (sx xs (i + 3))] dL_law_975 at603 (by decide) rfl msX12_find mvX12_find lkL_131 rfl (Nat.le_of_ble_eq_true rfl) (fun hn => CI_mono (h (aaI hn 1 rfl) (aaI hn 2 rfl) (aaI hn 3 rfl)) (fun r223 m222 h => ?_))
      refine v_icmpeq (pc := 978) (tgt := 1300) dL_law_978 (by decide) (fun c1 => ?_) (fun c1 => ?_)
      · have h := h.1 c1
        obtain ⟨o224, h⟩ := h
        refine l_iinc (pc := 1300) (al2 := [(3, aI (i + 6)), (0, aF b), (1, aR 0), (2, aR 603)]) dL_law_1300 3 rfl (by decide) o224 rfl ?_
        refine v_goto (pc := 1303) (tgt := 18) dL_law_1303 (by decide) ?_
        exact VG_sub (al' := [(0, aF b), (1, aR 0), (2, aR 603), (3, aI (i + 6))]) [1, 2, 3, 0] rfl h
      · have h := h.2 c1
        refine v_iconst (pc := 981) dL_law_981 (by decide) ?_
        exact l_retZ (pc := 982) dL_law_982 rfl (by decide) h
    · have h := h.2.2.2.2.2.2.2.2.2.2.2.2.2.2.2.2.2.2.2.2.2.2.2.2.2.2.2.2.1 c1
      refine v_tabIn (pc := 33) (tgt := 983) dL_law_33 (by omega) (by omega) (by rw [c1] <;> rfl) (by decide) ?_
      refine v_aload_n (pc := 983) dL_law_983 1 rfl ?_
      refine l_invI (pc := 984) (mi' := mX11_forget) (rest := []) [] dL_law_984 at0 (by decide) rfl msX11_forget mvX11_forget lkL_132 rfl (Nat.le_of_ble_eq_true rfl) (fun hn => CI_mono (h) (fun r226 m225 h => ?_))
      refine v_aload_n (pc := 987) dL_law_987 2 rfl ?_
      refine l_invI (pc := 988) (mi' := mX12_forget) (rest := [aI r226]) [] dL_law_988 at603 (by decide) rfl msX12_forget mvX12_forget lkL_135 rfl (Nat.le_of_ble_eq_true rfl) (fun hn => CI_mono (h) (fun r228 m227 h => ?_))
      refine v_icmpeq (pc := 991) (tgt := 1300) dL_law_991 (by decide) (fun c1 => ?_) (fun c1 => ?_)
      · have h := h.1 c1
        obtain ⟨o229, h⟩ := h
        refine l_iinc (pc := 1300) (al2 := [(3, aI (i + 6)), (0, aF b), (1, aR 0), (2, aR 603)]) dL_law_1300 3 rfl (by decide) o229 rfl ?_
        refine v_goto (pc := 1303) (tgt := 18) dL_law_1303 (by decide) ?_
        exact VG_sub (al' := [(0, aF b), (1, aR 0), (2, aR 603), (3, aI (i + 6))]) [1, 2, 3, 0] rfl h
      · have h := h.2 c1
        refine v_iconst (pc := 994) dL_law_994 (by decide) ?_
        exact l_retZ (pc := 995) dL_law_995 rfl (by decide) h
    · have h := h.2.2.2.2.2.2.2.2.2.2.2.2.2.2.2.2.2.2.2.2.2.2.2.2.2.2.2.2.2.1 c1
      refine v_tabIn (pc := 33) (tgt := 996) dL_law_33 (by omega) (by omega) (by rw [c1] <;> rfl) (by decide) ?_
      refine v_aload_n (pc := 996) dL_law_996 1 rfl ?_
      refine v_aload_nF (pc := 997) dL_law_997 0 rfl ?_
      refine v_iload_n (pc := 998) dL_law_998 3 rfl ?_
      refine v_iconst (pc := 999) dL_law_999 (by decide) ?_
      obtain ⟨o230, h⟩ := h
      refine l_iadd (pc := 1000) dL_law_1000 o230 ?_
      obtain ⟨o231, h⟩ := h
      refine l_sld (pc := 1001) hX dL_law_1001 o231.1 o231.2 ?_
      refine l_invI (pc := 1002) (mi' := mX11_hidden) (rest := []) [aI (sx xs (i + 1))] dL_law_1002 at0 (by decide) rfl msX11_hidden mvX11_hidden lkL_136 rfl (Nat.le_of_ble_eq_true rfl) (fun hn => CI_mono (h (aaI hn 1 rfl)) (fun r233 m232 h => ?_))
      refine v_aload_n (pc := 1005) dL_law_1005 2 rfl ?_
      refine v_aload_nF (pc := 1006) dL_law_1006 0 rfl ?_
      refine v_iload_n (pc := 1007) dL_law_1007 3 rfl ?_
      refine v_iconst (pc := 1008) dL_law_1008 (by decide) ?_
      refine l_iadd (pc := 1009) dL_law_1009 o230 ?_
      refine l_sld (pc := 1010) hX dL_law_1010 o231.1 o231.2 ?_
      refine l_invI (pc := 1011) (mi' := mX12_hidden) (rest := [aI r233]) [aI (sx xs (i + 1))] dL_law_1011 at603 (by decide) rfl msX12_hidden mvX12_hidden lkL_139 rfl (Nat.le_of_ble_eq_true rfl) (fun hn => CI_mono (h (aaI hn 1 rfl)) (fun r235 m234 h => ?_))
      refine v_icmpeq (pc := 1014) (tgt := 1300) dL_law_1014 (by decide) (fun c1 => ?_) (fun c1 => ?_)
      · have h := h.1 c1
        obtain ⟨o236, h⟩ := h
        refine l_iinc (pc := 1300) (al2 := [(3, aI (i + 6)), (0, aF b), (1, aR 0), (2, aR 603)]) dL_law_1300 3 rfl (by decide) o236 rfl ?_
        refine v_goto (pc := 1303) (tgt := 18) dL_law_1303 (by decide) ?_
        exact VG_sub (al' := [(0, aF b), (1, aR 0), (2, aR 603), (3, aI (i + 6))]) [1, 2, 3, 0] rfl h
      · have h := h.2 c1
        refine v_iconst (pc := 1017) dL_law_1017 (by decide) ?_
        exact l_retZ (pc := 1018) dL_law_1018 rfl (by decide) h
    · have h := h.2.2.2.2.2.2.2.2.2.2.2.2.2.2.2.2.2.2.2.2.2.2.2.2.2.2.2.2.2.2.1 c1
      refine v_tabIn (pc := 33) (tgt := 1019) dL_law_33 (by omega) (by omega) (by rw [c1] <;> rfl) (by decide) ?_
      refine v_aload_n (pc := 1019) dL_law_1019 1 rfl ?_
      refine v_aload_nF (pc := 1020) dL_law_1020 0 rfl ?_
      refine v_iload_n (pc := 1021) dL_law_1021 3 rfl ?_
      refine v_iconst (pc := 1022) dL_law_1022 (by decide) ?_
      obtain ⟨o237, h⟩ := h
      refine l_iadd (pc := 1023) dL_law_1023 o237 ?_
      obtain ⟨o238, h⟩ := h
      refine l_sld (pc := 1024) hX dL_law_1024 o238.1 o238.2 ?_
      refine v_aload_nF (pc := 1025) dL_law_1025 0 rfl ?_
      refine v_iload_n (pc := 1026) dL_law_1026 3 rfl ?_
      refine v_iconst (pc := 1027) dL_law_1027 (by decide) ?_
      obtain ⟨o239, h⟩ := h
      refine l_iadd (pc := 1028) dL_law_1028 o239 ?_
      obtain ⟨o240, h⟩ := h
      refine l_sld (pc := 1029) hX dL_law_1029 o240.1 o240.2 ?_
      refine l_invI (pc := 1030) (mi' := mX11_spade) (rest := []) [aI (sx xs (i + 1)), aI (sx xs (i + 2))] dL_law_1030 at0 (by decide) rfl msX11_spade mvX11_spade lkL_140 rfl (Nat.le_of_ble_eq_true rfl) (fun hn => CI_mono (h (aaI hn 1 rfl) (aaI hn 2 rfl)) (fun r242 m241 h => ?_))
      refine v_aload_n (pc := 1033) dL_law_1033 2 rfl ?_
      refine v_aload_nF (pc := 1034) dL_law_1034 0 rfl ?_
      refine v_iload_n (pc := 1035) dL_law_1035 3 rfl ?_
      refine v_iconst (pc := 1036) dL_law_1036 (by decide) ?_
      refine l_iadd (pc := 1037) dL_law_1037 o237 ?_
      refine l_sld (pc := 1038) hX dL_law_1038 o238.1 o238.2 ?_
      refine v_aload_nF (pc := 1039) dL_law_1039 0 rfl ?_
      refine v_iload_n (pc := 1040) dL_law_1040 3 rfl ?_
      refine v_iconst (pc := 1041) dL_law_1041 (by decide) ?_
      refine l_iadd (pc := 1042) dL_law_1042 o239 ?_
      refine l_sld (pc := 1043) hX dL_law_1043 o240.1 o240.2 ?_
      refine l_invI (pc := 1044) (mi' := mX12_spade) (rest := [aI r242]) [aI (sx xs (i + 1)), aI (sx xs (i + 2))] dL_law_1044 at603 (by decide) rfl msX12_spade mvX12_spade lkL_143 rfl (Nat.le_of_ble_eq_true rfl) (fun hn => CI_mono (h (aaI hn 1 rfl) (aaI hn 2 rfl)) (fun r244 m243 h => ?_))
      refine v_icmpeq (pc := 1047) (tgt := 1300) dL_law_1047 (by decide) (fun c1 => ?_) (fun c1 => ?_)
      · have h := h.1 c1
        obtain ⟨o245, h⟩ := h
        refine l_iinc (pc := 1300) (al2 := [(3, aI (i + 6)), (0, aF b), (1, aR 0), (2, aR 603)]) dL_law_1300 3 rfl (by decide) o245 rfl ?_
        refine v_goto (pc := 1303) (tgt := 18) dL_law_1303 (by decide) ?_
        exact VG_sub (al' := [(0, aF b), (1, aR 0), (2, aR 603), (3, aI (i + 6))]) [1, 2, 3, 0] rfl h
      · have h := h.2 c1
        refine v_iconst (pc := 1050) dL_law_1050 (by decide) ?_
        exact l_retZ (pc := 1051) dL_law_1051 rfl (by decide) h
    · have h := h.2.2.2.2.2.2.2.2.2.2.2.2.2.2.2.2.2.2.2.2.2.2.2.2.2.2.2.2.2.2.2.1 c1
      refine v_tabIn (pc := 33) (tgt := 1052) dL_law_33 (by omega) (by omega) (by rw [c1] <;> rfl) (by decide) ?_
      refine v_aload_n (pc := 1052) dL_law_1052 1 rfl ?_
      refine v_aload_nF (pc := 1053) dL_law_1053 0 rfl ?_
      refine v_iload_n (pc := 1054) dL_law_1054 3 rfl ?_
      refine v_iconst (pc := 1055) dL_law_1055 (by decide) ?_
      obtain ⟨o246, h⟩ := h
      refine l_iadd (pc := 1056) dL_law_1056 o246 ?_
      obtain ⟨o247, h⟩ := h
      refine l_sld (pc := 1057) hX dL_law_1057 o247.1 o247.2 ?_
      refine v_aload_nF (pc := 1058) dL_law_1058 0 rfl ?_
      refine v_iload_n (pc := 1059) dL_law_1059 3 rfl ?_
      refine v_iconst (pc := 1060) dL_law_1060 (by decide) ?_
      obtain ⟨o248, h⟩ := h
      refine l_iadd (pc := 1061) dL_law_1061 o248 ?_
      obtain ⟨o249, h⟩ := h
      refine l_sld (pc := 1062) hX dL_law_1062 o249.1 o249.2 ?_
      refine l_invI (pc := 1063) (mi' := mX11_compare) (rest := []) [aI (sx xs (i + 1)), aI (sx xs (i + 2))] dL_law_1063 at0 (by decide) rfl msX11_compare mvX11_compare lkL_144 rfl (Nat.le_of_ble_eq_true rfl) (fun hn => CI_mono (h (aaI hn 1 rfl) (aaI hn 2 rfl)) (fun r251 m250 h => ?_))
      refine v_aload_n (pc := 1066) dL_law_1066 2 rfl ?_
      refine v_aload_nF (pc := 1067) dL_law_1067 0 rfl ?_
      refine v_iload_n (pc := 1068) dL_law_1068 3 rfl ?_
      refine v_iconst (pc := 1069) dL_law_1069 (by decide) ?_
      refine l_iadd (pc := 1070) dL_law_1070 o246 ?_
      refine l_sld (pc := 1071) hX dL_law_1071 o247.1 o247.2 ?_
      refine v_aload_nF (pc := 1072) dL_law_1072 0 rfl ?_
      refine v_iload_n (pc := 1073) dL_law_1073 3 rfl ?_
      refine v_iconst (pc := 1074) dL_law_1074 (by decide) ?_
      refine l_iadd (pc := 1075) dL_law_1075 o248 ?_
      refine l_sld (pc := 1076) hX dL_law_1076 o249.1 o249.2 ?_
      refine l_invI (pc := 1077) (mi' := mX12_compare) (rest := [aI r251]) [aI (sx xs (i + 1)), aI (sx xs (i + 2))] dL_law_1077 at603 (by decide) rfl msX12_compare mvX12_compare lkL_147 rfl (Nat.le_of_ble_eq_true rfl) (fun hn => CI_mono (h (aaI hn 1 rfl) (aaI hn 2 rfl)) (fun r253 m252 h => ?_))
      refine v_icmpeq (pc := 1080) (tgt := 1300) dL_law_1080 (by decide) (fun c1 => ?_) (fun c1 => ?_)
      · have h := h.1 c1
        obtain ⟨o254, h⟩ := h
        refine l_iinc (pc := 1300) (al2 := [(3, aI (i + 6)), (0, aF b), (1, aR 0), (2, aR 603)]) dL_law_1300 3 rfl (by decide) o254 rfl ?_
        refine v_goto (pc := 1303) (tgt := 18) dL_law_1303 (by decide) ?_
        exact VG_sub (al' := [(0, aF b), (1, aR 0), (2, aR 603), (3, aI (i + 6))]) [1, 2, 3, 0] rfl h
      · have h := h.2 c1
        refine v_iconst (pc := 1083) dL_law_1083 (by decide) ?_
        exact l_retZ (pc := 1084) dL_law_1084 rfl (by decide) h
    · have h := h.2.2.2.2.2.2.2.2.2.2.2.2.2.2.2.2.2.2.2.2.2.2.2.2.2.2.2.2.2.2.2.2.1 c1
      refine v_tabIn (pc := 33) (tgt := 1085) dL_law_33 (by omega) (by omega) (by rw [c1] <;> rfl) (by decide) ?_
      refine v_aload_n (pc := 1085) dL_law_1085 1 rfl ?_
      refine v_aload_nF (pc := 1086) dL_law_1086 0 rfl ?_
      refine v_iload_n (pc := 1087) dL_law_1087 3 rfl ?_
      refine v_iconst (pc := 1088) dL_law_1088 (by decide) ?_
      obtain ⟨o255, h⟩ := h
      refine l_iadd (pc := 1089) dL_law_1089 o255 ?_
      obtain ⟨o256, h⟩ := h
      refine l_sld (pc := 1090) hX dL_law_1090 o256.1 o256.2 ?_
      refine v_aload_nF (pc := 1091) dL_law_1091 0 rfl ?_
      refine v_iload_n (pc := 1092) dL_law_1092 3 rfl ?_
      refine v_iconst (pc := 1093) dL_law_1093 (by decide) ?_
      obtain ⟨o257, h⟩ := h
      refine l_iadd (pc := 1094) dL_law_1094 o257 ?_
      obtain ⟨o258, h⟩ := h
      refine l_sld (pc := 1095) hX dL_law_1095 o258.1 o258.2 ?_
      refine v_aload_nF (pc := 1096) dL_law_1096 0 rfl ?_
      refine v_iload_n (pc := 1097) dL_law_1097 3 rfl ?_
      refine v_iconst (pc := 1098) dL_law_1098 (by decide) ?_
      obtain ⟨o259, h⟩ := h
      refine l_iadd (pc := 1099) dL_law_1099 o259 ?_
      obtain ⟨o260, h⟩ := h
      refine l_sld (pc := 1100) hX dL_law_1100 o260.1 o260.2 ?_
      refine l_invL (pc := 1101) (mi' := mX11_arrives) (rest := []) [aI (sx xs (i + 1)), aI (sx xs (i + 2)), aI (sx xs (i + 3))] dL_law_1101 at0 (by decide) rfl msX11_arrives mvX11_arrives lkL_148 rfl (Nat.le_of_ble_eq_true rfl) (fun hn => CL_mono (h (aaI hn 1 rfl) (aaI hn 2 rfl) (aaI hn 3 rfl)) (fun r262 m261 h => ?_))
      refine v_aload_n (pc := 1104) dL_law_1104 2 rfl ?_
      refine v_aload_nF (pc := 1105) dL_law_1105 0 rfl ?_
      refine v_iload_n (pc := 1106) dL_law_1106 3 rfl ?_
      refine v_iconst (pc := 1107) dL_law_1107 (by decide) ?_
      refine l_iadd (pc := 1108) dL_law_1108 o255 ?_
      refine l_sld (pc := 1109) hX dL_law_1109 o256.1 o256.2 ?_
      refine v_aload_nF (pc := 1110) dL_law_1110 0 rfl ?_
      refine v_iload_n (pc := 1111) dL_law_1111 3 rfl ?_
      refine v_iconst (pc := 1112) dL_law_1112 (by decide) ?_
      refine l_iadd (pc := 1113) dL_law_1113 o257 ?_
      refine l_sld (pc := 1114) hX dL_law_1114 o258.1 o258.2 ?_
      refine v_aload_nF (pc := 1115) dL_law_1115 0 rfl ?_
      refine v_iload_n (pc := 1116) dL_law_1116 3 rfl ?_
      refine v_iconst (pc := 1117) dL_law_1117 (by decide) ?_
      refine l_iadd (pc := 1118) dL_law_1118 o259 ?_
      refine l_sld (pc := 1119) hX dL_law_1119 o260.1 o260.2 ?_
      refine l_invL (pc := 1120) (mi' := mX12_arrives) (rest := [aL r262]) [aI (sx xs (i + 1)), aI (sx xs (i + 2)), aI (sx xs (i + 3))] dL_law_1120 at603 (by decide) rfl msX12_arrives mvX12_arrives lkL_152 rfl (Nat.le_of_ble_eq_true rfl) (fun hn => CL_mono (h (aaI hn 1 rfl) (aaI hn 2 rfl) (aaI hn 3 rfl)) (fun r264 m263 h => ?_))
      refine v_lcmpeq (pc := 1123) (tgt := 1300) dL_law_1123 dL_law_1124 (by decide) (fun c1 => ?_) (fun c1 => ?_)
      · have h := h.1 c1
        obtain ⟨o265, h⟩ := h
        refine l_iinc (pc := 1300) (al2 := [(3, aI (i + 6)), (0, aF b), (1, aR 0), (2, aR 603)]) dL_law_1300 3 rfl (by decide) o265 rfl ?_
        refine v_goto (pc := 1303) (tgt := 18) dL_law_1303 (by decide) ?_
        exact VG_sub (al' := [(0, aF b), (1, aR 0), (2, aR 603), (3, aI (i + 6))]) [1, 2, 3, 0] rfl h
      · have h := h.2 c1
        refine v_iconst (pc := 1127) dL_law_1127 (by decide) ?_
        exact l_retZ (pc := 1128) dL_law_1128 rfl (by decide) h
    · have h := h.2.2.2.2.2.2.2.2.2.2.2.2.2.2.2.2.2.2.2.2.2.2.2.2.2.2.2.2.2.2.2.2.2.1 c1
      refine v_tabIn (pc := 33) (tgt := 1129) dL_law_33 (by omega) (by omega) (by rw [c1] <;> rfl) (by decide) ?_
      refine v_aload_n (pc := 1129) dL_law_1129 1 rfl ?_
      refine v_aload_nF (pc := 1130) dL_law_1130 0 rfl ?_
      refine v_iload_n (pc := 1131) dL_law_1131 3 rfl ?_
      refine v_iconst (pc := 1132) dL_law_1132 (by decide) ?_
      obtain ⟨o266, h⟩ := h
      refine l_iadd (pc := 1133) dL_law_1133 o266 ?_
      obtain ⟨o267, h⟩ := h
      refine l_sld (pc := 1134) hX dL_law_1134 o267.1 o267.2 ?_
      refine l_invI (pc := 1135) (mi' := mX11_round) (rest := []) [aI (sx xs (i + 1))] dL_law_1135 at0 (by decide) rfl msX11_round mvX11_round lkL_153 rfl (Nat.le_of_ble_eq_true rfl) (fun hn => CI_mono (h (aaI hn 1 rfl)) (fun r269 m268 h => ?_))
      refine v_aload_n (pc := 1138) dL_law_1138 2 rfl ?_
      refine v_aload_nF (pc := 1139) dL_law_1139 0 rfl ?_
      refine v_iload_n (pc := 1140) dL_law_1140 3 rfl ?_
      refine v_iconst (pc := 1141) dL_law_1141 (by decide) ?_
      refine l_iadd (pc := 1142) dL_law_1142 o266 ?_
      refine l_sld (pc := 1143) hX dL_law_1143 o267.1 o267.2 ?_
      refine l_invI (pc := 1144) (mi' := mX12_round) (rest := [aI r269]) [aI (sx xs (i + 1))] dL_law_1144 at603 (by decide) rfl msX12_round mvX12_round lkL_156 rfl (Nat.le_of_ble_eq_true rfl) (fun hn => CI_mono (h (aaI hn 1 rfl)) (fun r271 m270 h => ?_))
      refine v_icmpeq (pc := 1147) (tgt := 1300) dL_law_1147 (by decide) (fun c1 => ?_) (fun c1 => ?_)
      · have h := h.1 c1
        obtain ⟨o272, h⟩ := h
        refine l_iinc (pc := 1300) (al2 := [(3, aI (i + 6)), (0, aF b), (1, aR 0), (2, aR 603)]) dL_law_1300 3 rfl (by decide) o272 rfl ?_
        refine v_goto (pc := 1303) (tgt := 18) dL_law_1303 (by decide) ?_
        exact VG_sub (al' := [(0, aF b), (1, aR 0), (2, aR 603), (3, aI (i + 6))]) [1, 2, 3, 0] rfl h
      · have h := h.2 c1
        refine v_iconst (pc := 1150) dL_law_1150 (by decide) ?_
        exact l_retZ (pc := 1151) dL_law_1151 rfl (by decide) h
    · have h := h.2.2.2.2.2.2.2.2.2.2.2.2.2.2.2.2.2.2.2.2.2.2.2.2.2.2.2.2.2.2.2.2.2.2.1 c1
      refine v_tabIn (pc := 33) (tgt := 1152) dL_law_33 (by omega) (by omega) (by rw [c1] <;> rfl) (by decide) ?_
      refine v_aload_n (pc := 1152) dL_law_1152 1 rfl ?_
      refine v_aload_nF (pc := 1153) dL_law_1153 0 rfl ?_
      refine v_iload_n (pc := 1154) dL_law_1154 3 rfl ?_
      refine v_iconst (pc := 1155) dL_law_1155 (by decide) ?_
      obtain ⟨o273, h⟩ := h
      refine l_iadd (pc := 1156) dL_law_1156 o273 ?_
      obtain ⟨o274, h⟩ := h
      refine l_sld (pc := 1157) hX dL_law_1157 o274.1 o274.2 ?_
      refine v_aload_nF (pc := 1158) dL_law_1158 0 rfl ?_
      refine v_iload_n (pc := 1159) dL_law_1159 3 rfl ?_
      refine v_iconst (pc := 1160) dL_law_1160 (by decide) ?_
      obtain ⟨o275, h⟩ := h
      refine l_iadd (pc := 1161) dL_law_1161 o275 ?_
      obtain ⟨o276, h⟩ := h
      refine l_sld (pc := 1162) hX dL_law_1162 o276.1 o276.2 ?_
      refine l_invI (pc := 1163) (mi' := mX11_centuries) (rest := []) [aI (sx xs (i + 1)), aI (sx xs (i + 2))] dL_law_1163 at0 (by decide) rfl msX11_centuries mvX11_centuries lkL_157 rfl (Nat.le_of_ble_eq_true rfl) (fun hn => CI_mono (h (aaI hn 1 rfl) (aaI hn 2 rfl)) (fun r278 m277 h => ?_))
      refine v_aload_n (pc := 1166) dL_law_1166 2 rfl ?_
      refine v_aload_nF (pc := 1167) dL_law_1167 0 rfl ?_
      refine v_iload_n (pc := 1168) dL_law_1168 3 rfl ?_
      refine v_iconst (pc := 1169) dL_law_1169 (by decide) ?_
      refine l_iadd (pc := 1170) dL_law_1170 o273 ?_
      refine l_sld (pc := 1171) hX dL_law_1171 o274.1 o274.2 ?_
      refine v_aload_nF (pc := 1172) dL_law_1172 0 rfl ?_
      refine v_iload_n (pc := 1173) dL_law_1173 3 rfl ?_
      refine v_iconst (pc := 1174) dL_law_1174 (by decide) ?_
      refine l_iadd (pc := 1175) dL_law_1175 o275 ?_
      refine l_sld (pc := 1176) hX dL_law_1176 o276.1 o276.2 ?_
      refine l_invI (pc := 1177) (mi' := mX12_centuries) (rest := [aI r278]) [aI (sx xs (i + 1)), aI (sx xs (i + 2))] dL_law_1177 at603 (by decide) rfl msX12_centuries mvX12_centuries lkL_160 rfl (Nat.le_of_ble_eq_true rfl) (fun hn => CI_mono (h (aaI hn 1 rfl) (aaI hn 2 rfl)) (fun r280 m279 h => ?_))
      refine v_icmpeq (pc := 1180) (tgt := 1300) dL_law_1180 (by decide) (fun c1 => ?_) (fun c1 => ?_)
      · have h := h.1 c1
        obtain ⟨o281, h⟩ := h
        refine l_iinc (pc := 1300) (al2 := [(3, aI (i + 6)), (0, aF b), (1, aR 0), (2, aR 603)]) dL_law_1300 3 rfl (by decide) o281 rfl ?_
        refine v_goto (pc := 1303) (tgt := 18) dL_law_1303 (by decide) ?_
        exact VG_sub (al' := [(0, aF b), (1, aR 0), (2, aR 603), (3, aI (i + 6))]) [1, 2, 3, 0] rfl h
      · have h := h.2 c1
        refine v_iconst (pc := 1183) dL_law_1183 (by decide) ?_
        exact l_retZ (pc := 1184) dL_law_1184 rfl (by decide) h
    · have h := h.2.2.2.2.2.2.2.2.2.2.2.2.2.2.2.2.2.2.2.2.2.2.2.2.2.2.2.2.2.2.2.2.2.2.2.1 c1
      refine v_tabIn (pc := 33) (tgt := 1185) dL_law_33 (by omega) (by omega) (by rw [c1] <;> rfl) (by decide) ?_
      refine v_aload_n (pc := 1185) dL_law_1185 1 rfl ?_
      refine v_aload_nF (pc := 1186) dL_law_1186 0 rfl ?_
      refine v_iload_n (pc := 1187) dL_law_1187 3 rfl ?_
      refine v_iconst (pc := 1188) dL_law_1188 (by decide) ?_
      obtain ⟨o282, h⟩ := h
      refine l_iadd (pc := 1189) dL_law_1189 o282 ?_
      obtain ⟨o283, h⟩ := h
      refine l_sld (pc := 1190) hX dL_law_1190 o283.1 o283.2 ?_
      refine v_aload_nF (pc := 1191) dL_law_1191 0 rfl ?_
      refine v_iload_n (pc := 1192) dL_law_1192 3 rfl ?_
      refine v_iconst (pc := 1193) dL_law_1193 (by decide) ?_
      obtain ⟨o284, h⟩ := h
      refine l_iadd (pc := 1194) dL_law_1194 o284 ?_
      obtain ⟨o285, h⟩ := h
      refine l_sld (pc := 1195) hX dL_law_1195 o285.1 o285.2 ?_
      refine l_invI (pc := 1196) (mi' := mX11_drawn) (rest := []) [aI (sx xs (i + 1)), aI (sx xs (i + 2))] dL_law_1196 at0 (by decide) rfl msX11_drawn mvX11_drawn lkL_161 rfl (Nat.le_of_ble_eq_true rfl) (fun hn => CI_mono (h (aaI hn 1 rfl) (aaI hn 2 rfl)) (fun r287 m286 h => ?_))
      refine v_aload_n (pc := 1199) dL_law_1199 2 rfl ?_
      refine v_aload_nF (pc := 1200) dL_law_1200 0 rfl ?_
      refine v_iload_n (pc := 1201) dL_law_1201 3 rfl ?_
      refine v_iconst (pc := 1202) dL_law_1202 (by decide) ?_
      refine l_iadd (pc := 1203) dL_law_1203 o282 ?_
      refine l_sld (pc := 1204) hX dL_law_1204 o283.1 o283.2 ?_
      refine v_aload_nF (pc := 1205) dL_law_1205 0 rfl ?_
      refine v_iload_n (pc := 1206) dL_law_1206 3 rfl ?_
      refine v_iconst (pc := 1207) dL_law_1207 (by decide) ?_
      refine l_iadd (pc := 1208) dL_law_1208 o284 ?_
      refine l_sld (pc := 1209) hX dL_law_1209 o285.1 o285.2 ?_
      refine l_invI (pc := 1210) (mi' := mX12_drawn) (rest := [aI r287]) [aI (sx xs (i + 1)), aI (sx xs (i + 2))] dL_law_1210 at603 (by decide) rfl msX12_drawn mvX12_drawn lkL_164 rfl (Nat.le_of_ble_eq_true rfl) (fun hn => CI_mono (h (aaI hn 1 rfl) (aaI hn 2 rfl)) (fun r289 m288 h => ?_))
      refine v_icmpeq (pc := 1213) (tgt := 1300) dL_law_1213 (by decide) (fun c1 => ?_) (fun c1 => ?_)
      · have h := h.1 c1
        obtain ⟨o290, h⟩ := h
        refine l_iinc (pc := 1300) (al2 := [(3, aI (i + 6)), (0, aF b), (1, aR 0), (2, aR 603)]) dL_law_1300 3 rfl (by decide) o290 rfl ?_
        refine v_goto (pc := 1303) (tgt := 18) dL_law_1303 (by decide) ?_
        exact VG_sub (al' := [(0, aF b), (1, aR 0), (2, aR 603), (3, aI (i + 6))]) [1, 2, 3, 0] rfl h
      · have h := h.2 c1
        refine v_iconst (pc := 1216) dL_law_1216 (by decide) ?_
        exact l_retZ (pc := 1217) dL_law_1217 rfl (by decide) h
    · have h := h.2.2.2.2.2.2.2.2.2.2.2.2.2.2.2.2.2.2.2.2.2.2.2.2.2.2.2.2.2.2.2.2.2.2.2.2.1 c1
      refine v_tabIn (pc := 33) (tgt := 1218) dL_law_33 (by omega) (by omega) (by rw [c1] <;> rfl) (by decide) ?_
      refine v_aload_n (pc := 1218) dL_law_1218 1 rfl ?_
      refine v_aload_nF (pc := 1219) dL_law_1219 0 rfl ?_
      refine v_iload_n (pc := 1220) dL_law_1220 3 rfl ?_
      refine v_iconst (pc := 1221) dL_law_1221 (by decide) ?_
      obtain ⟨o291, h⟩ := h
      refine l_iadd (pc := 1222) dL_law_1222 o291 ?_
      obtain ⟨o292, h⟩ := h
      refine l_sld (pc := 1223) hX dL_law_1223 o292.1 o292.2 ?_
      refine l_invI (pc := 1224) (mi' := mX11_image) (rest := []) [aI (sx xs (i + 1))] dL_law_1224 at0 (by decide) rfl msX11_image mvX11_image lkL_165 rfl (Nat.le_of_ble_eq_true rfl) (fun hn => CI_mono (h (aaI hn 1 rfl)) (fun r294 m293 h => ?_))
      refine v_aload_n (pc := 1227) dL_law_1227 2 rfl ?_
      refine v_aload_nF (pc := 1228) dL_law_1228 0 rfl ?_
      refine v_iload_n (pc := 1229) dL_law_1229 3 rfl ?_
      refine v_iconst (pc := 1230) dL_law_1230 (by decide) ?_
      refine l_iadd (pc := 1231) dL_law_1231 o291 ?_
      refine l_sld (pc := 1232) hX dL_law_1232 o292.1 o292.2 ?_
      refine l_invI (pc := 1233) (mi' := mX12_image) (rest := [aI r294]) [aI (sx xs (i + 1))] dL_law_1233 at603 (by decide) rfl msX12_image mvX12_image lkL_168 rfl (Nat.le_of_ble_eq_true rfl) (fun hn => CI_mono (h (aaI hn 1 rfl)) (fun r296 m295 h => ?_))
      refine v_icmpeq (pc := 1236) (tgt := 1300) dL_law_1236 (by decide) (fun c1 => ?_) (fun c1 => ?_)
      · have h := h.1 c1
        obtain ⟨o297, h⟩ := h
        refine l_iinc (pc := 1300) (al2 := [(3, aI (i + 6)), (0, aF b), (1, aR 0), (2, aR 603)]) dL_law_1300 3 rfl (by decide) o297 rfl ?_
        refine v_goto (pc := 1303) (tgt := 18) dL_law_1303 (by decide) ?_
        exact VG_sub (al' := [(0, aF b), (1, aR 0), (2, aR 603), (3, aI (i + 6))]) [1, 2, 3, 0] rfl h
      · have h := h.2 c1
        refine v_iconst (pc := 1239) dL_law_1239 (by decide) ?_
        exact l_retZ (pc := 1240) dL_law_1240 rfl (by decide) h
    · have h := h.2.2.2.2.2.2.2.2.2.2.2.2.2.2.2.2.2.2.2.2.2.2.2.2.2.2.2.2.2.2.2.2.2.2.2.2.2.1 c1
      refine v_tabIn (pc := 33) (tgt := 1241) dL_law_33 (by omega) (by omega) (by rw [c1] <;> rfl) (by decide) ?_
      refine v_aload_n (pc := 1241) dL_law_1241 1 rfl ?_
      refine v_aload_nF (pc := 1242) dL_law_1242 0 rfl ?_
      refine v_iload_n (pc := 1243) dL_law_1243 3 rfl ?_
      refine v_iconst (pc := 1244) dL_law_1244 (by decide) ?_
      obtain ⟨o298, h⟩ := h
      refine l_iadd (pc := 1245) dL_law_1245 o298 ?_
      obtain ⟨o299, h⟩ := h
      refine l_sld (pc := 1246) hX dL_law_1246 o299.1 o299.2 ?_
      refine l_invI (pc := 1247) (mi' := mX11_back) (rest := []) [aI (sx xs (i + 1))] dL_law_1247 at0 (by decide) rfl msX11_back mvX11_back lkL_169 rfl (Nat.le_of_ble_eq_true rfl) (fun hn => CI_mono (h (aaI hn 1 rfl)) (fun r301 m300 h => ?_))
      refine v_aload_n (pc := 1250) dL_law_1250 2 rfl ?_
      refine v_aload_nF (pc := 1251) dL_law_1251 0 rfl ?_
      refine v_iload_n (pc := 1252) dL_law_1252 3 rfl ?_
      refine v_iconst (pc := 1253) dL_law_1253 (by decide) ?_
      refine l_iadd (pc := 1254) dL_law_1254 o298 ?_
      refine l_sld (pc := 1255) hX dL_law_1255 o299.1 o299.2 ?_
      refine l_invI (pc := 1256) (mi' := mX12_back) (rest := [aI r301]) [aI (sx xs (i + 1))] dL_law_1256 at603 (by decide) rfl msX12_back mvX12_back lkL_172 rfl (Nat.le_of_ble_eq_true rfl) (fun hn => CI_mono (h (aaI hn 1 rfl)) (fun r303 m302 h => ?_))
      refine v_icmpeq (pc := 1259) (tgt := 1300) dL_law_1259 (by decide) (fun c1 => ?_) (fun c1 => ?_)
      · have h := h.1 c1
        obtain ⟨o304, h⟩ := h
        refine l_iinc (pc := 1300) (al2 := [(3, aI (i + 6)), (0, aF b), (1, aR 0), (2, aR 603)]) dL_law_1300 3 rfl (by decide) o304 rfl ?_
        refine v_goto (pc := 1303) (tgt := 18) dL_law_1303 (by decide) ?_
        exact VG_sub (al' := [(0, aF b), (1, aR 0), (2, aR 603), (3, aI (i + 6))]) [1, 2, 3, 0] rfl h
      · have h := h.2 c1
        refine v_iconst (pc := 1262) dL_law_1262 (by decide) ?_
        exact l_retZ (pc := 1263) dL_law_1263 rfl (by decide) h
    · have h := h.2.2.2.2.2.2.2.2.2.2.2.2.2.2.2.2.2.2.2.2.2.2.2.2.2.2.2.2.2.2.2.2.2.2.2.2.2.2.1 c1
      refine v_tabIn (pc := 33) (tgt := 1264) dL_law_33 (by omega) (by omega) (by rw [c1] <;> rfl) (by decide) ?_
      refine v_aload_n (pc := 1264) dL_law_1264 1 rfl ?_
      refine v_aload_nF (pc := 1265) dL_law_1265 0 rfl ?_
      refine v_iload_n (pc := 1266) dL_law_1266 3 rfl ?_
      refine v_iconst (pc := 1267) dL_law_1267 (by decide) ?_
      obtain ⟨o305, h⟩ := h
      refine l_iadd (pc := 1268) dL_law_1268 o305 ?_
      obtain ⟨o306, h⟩ := h
      refine l_sld (pc := 1269) hX dL_law_1269 o306.1 o306.2 ?_
      refine l_invI (pc := 1270) (mi' := mX11_count) (rest := []) [aI (sx xs (i + 1))] dL_law_1270 at0 (by decide) rfl msX11_count mvX11_count lkL_173 rfl (Nat.le_of_ble_eq_true rfl) (fun hn => CI_mono (h (aaI hn 1 rfl)) (fun r308 m307 h => ?_))
      refine v_aload_n (pc := 1273) dL_law_1273 2 rfl ?_
      refine v_aload_nF (pc := 1274) dL_law_1274 0 rfl ?_
      refine v_iload_n (pc := 1275) dL_law_1275 3 rfl ?_
      refine v_iconst (pc := 1276) dL_law_1276 (by decide) ?_
      refine l_iadd (pc := 1277) dL_law_1277 o305 ?_
      refine l_sld (pc := 1278) hX dL_law_1278 o306.1 o306.2 ?_
      refine l_invI (pc := 1279) (mi' := mX12_count) (rest := [aI r308]) [aI (sx xs (i + 1))] dL_law_1279 at603 (by decide) rfl msX12_count mvX12_count lkL_176 rfl (Nat.le_of_ble_eq_true rfl) (fun hn => CI_mono (h (aaI hn 1 rfl)) (fun r310 m309 h => ?_))
      refine v_icmpeq (pc := 1282) (tgt := 1300) dL_law_1282 (by decide) (fun c1 => ?_) (fun c1 => ?_)
      · have h := h.1 c1
        obtain ⟨o311, h⟩ := h
        refine l_iinc (pc := 1300) (al2 := [(3, aI (i + 6)), (0, aF b), (1, aR 0), (2, aR 603)]) dL_law_1300 3 rfl (by decide) o311 rfl ?_
        refine v_goto (pc := 1303) (tgt := 18) dL_law_1303 (by decide) ?_
        exact VG_sub (al' := [(0, aF b), (1, aR 0), (2, aR 603), (3, aI (i + 6))]) [1, 2, 3, 0] rfl h
      · have h := h.2 c1
        refine v_iconst (pc := 1285) dL_law_1285 (by decide) ?_
        exact l_retZ (pc := 1286) dL_law_1286 rfl (by decide) h
    · have h := h.2.2.2.2.2.2.2.2.2.2.2.2.2.2.2.2.2.2.2.2.2.2.2.2.2.2.2.2.2.2.2.2.2.2.2.2.2.2.2.1 c1
      refine v_tabIn (pc := 33) (tgt := 1287) dL_law_33 (by omega) (by omega) (by rw [c1] <;> rfl) (by decide) ?_
      refine v_aload_n (pc := 1287) dL_law_1287 1 rfl ?_
      refine l_invI (pc := 1288) (mi' := mX11_status) (rest := []) [] dL_law_1288 at0 (by decide) rfl msX11_status mvX11_status lkL_177 rfl (Nat.le_of_ble_eq_true rfl) (fun hn => CI_mono (h) (fun r313 m312 h => ?_))
      refine v_aload_n (pc := 1291) dL_law_1291 2 rfl ?_
      refine l_invI (pc := 1292) (mi' := mX12_status) (rest := [aI r313]) [] dL_law_1292 at603 (by decide) rfl msX12_status mvX12_status lkL_180 rfl (Nat.le_of_ble_eq_true rfl) (fun hn => CI_mono (h) (fun r315 m314 h => ?_))
      refine v_icmpeq (pc := 1295) (tgt := 1300) dL_law_1295 (by decide) (fun c1 => ?_) (fun c1 => ?_)
      · have h := h.1 c1
        obtain ⟨o316, h⟩ := h
        refine l_iinc (pc := 1300) (al2 := [(3, aI (i + 6)), (0, aF b), (1, aR 0), (2, aR 603)]) dL_law_1300 3 rfl (by decide) o316 rfl ?_
        refine v_goto (pc := 1303) (tgt := 18) dL_law_1303 (by decide) ?_
        exact VG_sub (al' := [(0, aF b), (1, aR 0), (2, aR 603), (3, aI (i + 6))]) [1, 2, 3, 0] rfl h
      · have h := h.2 c1
        refine v_iconst (pc := 1298) dL_law_1298 (by decide) ?_
        exact l_retZ (pc := 1299) dL_law_1299 rfl (by decide) h
    · have h := h.2.2.2.2.2.2.2.2.2.2.2.2.2.2.2.2.2.2.2.2.2.2.2.2.2.2.2.2.2.2.2.2.2.2.2.2.2.2.2.2 c1
      refine v_tabOut (pc := 33) (tgt := 1300) dL_law_33 c1 (by decide) ?_
      obtain ⟨o317, h⟩ := h
      refine l_iinc (pc := 1300) (al2 := [(3, aI (i + 6)), (0, aF b), (1, aR 0), (2, aR 603)]) dL_law_1300 3 rfl (by decide) o317 rfl ?_
      refine v_goto (pc := 1303) (tgt := 18) dL_law_1303 (by decide) ?_
      exact VG_sub (al' := [(0, aF b), (1, aR 0), (2, aR 603), (3, aI (i + 6))]) [1, 2, 3, 0] rfl h
