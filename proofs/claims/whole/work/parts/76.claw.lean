set_option maxRecDepth 100000 in
theorem qL_law_16 {N d : Nat} (hd : 5 ≤ d) {δ : mi_D} {Q : Int32 → mi_D → Prop} (F : mi_wI N d 210 18 [.ref 0, .ref 2, .ref 48, .int 0] [] δ Q) : mi_wI N d 210 16 [.ref 0, .ref 2, .ref 48, .null] [] δ Q := by
  unfold mi_wI
  refine ms_seq mB_210 mO_210 [(.iconst 0, 1), (.istore_n 3, 1)] (pc' := 18) (L' := [.ref 0, .ref 2, .ref 48, .int 0]) (st' := []) ⟨dL_law_16, dL_law_17, trivial⟩ rfl ?_
  exact F
set_option maxRecDepth 100000 in
theorem qL_law_18 {N d : Nat} (hd : 5 ≤ d) {l3 : Int32} {δ : mi_D} {Q : Int32 → mi_D → Prop} (F : ((((nI N) - 8) < l3 → Q 1 δ) ∧ (¬ ((nI N) - 8) < l3 → (mi_ix l3 N = true ∧ ((((δ.2.1 0 (Int32.toNatClampNeg l3)) &&& 31) = 0 → (mi_ix (l3 + 1) N = true ∧ (mi_ix (l3 + 2) N = true ∧ (mi_ix (l3 + 3) N = true ∧ (mi_ix (l3 + 4) N = true ∧ (((δ.2.1 0 (Int32.toNatClampNeg (l3 + 4))) = 0 → mi_wI N d 210 181 [.ref 0, .ref 2, .ref 48, .int l3] [.int 0, .int (δ.2.1 0 (Int32.toNatClampNeg (l3 + 3))), .int (δ.2.1 0 (Int32.toNatClampNeg (l3 + 2))), .int (δ.2.1 0 (Int32.toNatClampNeg (l3 + 1))), .ref 2] δ Q) ∧ (¬ (δ.2.1 0 (Int32.toNatClampNeg (l3 + 4))) = 0 → mi_wI N d 210 181 [.ref 0, .ref 2, .ref 48, .int l3] [.int 1, .int (δ.2.1 0 (Int32.toNatClampNeg (l3 + 3))), .int (δ.2.1 0 (Int32.toNatClampNeg (l3 + 2))), .int (δ.2.1 0 (Int32.toNatClampNeg (l3 + 1))), .ref 2] δ Q))))))) ∧ (((δ.2.1 0 (Int32.toNatClampNeg l3)) &&& 31) = 1 → (mi_ix (l3 + 1) N = true ∧ (mi_ix (l3 + 2) N = true ∧ (((δ.2.1 0 (Int32.toNatClampNeg (l3 + 2))) = 0 → mi_wI N d 210 240 [.ref 0, .ref 2, .ref 48, .int l3] [.int 0, .int (δ.2.1 0 (Int32.toNatClampNeg (l3 + 1))), .ref 2] δ Q) ∧ (¬ (δ.2.1 0 (Int32.toNatClampNeg (l3 + 2))) = 0 → mi_wI N d 210 240 [.ref 0, .ref 2, .ref 48, .int l3] [.int 1, .int (δ.2.1 0 (Int32.toNatClampNeg (l3 + 1))), .ref 2] δ Q))))) ∧ (((δ.2.1 0 (Int32.toNatClampNeg l3)) &&& 31) = 2 → (mi_ix (l3 + 1) N = true ∧ (mi_wI N (d - 1) 115 0 [.ref 2, .int (δ.2.1 0 (Int32.toNatClampNeg (l3 + 1))), .null] [] δ (fun r2 δ1 => (mi_ix (l3 + 1) N = true ∧ (mi_wI N (d - 1) 160 0 [.ref 48, .int (δ1.2.1 0 (Int32.toNatClampNeg (l3 + 1)))] [] δ1 (fun r4 δ3 => ((r2 = r4 → mi_wI N d 210 18 [.ref 0, .ref 2, .ref 48, .int (l3 + 8)] [] δ3 Q) ∧ (¬ r2 = r4 → Q 0 δ3))))))))) ∧ (((δ.2.1 0 (Int32.toNatClampNeg l3)) &&& 31) = 3 → (mi_ix (l3 + 1) N = true ∧ (mi_wI N (d - 1) 116 0 [.ref 2, .int (δ.2.1 0 (Int32.toNatClampNeg (l3 + 1))), .null] [] δ (fun r6 δ5 => (mi_ix (l3 + 1) N = true ∧ (mi_wI N (d - 1) 161 0 [.ref 48, .int (δ5.2.1 0 (Int32.toNatClampNeg (l3 + 1))), .null] [] δ5 (fun r8 δ7 => ((r6 = r8 → mi_wI N d 210 18 [.ref 0, .ref 2, .ref 48, .int (l3 + 8)] [] δ7 Q) ∧ (¬ r6 = r8 → Q 0 δ7))))))))) ∧ (((δ.2.1 0 (Int32.toNatClampNeg l3)) &&& 31) = 4 → (mi_ix (l3 + 1) N = true ∧ (mi_ix (l3 + 2) N = true ∧ (mi_ix (l3 + 3) N = true ∧ (mi_wI N (d - 1) 117 0 [.ref 2, .int (δ.2.1 0 (Int32.toNatClampNeg (l3 + 1))), .long (((Int32.toInt64 (δ.2.1 0 (Int32.toNatClampNeg (l3 + 2)))) <<< (Int32.toInt64 32 &&& 63)) ||| ((Int32.toInt64 (δ.2.1 0 (Int32.toNatClampNeg (l3 + 3)))) &&& 4294967295)), .null, .null] [] δ (fun r10 δ9 => (mi_ix (l3 + 1) N = true ∧ (mi_ix (l3 + 2) N = true ∧ (mi_ix (l3 + 3) N = true ∧ (mi_wI N (d - 1) 162 0 [.ref 48, .int (δ9.2.1 0 (Int32.toNatClampNeg (l3 + 1))), .long (((Int32.toInt64 (δ9.2.1 0 (Int32.toNatClampNeg (l3 + 2)))) <<< (Int32.toInt64 32 &&& 63)) ||| ((Int32.toInt64 (δ9.2.1 0 (Int32.toNatClampNeg (l3 + 3)))) &&& 4294967295)), .null] [] δ9 (fun r12 δ11 => ((r10 = r12 → mi_wI N d 210 18 [.ref 0, .ref 2, .ref 48, .int (l3 + 8)] [] δ11 Q) ∧ (¬ r10 = r12 → Q 0 δ11))))))))))))) ∧ (((δ.2.1 0 (Int32.toNatClampNeg l3)) &&& 31) = 5 → (mi_wI N (d - 1) 118 0 [.ref 2, .null] [] δ (fun r14 δ13 => (mi_wI N (d - 1) 163 0 [.ref 48, .null] [] δ13 (fun r16 δ15 => ((r14 = r16 → mi_wI N d 210 18 [.ref 0, .ref 2, .ref 48, .int (l3 + 8)] [] δ15 Q) ∧ (¬ r14 = r16 → Q 0 δ15))))))) ∧ (((δ.2.1 0 (Int32.toNatClampNeg l3)) &&& 31) = 6 → (mi_ix (l3 + 1) N = true ∧ (mi_ix (l3 + 2) N = true ∧ (mi_wI N (d - 1) 119 0 [.ref 2, .int (δ.2.1 0 (Int32.toNatClampNeg (l3 + 1))), .int (δ.2.1 0 (Int32.toNatClampNeg (l3 + 2)))] [] δ (fun r18 δ17 => (mi_ix (l3 + 1) N = true ∧ (mi_ix (l3 + 2) N = true ∧ (mi_wI N (d - 1) 171 0 [.ref 48, .int (δ17.2.1 0 (Int32.toNatClampNeg (l3 + 1))), .int (δ17.2.1 0 (Int32.toNatClampNeg (l3 + 2))), .null] [] δ17 (fun r20 δ19 => ((r18 = r20 → mi_wI N d 210 18 [.ref 0, .ref 2, .ref 48, .int (l3 + 8)] [] δ19 Q) ∧ (¬ r18 = r20 → Q 0 δ19))))))))))) ∧ (((δ.2.1 0 (Int32.toNatClampNeg l3)) &&& 31) = 7 → (mi_ix (l3 + 1) N = true ∧ (mi_ix (l3 + 2) N = true ∧ (mi_wI N (d - 1) 120 0 [.ref 2, .int (δ.2.1 0 (Int32.toNatClampNeg (l3 + 1))), .int (δ.2.1 0 (Int32.toNatClampNeg (l3 + 2))), .null] [] δ (fun r22 δ21 => (mi_ix (l3 + 1) N = true ∧ (mi_ix (l3 + 2) N = true ∧ (mi_wI N (d - 1) 172 0 [.ref 48, .int (δ21.2.1 0 (Int32.toNatClampNeg (l3 + 1))), .int (δ21.2.1 0 (Int32.toNatClampNeg (l3 + 2))), .null, .null] [] δ21 (fun r24 δ23 => ((r22 = r24 → mi_wI N d 210 18 [.ref 0, .ref 2, .ref 48, .int (l3 + 8)] [] δ23 Q) ∧ (¬ r22 = r24 → Q 0 δ23))))))))))) ∧ (((δ.2.1 0 (Int32.toNatClampNeg l3)) &&& 31) = 8 → (mi_wI N (d - 1) 121 0 [.ref 2, .null] [] δ (fun r26 δ25 => (mi_wI N (d - 1) 176 0 [.ref 48, .null, .null, .null, .null, .null, .null] [] δ25 (fun r28 δ27 => ((r26 = r28 → mi_wI N d 210 18 [.ref 0, .ref 2, .ref 48, .int (l3 + 8)] [] δ27 Q) ∧ (¬ r26 = r28 → Q 0 δ27))))))) ∧ (((δ.2.1 0 (Int32.toNatClampNeg l3)) &&& 31) = 9 → (mi_wI N (d - 1) 122 0 [.ref 2, .null] [] δ (fun r30 δ29 => (mi_wI N (d - 1) 177 0 [.ref 48, .null, .null] [] δ29 (fun r32 δ31 => ((r30 = r32 → mi_wI N d 210 18 [.ref 0, .ref 2, .ref 48, .int (l3 + 8)] [] δ31 Q) ∧ (¬ r30 = r32 → Q 0 δ31))))))) ∧ (((δ.2.1 0 (Int32.toNatClampNeg l3)) &&& 31) = 10 → (mi_ix (l3 + 1) N = true ∧ (mi_ix (l3 + 2) N = true ∧ (mi_ix (l3 + 3) N = true ∧ (mi_ix (l3 + 4) N = true ∧ (mi_ix (l3 + 5) N = true ∧ (mi_wI N (d - 1) 123 0 [.ref 2, .int (δ.2.1 0 (Int32.toNatClampNeg (l3 + 1))), .long (((Int32.toInt64 (δ.2.1 0 (Int32.toNatClampNeg (l3 + 2)))) <<< (Int32.toInt64 32 &&& 63)) ||| ((Int32.toInt64 (δ.2.1 0 (Int32.toNatClampNeg (l3 + 3)))) &&& 4294967295)), .null, .int (δ.2.1 0 (Int32.toNatClampNeg (l3 + 4))), .int (δ.2.1 0 (Int32.toNatClampNeg (l3 + 5))), .null] [] δ (fun r34 δ33 => (mi_ix (l3 + 1) N = true ∧ (mi_ix (l3 + 2) N = true ∧ (mi_ix (l3 + 3) N = true ∧ (mi_ix (l3 + 4) N = true ∧ (mi_ix (l3 + 5) N = true ∧ (mi_wI N (d - 1) 179 0 [.ref 48, .int (δ33.2.1 0 (Int32.toNatClampNeg (l3 + 1))), .long (((Int32.toInt64 (δ33.2.1 0 (Int32.toNatClampNeg (l3 + 2)))) <<< (Int32.toInt64 32 &&& 63)) ||| ((Int32.toInt64 (δ33.2.1 0 (Int32.toNatClampNeg (l3 + 3)))) &&& 4294967295)), .null, .int (δ33.2.1 0 (Int32.toNatClampNeg (l3 + 4))), .int (δ33.2.1 0 (Int32.toNatClampNeg (l3 + 5))), .null, .null] [] δ33 (fun r36 δ35 => ((r34 = r36 → mi_wI N d 210 18 [.ref 0, .ref 2, .ref 48, .int (l3 + 8)] [] δ35 Q) ∧ (¬ r34 = r36 → Q 0 δ35))))))))))))))))) ∧ (((δ.2.1 0 (Int32.toNatClampNeg l3)) &&& 31) = 11 → (mi_wI N (d - 1) 124 0 [.ref 2] [] δ (fun r38 δ37 => (mi_wI N (d - 1) 181 0 [.ref 48, .null] [] δ37 (fun r40 δ39 => ((r38 = r40 → mi_wI N d 210 18 [.ref 0, .ref 2, .ref 48, .int (l3 + 8)] [] δ39 Q) ∧ (¬ r38 = r40 → Q 0 δ39))))))) ∧ (((δ.2.1 0 (Int32.toNatClampNeg l3)) &&& 31) = 12 → (mi_ix (l3 + 1) N = true ∧ (mi_ix (l3 + 2) N = true ∧ (mi_wI N (d - 1) 125 0 [.ref 2, .int (δ.2.1 0 (Int32.toNatClampNeg (l3 + 1))), .int (δ.2.1 0 (Int32.toNatClampNeg (l3 + 2)))] [] δ (fun r42 δ41 => (mi_ix (l3 + 1) N = true ∧ (mi_ix (l3 + 2) N = true ∧ (mi_wI N (d - 1) 182 0 [.ref 48, .int (δ41.2.1 0 (Int32.toNatClampNeg (l3 + 1))), .int (δ41.2.1 0 (Int32.toNatClampNeg (l3 + 2))), .null] [] δ41 (fun r44 δ43 => ((r42 = r44 → mi_wI N d 210 18 [.ref 0, .ref 2, .ref 48, .int (l3 + 8)] [] δ43 Q) ∧ (¬ r42 = r44 → Q 0 δ43))))))))))) ∧ (((δ.2.1 0 (Int32.toNatClampNeg l3)) &&& 31) = 13 → (mi_wI N (d - 1) 126 0 [.ref 2, .null, .null, .null] [] δ (fun r46 δ45 => (mi_wI N (d - 1) 190 0 [.ref 48, .null] [] δ45 (fun r48 δ47 => ((r46 = r48 → mi_wI N d 210 18 [.ref 0, .ref 2, .ref 48, .int (l3 + 8)] [] δ47 Q) ∧ (¬ r46 = r48 → Q 0 δ47))))))) ∧ (((δ.2.1 0 (Int32.toNatClampNeg l3)) &&& 31) = 14 → (mi_ix (l3 + 1) N = true ∧ (mi_wI N (d - 1) 127 0 [.ref 2, .int (δ.2.1 0 (Int32.toNatClampNeg (l3 + 1)))] [] δ (fun r50 δ49 => (mi_ix (l3 + 1) N = true ∧ (mi_wI N (d - 1) 191 0 [.ref 48, .int (δ49.2.1 0 (Int32.toNatClampNeg (l3 + 1)))] [] δ49 (fun r52 δ51 => ((r50 = r52 → mi_wI N d 210 18 [.ref 0, .ref 2, .ref 48, .int (l3 + 8)] [] δ51 Q) ∧ (¬ r50 = r52 → Q 0 δ51))))))))) ∧ (((δ.2.1 0 (Int32.toNatClampNeg l3)) &&& 31) = 15 → (mi_ix (l3 + 1) N = true ∧ (mi_ix (l3 + 2) N = true ∧ (mi_wI N (d - 1) 128 0 [.ref 2, .int (δ.2.1 0 (Int32.toNatClampNeg (l3 + 1))), .int (δ.2.1 0 (Int32.toNatClampNeg (l3 + 2)))] [] δ (fun r54 δ53 => (mi_ix (l3 + 1) N = true ∧ (mi_ix (l3 + 2) N = true ∧ (mi_wI N (d - 1) 192 0 [.ref 48, .int (δ53.2.1 0 (Int32.toNatClampNeg (l3 + 1))), .int (δ53.2.1 0 (Int32.toNatClampNeg (l3 + 2))), .null, .null] [] δ53 (fun r56 δ55 => ((r54 = r56 → mi_wI N d 210 18 [.ref 0, .ref 2, .ref 48, .int (l3 + 8)] [] δ55 Q) ∧ (¬ r54 = r56 → Q 0 δ55))))))))))) ∧ (((δ.2.1 0 (Int32.toNatClampNeg l3)) &&& 31) = 16 → (mi_ix (l3 + 1) N = true ∧ (mi_wL N (d - 1) 129 0 [.ref 2, .int (δ.2.1 0 (Int32.toNatClampNeg (l3 + 1)))] [] δ (fun r58 δ57 => (mi_ix (l3 + 1) N = true ∧ (mi_wL N (d - 1) 195 0 [.ref 48, .int (δ57.2.1 0 (Int32.toNatClampNeg (l3 + 1)))] [] δ57 (fun r60 δ59 => (((lg_cmp r58 r60) = 0 → mi_wI N d 210 18 [.ref 0, .ref 2, .ref 48, .int (l3 + 8)] [] δ59 Q) ∧ (¬ (lg_cmp r58 r60) = 0 → Q 0 δ59))))))))) ∧ (((δ.2.1 0 (Int32.toNatClampNeg l3)) &&& 31) = 17 → (mi_ix (l3 + 1) N = true ∧ (mi_ix (l3 + 2) N = true ∧ (mi_ix (l3 + 3) N = true ∧ (mi_wL N (d - 1) 130 0 [.ref 2, .int (δ.2.1 0 (Int32.toNatClampNeg (l3 + 1))), .int (δ.2.1 0 (Int32.toNatClampNeg (l3 + 2))), .int (δ.2.1 0 (Int32.toNatClampNeg (l3 + 3)))] [] δ (fun r62 δ61 => (mi_ix (l3 + 1) N = true ∧ (mi_ix (l3 + 2) N = true ∧ (mi_ix (l3 + 3) N = true ∧ (mi_wL N (d - 1) 196 0 [.ref 48, .int (δ61.2.1 0 (Int32.toNatClampNeg (l3 + 1))), .int (δ61.2.1 0 (Int32.toNatClampNeg (l3 + 2))), .int (δ61.2.1 0 (Int32.toNatClampNeg (l3 + 3))), .null, .null, .null] [] δ61 (fun r64 δ63 => (((lg_cmp r62 r64) = 0 → mi_wI N d 210 18 [.ref 0, .ref 2, .ref 48, .int (l3 + 8)] [] δ63 Q) ∧ (¬ (lg_cmp r62 r64) = 0 → Q 0 δ63))))))))))))) ∧ (((δ.2.1 0 (Int32.toNatClampNeg l3)) &&& 31) = 18 → (mi_ix (l3 + 1) N = true ∧ (mi_ix (l3 + 2) N = true ∧ (mi_wI N (d - 1) 131 0 [.ref 2, .int (δ.2.1 0 (Int32.toNatClampNeg (l3 + 1))), .int (δ.2.1 0 (Int32.toNatClampNeg (l3 + 2)))] [] δ (fun r66 δ65 => (mi_ix (l3 + 1) N = true ∧ (mi_ix (l3 + 2) N = true ∧ (mi_wI N (d - 1) 197 0 [.ref 48, .int (δ65.2.1 0 (Int32.toNatClampNeg (l3 + 1))), .int (δ65.2.1 0 (Int32.toNatClampNeg (l3 + 2)))] [] δ65 (fun r68 δ67 => ((r66 = r68 → mi_wI N d 210 18 [.ref 0, .ref 2, .ref 48, .int (l3 + 8)] [] δ67 Q) ∧ (¬ r66 = r68 → Q 0 δ67))))))))))) ∧ (((δ.2.1 0 (Int32.toNatClampNeg l3)) &&& 31) = 19 → (mi_ix (l3 + 1) N = true ∧ (mi_ix (l3 + 2) N = true ∧ (mi_ix (l3 + 3) N = true ∧ (mi_wL N (d - 1) 132 0 [.ref 2, .int (δ.2.1 0 (Int32.toNatClampNeg (l3 + 1))), .int (δ.2.1 0 (Int32.toNatClampNeg (l3 + 2))), .int (δ.2.1 0 (Int32.toNatClampNeg (l3 + 3)))] [] δ (fun r70 δ69 => (mi_ix (l3 + 1) N = true ∧ (mi_ix (l3 + 2) N = true ∧ (mi_ix (l3 + 3) N = true ∧ (mi_wL N (d - 1) 198 0 [.ref 48, .int (δ69.2.1 0 (Int32.toNatClampNeg (l3 + 1))), .int (δ69.2.1 0 (Int32.toNatClampNeg (l3 + 2))), .int (δ69.2.1 0 (Int32.toNatClampNeg (l3 + 3)))] [] δ69 (fun r72 δ71 => (((lg_cmp r70 r72) = 0 → mi_wI N d 210 18 [.ref 0, .ref 2, .ref 48, .int (l3 + 8)] [] δ71 Q) ∧ (¬ (lg_cmp r70 r72) = 0 → Q 0 δ71))))))))))))) ∧ (((δ.2.1 0 (Int32.toNatClampNeg l3)) &&& 31) = 20 → (mi_ix (l3 + 1) N = true ∧ (mi_ix (l3 + 2) N = true ∧ (mi_ix (l3 + 3) N = true ∧ (mi_wL N (d - 1) 133 0 [.ref 2, .int (δ.2.1 0 (Int32.toNatClampNeg (l3 + 1))), .int (δ.2.1 0 (Int32.toNatClampNeg (l3 + 2))), .int (δ.2.1 0 (Int32.toNatClampNeg (l3 + 3)))] [] δ (fun r74 δ73 => (mi_ix (l3 + 1) N = true ∧ (mi_ix (l3 + 2) N = true ∧ (mi_ix (l3 + 3) N = true ∧ (mi_wL N (d - 1) 199 0 [.ref 48, .int (δ73.2.1 0 (Int32.toNatClampNeg (l3 + 1))), .int (δ73.2.1 0 (Int32.toNatClampNeg (l3 + 2))), .int (δ73.2.1 0 (Int32.toNatClampNeg (l3 + 3))), .null, .null, .null, .null, .null] [] δ73 (fun r76 δ75 => (((lg_cmp r74 r76) = 0 → mi_wI N d 210 18 [.ref 0, .ref 2, .ref 48, .int (l3 + 8)] [] δ75 Q) ∧ (¬ (lg_cmp r74 r76) = 0 → Q 0 δ75))))))))))))) ∧ (((δ.2.1 0 (Int32.toNatClampNeg l3)) &&& 31) = 21 → (mi_ix (l3 + 1) N = true ∧ (mi_ix (l3 + 2) N = true ∧ (mi_wI N (d - 1) 134 0 [.ref 2, .int (δ.2.1 0 (Int32.toNatClampNeg (l3 + 1))), .int (δ.2.1 0 (Int32.toNatClampNeg (l3 + 2)))] [] δ (fun r78 δ77 => (mi_ix (l3 + 1) N = true ∧ (mi_ix (l3 + 2) N = true ∧ (mi_wI N (d - 1) 200 0 [.ref 48, .int (δ77.2.1 0 (Int32.toNatClampNeg (l3 + 1))), .int (δ77.2.1 0 (Int32.toNatClampNeg (l3 + 2)))] [] δ77 (fun r80 δ79 => ((r78 = r80 → mi_wI N d 210 18 [.ref 0, .ref 2, .ref 48, .int (l3 + 8)] [] δ79 Q) ∧ (¬ r78 = r80 → Q 0 δ79))))))))))) ∧ (((δ.2.1 0 (Int32.toNatClampNeg l3)) &&& 31) = 22 → (mi_ix (l3 + 1) N = true ∧ (mi_wI N (d - 1) 135 0 [.ref 2, .int (δ.2.1 0 (Int32.toNatClampNeg (l3 + 1)))] [] δ (fun r82 δ81 => (mi_ix (l3 + 1) N = true ∧ (mi_wI N (d - 1) 207 0 [.ref 48, .int (δ81.2.1 0 (Int32.toNatClampNeg (l3 + 1))), .null] [] δ81 (fun r84 δ83 => ((r82 = r84 → mi_wI N d 210 18 [.ref 0, .ref 2, .ref 48, .int (l3 + 8)] [] δ83 Q) ∧ (¬ r82 = r84 → Q 0 δ83))))))))) ∧ (((δ.2.1 0 (Int32.toNatClampNeg l3)) &&& 31) = 23 → (mi_ix (l3 + 1) N = true ∧ (mi_wI N (d - 1) 136 0 [.ref 2, .int (δ.2.1 0 (Int32.toNatClampNeg (l3 + 1)))] [] δ (fun r86 δ85 => (mi_ix (l3 + 1) N = true ∧ (mi_wI N (d - 1) 208 0 [.ref 48, .int (δ85.2.1 0 (Int32.toNatClampNeg (l3 + 1)))] [] δ85 (fun r88 δ87 => ((r86 = r88 → mi_wI N d 210 18 [.ref 0, .ref 2, .ref 48, .int (l3 + 8)] [] δ87 Q) ∧ (¬ r86 = r88 → Q 0 δ87))))))))) ∧ (((δ.2.1 0 (Int32.toNatClampNeg l3)) &&& 31) = 24 → (mi_ix (l3 + 1) N = true ∧ (mi_ix (l3 + 2) N = true ∧ (mi_ix (l3 + 3) N = true ∧ (mi_ix (l3 + 4) N = true ∧ (mi_ix (l3 + 5) N = true ∧ (mi_ix (l3 + 6) N = true ∧ (mi_ix (l3 + 7) N = true ∧ (mi_wL N (d - 1) 137 0 [.ref 2, .long (((Int32.toInt64 (δ.2.1 0 (Int32.toNatClampNeg (l3 + 1)))) <<< (Int32.toInt64 32 &&& 63)) ||| ((Int32.toInt64 (δ.2.1 0 (Int32.toNatClampNeg (l3 + 2)))) &&& 4294967295)), .null, .int (δ.2.1 0 (Int32.toNatClampNeg (l3 + 3))), .int (δ.2.1 0 (Int32.toNatClampNeg (l3 + 4))), .int (δ.2.1 0 (Int32.toNatClampNeg (l3 + 5))), .int (δ.2.1 0 (Int32.toNatClampNeg (l3 + 6))), .int (δ.2.1 0 (Int32.toNatClampNeg (l3 + 7)))] [] δ (fun r90 δ89 => (mi_ix (l3 + 1) N = true ∧ (mi_ix (l3 + 2) N = true ∧ (mi_ix (l3 + 3) N = true ∧ (mi_ix (l3 + 4) N = true ∧ (mi_ix (l3 + 5) N = true ∧ (mi_ix (l3 + 6) N = true ∧ (mi_ix (l3 + 7) N = true ∧ (mi_wL N (d - 1) 180 0 [.ref 48, .long (((Int32.toInt64 (δ89.2.1 0 (Int32.toNatClampNeg (l3 + 1)))) <<< (Int32.toInt64 32 &&& 63)) ||| ((Int32.toInt64 (δ89.2.1 0 (Int32.toNatClampNeg (l3 + 2)))) &&& 4294967295)), .null, .int (δ89.2.1 0 (Int32.toNatClampNeg (l3 + 3))), .int (δ89.2.1 0 (Int32.toNatClampNeg (l3 + 4))), .int (δ89.2.1 0 (Int32.toNatClampNeg (l3 + 5))), .int (δ89.2.1 0 (Int32.toNatClampNeg (l3 + 6))), .int (δ89.2.1 0 (Int32.toNatClampNeg (l3 + 7)))] [] δ89 (fun r92 δ91 => (((lg_cmp r90 r92) = 0 → mi_wI N d 210 18 [.ref 0, .ref 2, .ref 48, .int (l3 + 8)] [] δ91 Q) ∧ (¬ (lg_cmp r90 r92) = 0 → Q 0 δ91))))))))))))))))))))) ∧ (((δ.2.1 0 (Int32.toNatClampNeg l3)) &&& 31) = 25 → (mi_ix (l3 + 1) N = true ∧ (mi_wI N (d - 1) 138 0 [.ref 2, .int (δ.2.1 0 (Int32.toNatClampNeg (l3 + 1)))] [] δ (fun r94 δ93 => (mi_ix (l3 + 1) N = true ∧ (mi_wI N (d - 1) 209 0 [.ref 48, .int (δ93.2.1 0 (Int32.toNatClampNeg (l3 + 1))), .null] [] δ93 (fun r96 δ95 => ((r94 = r96 → mi_wI N d 210 18 [.ref 0, .ref 2, .ref 48, .int (l3 + 8)] [] δ95 Q) ∧ (¬ r94 = r96 → Q 0 δ95))))))))) ∧ (¬ ((δ.2.1 0 (Int32.toNatClampNeg l3)) &&& 31) = 0 → ¬ ((δ.2.1 0 (Int32.toNatClampNeg l3)) &&& 31) = 1 → ¬ ((δ.2.1 0 (Int32.toNatClampNeg l3)) &&& 31) = 2 → ¬ ((δ.2.1 0 (Int32.toNatClampNeg l3)) &&& 31) = 3 → ¬ ((δ.2.1 0 (Int32.toNatClampNeg l3)) &&& 31) = 4 → ¬ ((δ.2.1 0 (Int32.toNatClampNeg l3)) &&& 31) = 5 → ¬ ((δ.2.1 0 (Int32.toNatClampNeg l3)) &&& 31) = 6 → ¬ ((δ.2.1 0 (Int32.toNatClampNeg l3)) &&& 31) = 7 → ¬ ((δ.2.1 0 (Int32.toNatClampNeg l3)) &&& 31) = 8 → ¬ ((δ.2.1 0 (Int32.toNatClampNeg l3)) &&& 31) = 9 → ¬ ((δ.2.1 0 (Int32.toNatClampNeg l3)) &&& 31) = 10 → ¬ ((δ.2.1 0 (Int32.toNatClampNeg l3)) &&& 31) = 11 → ¬ ((δ.2.1 0 (Int32.toNatClampNeg l3)) &&& 31) = 12 → ¬ ((δ.2.1 0 (Int32.toNatClampNeg l3)) &&& 31) = 13 → ¬ ((δ.2.1 0 (Int32.toNatClampNeg l3)) &&& 31) = 14 → ¬ ((δ.2.1 0 (Int32.toNatClampNeg l3)) &&& 31) = 15 → ¬ ((δ.2.1 0 (Int32.toNatClampNeg l3)) &&& 31) = 16 → ¬ ((δ.2.1 0 (Int32.toNatClampNeg l3)) &&& 31) = 17 → ¬ ((δ.2.1 0 (Int32.toNatClampNeg l3)) &&& 31) = 18 → ¬ ((δ.2.1 0 (Int32.toNatClampNeg l3)) &&& 31) = 19 → ¬ ((δ.2.1 0 (Int32.toNatClampNeg l3)) &&& 31) = 20 → ¬ ((δ.2.1 0 (Int32.toNatClampNeg l3)) &&& 31) = 21 → ¬ ((δ.2.1 0 (Int32.toNatClampNeg l3)) &&& 31) = 22 → ¬ ((δ.2.1 0 (Int32.toNatClampNeg l3)) &&& 31) = 23 → ¬ ((δ.2.1 0 (Int32.toNatClampNeg l3)) &&& 31) = 24 → ¬ ((δ.2.1 0 (Int32.toNatClampNeg l3)) &&& 31) = 25 → mi_wI N d 210 18 [.ref 0, .ref 2, .ref 48, .int (l3 + 8)] [] δ Q)))))) : mi_wI N d 210 18 [.ref 0, .ref 2, .ref 48, .int l3] [] δ Q := by
  unfold mi_wI
  refine ms_seq mB_210 mO_210 [(.iload_n 3, 1), (.aload_n 0, 1)] (pc' := 20) (L' := [.ref 0, .ref 2, .ref 48, .int l3]) (st' := [.ref 0, .int l3]) ⟨dL_law_18, dL_law_19, trivial⟩ rfl ?_
  refine ms_alen mB_210 dL_law_20 (by rw [gk_0 N]; decide) ?_
  rw [gl_0 N]
  refine ms_seq mB_210 mO_210 [(.bipush 8, 2), (.isub, 1)] (pc' := 24) (L' := [.ref 0, .ref 2, .ref 48, .int l3]) (st' := [.int ((nI N) - 8), .int l3]) ⟨dL_law_21, dL_law_23, trivial⟩ rfl ?_
  refine ms_icmp_gt mB_210 dL_law_24 (t := 1087) rfl (fun c => ?_) (fun c => ?_)
  · have F := F.1 c
    refine ms_seq mB_210 mO_210 [(.iconst 1, 1)] (pc' := 1088) (L' := [.ref 0, .ref 2, .ref 48, .int l3]) (st' := [.int 1]) ⟨dL_law_1087, trivial⟩ rfl ?_
    exact ms_zret mB_210 dL_law_1088 mR_210 (by decide) ⟨_, rfl, rfl, F⟩
  · have F := F.2 c
    refine ms_seq mB_210 mO_210 [(.aload_n 0, 1), (.iload_n 3, 1)] (pc' := 29) (L' := [.ref 0, .ref 2, .ref 48, .int l3]) (st' := [.int l3, .ref 0]) ⟨dL_law_27, dL_law_28, trivial⟩ rfl ?_
    have G := F.1
    have F := F.2
    refine ms_iald mB_210 dL_law_29 (Or.inr (gk_0 N)) (by rw [gl_0 N]; exact G) ?_
    refine ms_seq mB_210 mO_210 [(.bipush 31, 2), (.iand, 1)] (pc' := 33) (L' := [.ref 0, .ref 2, .ref 48, .int l3]) (st' := [.int ((δ.2.1 0 (Int32.toNatClampNeg l3)) &&& 31)]) ⟨dL_law_30, dL_law_32, trivial⟩ rfl ?_
    by_cases n0 : ((δ.2.1 0 (Int32.toNatClampNeg l3)) &&& 31) = 0
    · refine ms_pure mB_210 mO_210 (pc' := 152) (L' := [.ref 0, .ref 2, .ref 48, .int l3]) (st' := []) dL_law_33 (by rw [n0]; rfl) ?_
      have F := F.1 n0
      refine ms_seq mB_210 mO_210 [(.aload_n 1, 1), (.aload_n 0, 1), (.iload_n 3, 1), (.iconst 1, 1), (.iadd, 1)] (pc' := 157) (L' := [.ref 0, .ref 2, .ref 48, .int l3]) (st' := [.int (l3 + 1), .ref 0, .ref 2]) ⟨dL_law_152, dL_law_153, dL_law_154, dL_law_155, dL_law_156, trivial⟩ rfl ?_
      have G := F.1
      have F := F.2
      refine ms_iald mB_210 dL_law_157 (Or.inr (gk_0 N)) (by rw [gl_0 N]; exact G) ?_
      refine ms_seq mB_210 mO_210 [(.aload_n 0, 1), (.iload_n 3, 1), (.iconst 2, 1), (.iadd, 1)] (pc' := 162) (L' := [.ref 0, .ref 2, .ref 48, .int l3]) (st' := [.int (l3 + 2), .ref 0, .int (δ.2.1 0 (Int32.toNatClampNeg (l3 + 1))), .ref 2]) ⟨dL_law_158, dL_law_159, dL_law_160, dL_law_161, trivial⟩ rfl ?_
      have G := F.1
      have F := F.2
      refine ms_iald mB_210 dL_law_162 (Or.inr (gk_0 N)) (by rw [gl_0 N]; exact G) ?_
      refine ms_seq mB_210 mO_210 [(.aload_n 0, 1), (.iload_n 3, 1), (.iconst 3, 1), (.iadd, 1)] (pc' := 167) (L' := [.ref 0, .ref 2, .ref 48, .int l3]) (st' := [.int (l3 + 3), .ref 0, .int (δ.2.1 0 (Int32.toNatClampNeg (l3 + 2))), .int (δ.2.1 0 (Int32.toNatClampNeg (l3 + 1))), .ref 2]) ⟨dL_law_163, dL_law_164, dL_law_165, dL_law_166, trivial⟩ rfl ?_
      have G := F.1
      have F := F.2
      refine ms_iald mB_210 dL_law_167 (Or.inr (gk_0 N)) (by rw [gl_0 N]; exact G) ?_
      refine ms_seq mB_210 mO_210 [(.aload_n 0, 1), (.iload_n 3, 1), (.iconst 4, 1), (.iadd, 1)] (pc' := 172) (L' := [.ref 0, .ref 2, .ref 48, .int l3]) (st' := [.int (l3 + 4), .ref 0, .int (δ.2.1 0 (Int32.toNatClampNeg (l3 + 3))), .int (δ.2.1 0 (Int32.toNatClampNeg (l3 + 2))), .int (δ.2.1 0 (Int32.toNatClampNeg (l3 + 1))), .ref 2]) ⟨dL_law_168, dL_law_169, dL_law_170, dL_law_171, trivial⟩ rfl ?_
      have G := F.1
      have F := F.2
      refine ms_iald mB_210 dL_law_172 (Or.inr (gk_0 N)) (by rw [gl_0 N]; exact G) ?_
      refine ms_if_eq mB_210 dL_law_173 (t := 180) rfl (fun c => ?_) (fun c => ?_)
      · have F := F.1 c
        refine ms_seq mB_210 mO_210 [(.iconst 0, 1)] (pc' := 181) (L' := [.ref 0, .ref 2, .ref 48, .int l3]) (st' := [.int 0, .int (δ.2.1 0 (Int32.toNatClampNeg (l3 + 3))), .int (δ.2.1 0 (Int32.toNatClampNeg (l3 + 2))), .int (δ.2.1 0 (Int32.toNatClampNeg (l3 + 1))), .ref 2]) ⟨dL_law_180, trivial⟩ rfl ?_
        exact F
      · have F := F.2 c
        refine ms_seq mB_210 mO_210 [(.iconst 1, 1)] (pc' := 177) (L' := [.ref 0, .ref 2, .ref 48, .int l3]) (st' := [.int 1, .int (δ.2.1 0 (Int32.toNatClampNeg (l3 + 3))), .int (δ.2.1 0 (Int32.toNatClampNeg (l3 + 2))), .int (δ.2.1 0 (Int32.toNatClampNeg (l3 + 1))), .ref 2]) ⟨dL_law_176, trivial⟩ rfl ?_
        refine ms_goto mB_210 dL_law_177 (t := 181) rfl ?_
        exact F
    have F := F.2
    by_cases n1 : ((δ.2.1 0 (Int32.toNatClampNeg l3)) &&& 31) = 1
    · refine ms_pure mB_210 mO_210 (pc' := 221) (L' := [.ref 0, .ref 2, .ref 48, .int l3]) (st' := []) dL_law_33 (by rw [n1]; rfl) ?_
      have F := F.1 n1
      refine ms_seq mB_210 mO_210 [(.aload_n 1, 1), (.aload_n 0, 1), (.iload_n 3, 1), (.iconst 1, 1), (.iadd, 1)] (pc' := 226) (L' := [.ref 0, .ref 2, .ref 48, .int l3]) (st' := [.int (l3 + 1), .ref 0, .ref 2]) ⟨dL_law_221, dL_law_222, dL_law_223, dL_law_224, dL_law_225, trivial⟩ rfl ?_
      have G := F.1
      have F := F.2
      refine ms_iald mB_210 dL_law_226 (Or.inr (gk_0 N)) (by rw [gl_0 N]; exact G) ?_
      refine ms_seq mB_210 mO_210 [(.aload_n 0, 1), (.iload_n 3, 1), (.iconst 2, 1), (.iadd, 1)] (pc' := 231) (L' := [.ref 0, .ref 2, .ref 48, .int l3]) (st' := [.int (l3 + 2), .ref 0, .int (δ.2.1 0 (Int32.toNatClampNeg (l3 + 1))), .ref 2]) ⟨dL_law_227, dL_law_228, dL_law_229, dL_law_230, trivial⟩ rfl ?_
      have G := F.1
      have F := F.2
      refine ms_iald mB_210 dL_law_231 (Or.inr (gk_0 N)) (by rw [gl_0 N]; exact G) ?_
      refine ms_if_eq mB_210 dL_law_232 (t := 239) rfl (fun c => ?_) (fun c => ?_)
      · have F := F.1 c
        refine ms_seq mB_210 mO_210 [(.iconst 0, 1)] (pc' := 240) (L' := [.ref 0, .ref 2, .ref 48, .int l3]) (st' := [.int 0, .int (δ.2.1 0 (Int32.toNatClampNeg (l3 + 1))), .ref 2]) ⟨dL_law_239, trivial⟩ rfl ?_
        exact F
      · have F := F.2 c
        refine ms_seq mB_210 mO_210 [(.iconst 1, 1)] (pc' := 236) (L' := [.ref 0, .ref 2, .ref 48, .int l3]) (st' := [.int 1, .int (δ.2.1 0 (Int32.toNatClampNeg (l3 + 1))), .ref 2]) ⟨dL_law_235, trivial⟩ rfl ?_
        refine ms_goto mB_210 dL_law_236 (t := 240) rfl ?_
        exact F
    have F := F.2
    by_cases n2 : ((δ.2.1 0 (Int32.toNatClampNeg l3)) &&& 31) = 2
    · refine ms_pure mB_210 mO_210 (pc' := 270) (L' := [.ref 0, .ref 2, .ref 48, .int l3]) (st' := []) dL_law_33 (by rw [n2]; rfl) ?_
      have F := F.1 n2
      refine ms_seq mB_210 mO_210 [(.aload_n 1, 1), (.aload_n 0, 1), (.iload_n 3, 1), (.iconst 1, 1), (.iadd, 1)] (pc' := 275) (L' := [.ref 0, .ref 2, .ref 48, .int l3]) (st' := [.int (l3 + 1), .ref 0, .ref 2]) ⟨dL_law_270, dL_law_271, dL_law_272, dL_law_273, dL_law_274, trivial⟩ rfl ?_
      have G := F.1
      have F := F.2
      refine ms_iald mB_210 dL_law_275 (Or.inr (gk_0 N)) (by rw [gl_0 N]; exact G) ?_
      refine ms_callvI mB_210 mO_210 (by omega) dL_law_276 mQ_13_23 mC_13_23 mL_115 mO_115 rfl (Nat.le_of_ble_eq_true rfl) (Nat.le_of_ble_eq_true rfl) (gk_2 N) rfl F (fun r2 δ1 F => ?_)
      refine ms_seq mB_210 mO_210 [(.aload_n 2, 1), (.aload_n 0, 1), (.iload_n 3, 1), (.iconst 1, 1), (.iadd, 1)] (pc' := 284) (L' := [.ref 0, .ref 2, .ref 48, .int l3]) (st' := [.int (l3 + 1), .ref 0, .ref 48, .int r2]) ⟨dL_law_279, dL_law_280, dL_law_281, dL_law_282, dL_law_283, trivial⟩ rfl ?_
      have G := F.1
      have F := F.2
      refine ms_iald mB_210 dL_law_284 (Or.inr (gk_0 N)) (by rw [gl_0 N]; exact G) ?_
      refine ms_callvI mB_210 mO_210 (by omega) dL_law_285 mQ_13_27 mC_13_27 mL_160 mO_160 rfl (Nat.le_of_ble_eq_true rfl) (Nat.le_of_ble_eq_true rfl) (gk_48 N) rfl F (fun r4 δ3 F => ?_)
      refine ms_icmp_eq mB_210 dL_law_288 (t := 1081) rfl (fun c => ?_) (fun c => ?_)
      · have F := F.1 c
        refine ms_seq mB_210 mO_210 [(.iinc 3 8, 3)] (pc' := 1084) (L' := [.ref 0, .ref 2, .ref 48, .int (l3 + 8)]) (st' := []) ⟨dL_law_1081, trivial⟩ rfl ?_
        refine ms_goto mB_210 dL_law_1084 (t := 18) rfl ?_
        exact F
      · have F := F.2 c
        refine ms_seq mB_210 mO_210 [(.iconst 0, 1)] (pc' := 292) (L' := [.ref 0, .ref 2, .ref 48, .int l3]) (st' := [.int 0]) ⟨dL_law_291, trivial⟩ rfl ?_
        exact ms_zret mB_210 dL_law_292 mR_210 (by decide) ⟨_, rfl, rfl, F⟩
    have F := F.2
    by_cases n3 : ((δ.2.1 0 (Int32.toNatClampNeg l3)) &&& 31) = 3
    · refine ms_pure mB_210 mO_210 (pc' := 293) (L' := [.ref 0, .ref 2, .ref 48, .int l3]) (st' := []) dL_law_33 (by rw [n3]; rfl) ?_
      have F := F.1 n3
      refine ms_seq mB_210 mO_210 [(.aload_n 1, 1), (.aload_n 0, 1), (.iload_n 3, 1), (.iconst 1, 1), (.iadd, 1)] (pc' := 298) (L' := [.ref 0, .ref 2, .ref 48, .int l3]) (st' := [.int (l3 + 1), .ref 0, .ref 2]) ⟨dL_law_293, dL_law_294, dL_law_295, dL_law_296, dL_law_297, trivial⟩ rfl ?_
      have G := F.1
      have F := F.2
      refine ms_iald mB_210 dL_law_298 (Or.inr (gk_0 N)) (by rw [gl_0 N]; exact G) ?_
      refine ms_callvI mB_210 mO_210 (by omega) dL_law_299 mQ_13_28 mC_13_28 mL_116 mO_116 rfl (Nat.le_of_ble_eq_true rfl) (Nat.le_of_ble_eq_true rfl) (gk_2 N) rfl F (fun r6 δ5 F => ?_)
      refine ms_seq mB_210 mO_210 [(.aload_n 2, 1), (.aload_n 0, 1), (.iload_n 3, 1), (.iconst 1, 1), (.iadd, 1)] (pc' := 307) (L' := [.ref 0, .ref 2, .ref 48, .int l3]) (st' := [.int (l3 + 1), .ref 0, .ref 48, .int r6]) ⟨dL_law_302, dL_law_303, dL_law_304, dL_law_305, dL_law_306, trivial⟩ rfl ?_
      have G := F.1
      have F := F.2
      refine ms_iald mB_210 dL_law_307 (Or.inr (gk_0 N)) (by rw [gl_0 N]; exact G) ?_
      refine ms_callvI mB_210 mO_210 (by omega) dL_law_308 mQ_13_31 mC_13_31 mL_161 mO_161 rfl (Nat.le_of_ble_eq_true rfl) (Nat.le_of_ble_eq_true rfl) (gk_48 N) rfl F (fun r8 δ7 F => ?_)
      refine ms_icmp_eq mB_210 dL_law_311 (t := 1081) rfl (fun c => ?_) (fun c => ?_)
      · have F := F.1 c
        refine ms_seq mB_210 mO_210 [(.iinc 3 8, 3)] (pc' := 1084) (L' := [.ref 0, .ref 2, .ref 48, .int (l3 + 8)]) (st' := []) ⟨dL_law_1081, trivial⟩ rfl ?_
        refine ms_goto mB_210 dL_law_1084 (t := 18) rfl ?_
        exact F
      · have F := F.2 c
        refine ms_seq mB_210 mO_210 [(.iconst 0, 1)] (pc' := 315) (L' := [.ref 0, .ref 2, .ref 48, .int l3]) (st' := [.int 0]) ⟨dL_law_314, trivial⟩ rfl ?_
        exact ms_zret mB_210 dL_law_315 mR_210 (by decide) ⟨_, rfl, rfl, F⟩
    have F := F.2
    by_cases n4 : ((δ.2.1 0 (Int32.toNatClampNeg l3)) &&& 31) = 4
    · refine ms_pure mB_210 mO_210 (pc' := 316) (L' := [.ref 0, .ref 2, .ref 48, .int l3]) (st' := []) dL_law_33 (by rw [n4]; rfl) ?_
      have F := F.1 n4
      refine ms_seq mB_210 mO_210 [(.aload_n 1, 1), (.aload_n 0, 1), (.iload_n 3, 1), (.iconst 1, 1), (.iadd, 1)] (pc' := 321) (L' := [.ref 0, .ref 2, .ref 48, .int l3]) (st' := [.int (l3 + 1), .ref 0, .ref 2]) ⟨dL_law_316, dL_law_317, dL_law_318, dL_law_319, dL_law_320, trivial⟩ rfl ?_
      have G := F.1
      have F := F.2
      refine ms_iald mB_210 dL_law_321 (Or.inr (gk_0 N)) (by rw [gl_0 N]; exact G) ?_
      refine ms_seq mB_210 mO_210 [(.aload_n 0, 1), (.iload_n 3, 1), (.iconst 2, 1), (.iadd, 1)] (pc' := 326) (L' := [.ref 0, .ref 2, .ref 48, .int l3]) (st' := [.int (l3 + 2), .ref 0, .int (δ.2.1 0 (Int32.toNatClampNeg (l3 + 1))), .ref 2]) ⟨dL_law_322, dL_law_323, dL_law_324, dL_law_325, trivial⟩ rfl ?_
      have G := F.1
      have F := F.2
      refine ms_iald mB_210 dL_law_326 (Or.inr (gk_0 N)) (by rw [gl_0 N]; exact G) ?_
      refine ms_seq mB_210 mO_210 [(.i2l, 1), (.bipush 32, 2), (.lshl, 1), (.aload_n 0, 1), (.iload_n 3, 1), (.iconst 3, 1), (.iadd, 1)] (pc' := 335) (L' := [.ref 0, .ref 2, .ref 48, .int l3]) (st' := [.int (l3 + 3), .ref 0, .long ((Int32.toInt64 (δ.2.1 0 (Int32.toNatClampNeg (l3 + 2)))) <<< (Int32.toInt64 32 &&& 63)), .int (δ.2.1 0 (Int32.toNatClampNeg (l3 + 1))), .ref 2]) ⟨dL_law_327, dL_law_328, dL_law_330, dL_law_331, dL_law_332, dL_law_333, dL_law_334, trivial⟩ rfl ?_
      have G := F.1
      have F := F.2
      refine ms_iald mB_210 dL_law_335 (Or.inr (gk_0 N)) (by rw [gl_0 N]; exact G) ?_
      refine ms_seq mB_210 mO_210 [(.i2l, 1), (.ldc2_w 32, 3), (.land, 1), (.lor, 1)] (pc' := 342) (L' := [.ref 0, .ref 2, .ref 48, .int l3]) (st' := [.long (((Int32.toInt64 (δ.2.1 0 (Int32.toNatClampNeg (l3 + 2)))) <<< (Int32.toInt64 32 &&& 63)) ||| ((Int32.toInt64 (δ.2.1 0 (Int32.toNatClampNeg (l3 + 3)))) &&& 4294967295)), .int (δ.2.1 0 (Int32.toNatClampNeg (l3 + 1))), .ref 2]) ⟨dL_law_336, dL_law_337, dL_law_340, dL_law_341, trivial⟩ rfl ?_
      refine ms_callvI mB_210 mO_210 (by omega) dL_law_342 mQ_13_34 mC_13_34 mL_117 mO_117 rfl (Nat.le_of_ble_eq_true rfl) (Nat.le_of_ble_eq_true rfl) (gk_2 N) rfl F (fun r10 δ9 F => ?_)
      refine ms_seq mB_210 mO_210 [(.aload_n 2, 1), (.aload_n 0, 1), (.iload_n 3, 1), (.iconst 1, 1), (.iadd, 1)] (pc' := 350) (L' := [.ref 0, .ref 2, .ref 48, .int l3]) (st' := [.int (l3 + 1), .ref 0, .ref 48, .int r10]) ⟨dL_law_345, dL_law_346, dL_law_347, dL_law_348, dL_law_349, trivial⟩ rfl ?_
      have G := F.1
      have F := F.2
      refine ms_iald mB_210 dL_law_350 (Or.inr (gk_0 N)) (by rw [gl_0 N]; exact G) ?_
      refine ms_seq mB_210 mO_210 [(.aload_n 0, 1), (.iload_n 3, 1), (.iconst 2, 1), (.iadd, 1)] (pc' := 355) (L' := [.ref 0, .ref 2, .ref 48, .int l3]) (st' := [.int (l3 + 2), .ref 0, .int (δ9.2.1 0 (Int32.toNatClampNeg (l3 + 1))), .ref 48, .int r10]) ⟨dL_law_351, dL_law_352, dL_law_353, dL_law_354, trivial⟩ rfl ?_
      have G := F.1
      have F := F.2
      refine ms_iald mB_210 dL_law_355 (Or.inr (gk_0 N)) (by rw [gl_0 N]; exact G) ?_
      refine ms_seq mB_210 mO_210 [(.i2l, 1), (.bipush 32, 2), (.lshl, 1), (.aload_n 0, 1), (.iload_n 3, 1), (.iconst 3, 1), (.iadd, 1)] (pc' := 364) (L' := [.ref 0, .ref 2, .ref 48, .int l3]) (st' := [.int (l3 + 3), .ref 0, .long ((Int32.toInt64 (δ9.2.1 0 (Int32.toNatClampNeg (l3 + 2)))) <<< (Int32.toInt64 32 &&& 63)), .int (δ9.2.1 0 (Int32.toNatClampNeg (l3 + 1))), .ref 48, .int r10]) ⟨dL_law_356, dL_law_357, dL_law_359, dL_law_360, dL_law_361, dL_law_362, dL_law_363, trivial⟩ rfl ?_
      have G := F.1
      have F := F.2
      refine ms_iald mB_210 dL_law_364 (Or.inr (gk_0 N)) (by rw [gl_0 N]; exact G) ?_
      refine ms_seq mB_210 mO_210 [(.i2l, 1), (.ldc2_w 32, 3), (.land, 1), (.lor, 1)] (pc' := 371) (L' := [.ref 0, .ref 2, .ref 48, .int l3]) (st' := [.long (((Int32.toInt64 (δ9.2.1 0 (Int32.toNatClampNeg (l3 + 2)))) <<< (Int32.toInt64 32 &&& 63)) ||| ((Int32.toInt64 (δ9.2.1 0 (Int32.toNatClampNeg (l3 + 3)))) &&& 4294967295)), .int (δ9.2.1 0 (Int32.toNatClampNeg (l3 + 1))), .ref 48, .int r10]) ⟨dL_law_365, dL_law_366, dL_law_369, dL_law_370, trivial⟩ rfl ?_
      refine ms_callvI mB_210 mO_210 (by omega) dL_law_371 mQ_13_38 mC_13_38 mL_162 mO_162 rfl (Nat.le_of_ble_eq_true rfl) (Nat.le_of_ble_eq_true rfl) (gk_48 N) rfl F (fun r12 δ11 F => ?_)
      refine ms_icmp_eq mB_210 dL_law_374 (t := 1081) rfl (fun c => ?_) (fun c => ?_)
      · have F := F.1 c
        refine ms_seq mB_210 mO_210 [(.iinc 3 8, 3)] (pc' := 1084) (L' := [.ref 0, .ref 2, .ref 48, .int (l3 + 8)]) (st' := []) ⟨dL_law_1081, trivial⟩ rfl ?_
        refine ms_goto mB_210 dL_law_1084 (t := 18) rfl ?_
        exact F
      · have F := F.2 c
        refine ms_seq mB_210 mO_210 [(.iconst 0, 1)] (pc' := 378) (L' := [.ref 0, .ref 2, .ref 48, .int l3]) (st' := [.int 0]) ⟨dL_law_377, trivial⟩ rfl ?_
        exact ms_zret mB_210 dL_law_378 mR_210 (by decide) ⟨_, rfl, rfl, F⟩
    have F := F.2
    by_cases n5 : ((δ.2.1 0 (Int32.toNatClampNeg l3)) &&& 31) = 5
    · refine ms_pure mB_210 mO_210 (pc' := 379) (L' := [.ref 0, .ref 2, .ref 48, .int l3]) (st' := []) dL_law_33 (by rw [n5]; rfl) ?_
      have F := F.1 n5
      refine ms_seq mB_210 mO_210 [(.aload_n 1, 1)] (pc' := 380) (L' := [.ref 0, .ref 2, .ref 48, .int l3]) (st' := [.ref 2]) ⟨dL_law_379, trivial⟩ rfl ?_
      refine ms_callvI mB_210 mO_210 (by omega) dL_law_380 mQ_13_39 mC_13_39 mL_118 mO_118 rfl (Nat.le_of_ble_eq_true rfl) (Nat.le_of_ble_eq_true rfl) (gk_2 N) rfl F (fun r14 δ13 F => ?_)
      refine ms_seq mB_210 mO_210 [(.aload_n 2, 1)] (pc' := 384) (L' := [.ref 0, .ref 2, .ref 48, .int l3]) (st' := [.ref 48, .int r14]) ⟨dL_law_383, trivial⟩ rfl ?_
      refine ms_callvI mB_210 mO_210 (by omega) dL_law_384 mQ_13_43 mC_13_43 mL_163 mO_163 rfl (Nat.le_of_ble_eq_true rfl) (Nat.le_of_ble_eq_true rfl) (gk_48 N) rfl F (fun r16 δ15 F => ?_)
      refine ms_icmp_eq mB_210 dL_law_387 (t := 1081) rfl (fun c => ?_) (fun c => ?_)
      · have F := F.1 c
        refine ms_seq mB_210 mO_210 [(.iinc 3 8, 3)] (pc' := 1084) (L' := [.ref 0, .ref 2, .ref 48, .int (l3 + 8)]) (st' := []) ⟨dL_law_1081, trivial⟩ rfl ?_
        refine ms_goto mB_210 dL_law_1084 (t := 18) rfl ?_
        exact F
      · have F := F.2 c
        refine ms_seq mB_210 mO_210 [(.iconst 0, 1)] (pc' := 391) (L' := [.ref 0, .ref 2, .ref 48, .int l3]) (st' := [.int 0]) ⟨dL_law_390, trivial⟩ rfl ?_
        exact ms_zret mB_210 dL_law_391 mR_210 (by decide) ⟨_, rfl, rfl, F⟩
    have F := F.2
    by_cases n6 : ((δ.2.1 0 (Int32.toNatClampNeg l3)) &&& 31) = 6
    · refine ms_pure mB_210 mO_210 (pc' := 392) (L' := [.ref 0, .ref 2, .ref 48, .int l3]) (st' := []) dL_law_33 (by rw [n6]; rfl) ?_
      have F := F.1 n6
      refine ms_seq mB_210 mO_210 [(.aload_n 1, 1), (.aload_n 0, 1), (.iload_n 3, 1), (.iconst 1, 1), (.iadd, 1)] (pc' := 397) (L' := [.ref 0, .ref 2, .ref 48, .int l3]) (st' := [.int (l3 + 1), .ref 0, .ref 2]) ⟨dL_law_392, dL_law_393, dL_law_394, dL_law_395, dL_law_396, trivial⟩ rfl ?_
      have G := F.1
      have F := F.2
      refine ms_iald mB_210 dL_law_397 (Or.inr (gk_0 N)) (by rw [gl_0 N]; exact G) ?_
      refine ms_seq mB_210 mO_210 [(.aload_n 0, 1), (.iload_n 3, 1), (.iconst 2, 1), (.iadd, 1)] (pc' := 402) (L' := [.ref 0, .ref 2, .ref 48, .int l3]) (st' := [.int (l3 + 2), .ref 0, .int (δ.2.1 0 (Int32.toNatClampNeg (l3 + 1))), .ref 2]) ⟨dL_law_398, dL_law_399, dL_law_400, dL_law_401, trivial⟩ rfl ?_
      have G := F.1
      have F := F.2
      refine ms_iald mB_210 dL_law_402 (Or.inr (gk_0 N)) (by rw [gl_0 N]; exact G) ?_
      refine ms_callvI mB_210 mO_210 (by omega) dL_law_403 mQ_13_44 mC_13_44 mL_119 mO_119 rfl (Nat.le_of_ble_eq_true rfl) (Nat.le_of_ble_eq_true rfl) (gk_2 N) rfl F (fun r18 δ17 F => ?_)
      refine ms_seq mB_210 mO_210 [(.aload_n 2, 1), (.aload_n 0, 1), (.iload_n 3, 1), (.iconst 1, 1), (.iadd, 1)] (pc' := 411) (L' := [.ref 0, .ref 2, .ref 48, .int l3]) (st' := [.int (l3 + 1), .ref 0, .ref 48, .int r18]) ⟨dL_law_406, dL_law_407, dL_law_408, dL_law_409, dL_law_410, trivial⟩ rfl ?_
      have G := F.1
      have F := F.2
      refine ms_iald mB_210 dL_law_411 (Or.inr (gk_0 N)) (by rw [gl_0 N]; exact G) ?_
      refine ms_seq mB_210 mO_210 [(.aload_n 0, 1), (.iload_n 3, 1), (.iconst 2, 1), (.iadd, 1)] (pc' := 416) (L' := [.ref 0, .ref 2, .ref 48, .int l3]) (st' := [.int (l3 + 2), .ref 0, .int (δ17.2.1 0 (Int32.toNatClampNeg (l3 + 1))), .ref 48, .int r18]) ⟨dL_law_412, dL_law_413, dL_law_414, dL_law_415, trivial⟩ rfl ?_
      have G := F.1
      have F := F.2
      refine ms_iald mB_210 dL_law_416 (Or.inr (gk_0 N)) (by rw [gl_0 N]; exact G) ?_
      refine ms_callvI mB_210 mO_210 (by omega) dL_law_417 mQ_13_48 mC_13_48 mL_171 mO_171 rfl (Nat.le_of_ble_eq_true rfl) (Nat.le_of_ble_eq_true rfl) (gk_48 N) rfl F (fun r20 δ19 F => ?_)
      refine ms_icmp_eq mB_210 dL_law_420 (t := 1081) rfl (fun c => ?_) (fun c => ?_)
      · have F := F.1 c
        refine ms_seq mB_210 mO_210 [(.iinc 3 8, 3)] (pc' := 1084) (L' := [.ref 0, .ref 2, .ref 48, .int (l3 + 8)]) (st' := []) ⟨dL_law_1081, trivial⟩ rfl ?_
        refine ms_goto mB_210 dL_law_1084 (t := 18) rfl ?_
        exact F
      · have F := F.2 c
        refine ms_seq mB_210 mO_210 [(.iconst 0, 1)] (pc' := 424) (L' := [.ref 0, .ref 2, .ref 48, .int l3]) (st' := [.int 0]) ⟨dL_law_423, trivial⟩ rfl ?_
        exact ms_zret mB_210 dL_law_424 mR_210 (by decide) ⟨_, rfl, rfl, F⟩
    have F := F.2
    by_cases n7 : ((δ.2.1 0 (Int32.toNatClampNeg l3)) &&& 31) = 7
    · refine ms_pure mB_210 mO_210 (pc' := 425) (L' := [.ref 0, .ref 2, .ref 48, .int l3]) (st' := []) dL_law_33 (by rw [n7]; rfl) ?_
      have F := F.1 n7
      refine ms_seq mB_210 mO_210 [(.aload_n 1, 1), (.aload_n 0, 1), (.iload_n 3, 1), (.iconst 1, 1), (.iadd, 1)] (pc' := 430) (L' := [.ref 0, .ref 2, .ref 48, .int l3]) (st' := [.int (l3 + 1), .ref 0, .ref 2]) ⟨dL_law_425, dL_law_426, dL_law_427, dL_law_428, dL_law_429, trivial⟩ rfl ?_
      have G := F.1
      have F := F.2
      refine ms_iald mB_210 dL_law_430 (Or.inr (gk_0 N)) (by rw [gl_0 N]; exact G) ?_
      refine ms_seq mB_210 mO_210 [(.aload_n 0, 1), (.iload_n 3, 1), (.iconst 2, 1), (.iadd, 1)] (pc' := 435) (L' := [.ref 0, .ref 2, .ref 48, .int l3]) (st' := [.int (l3 + 2), .ref 0, .int (δ.2.1 0 (Int32.toNatClampNeg (l3 + 1))), .ref 2]) ⟨dL_law_431, dL_law_432, dL_law_433, dL_law_434, trivial⟩ rfl ?_
      have G := F.1
      have F := F.2
      refine ms_iald mB_210 dL_law_435 (Or.inr (gk_0 N)) (by rw [gl_0 N]; exact G) ?_
      refine ms_callvI mB_210 mO_210 (by omega) dL_law_436 mQ_13_49 mC_13_49 mL_120 mO_120 rfl (Nat.le_of_ble_eq_true rfl) (Nat.le_of_ble_eq_true rfl) (gk_2 N) rfl F (fun r22 δ21 F => ?_)
      refine ms_seq mB_210 mO_210 [(.aload_n 2, 1), (.aload_n 0, 1), (.iload_n 3, 1), (.iconst 1, 1), (.iadd, 1)] (pc' := 444) (L' := [.ref 0, .ref 2, .ref 48, .int l3]) (st' := [.int (l3 + 1), .ref 0, .ref 48, .int r22]) ⟨dL_law_439, dL_law_440, dL_law_441, dL_law_442, dL_law_443, trivial⟩ rfl ?_
      have G := F.1
      have F := F.2
      refine ms_iald mB_210 dL_law_444 (Or.inr (gk_0 N)) (by rw [gl_0 N]; exact G) ?_
      refine ms_seq mB_210 mO_210 [(.aload_n 0, 1), (.iload_n 3, 1), (.iconst 2, 1), (.iadd, 1)] (pc' := 449) (L' := [.ref 0, .ref 2, .ref 48, .int l3]) (st' := [.int (l3 + 2), .ref 0, .int (δ21.2.1 0 (Int32.toNatClampNeg (l3 + 1))), .ref 48, .int r22]) ⟨dL_law_445, dL_law_446, dL_law_447, dL_law_448, trivial⟩ rfl ?_
      have G := F.1
      have F := F.2
      refine ms_iald mB_210 dL_law_449 (Or.inr (gk_0 N)) (by rw [gl_0 N]; exact G) ?_
      refine ms_callvI mB_210 mO_210 (by omega) dL_law_450 mQ_13_52 mC_13_52 mL_172 mO_172 rfl (Nat.le_of_ble_eq_true rfl) (Nat.le_of_ble_eq_true rfl) (gk_48 N) rfl F (fun r24 δ23 F => ?_)
      refine ms_icmp_eq mB_210 dL_law_453 (t := 1081) rfl (fun c => ?_) (fun c => ?_)
      · have F := F.1 c
        refine ms_seq mB_210 mO_210 [(.iinc 3 8, 3)] (pc' := 1084) (L' := [.ref 0, .ref 2, .ref 48, .int (l3 + 8)]) (st' := []) ⟨dL_law_1081, trivial⟩ rfl ?_
        refine ms_goto mB_210 dL_law_1084 (t := 18) rfl ?_
        exact F
      · have F := F.2 c
        refine ms_seq mB_210 mO_210 [(.iconst 0, 1)] (pc' := 457) (L' := [.ref 0, .ref 2, .ref 48, .int l3]) (st' := [.int 0]) ⟨dL_law_456, trivial⟩ rfl ?_
        exact ms_zret mB_210 dL_law_457 mR_210 (by decide) ⟨_, rfl, rfl, F⟩
    have F := F.2
    by_cases n8 : ((δ.2.1 0 (Int32.toNatClampNeg l3)) &&& 31) = 8
    · refine ms_pure mB_210 mO_210 (pc' := 458) (L' := [.ref 0, .ref 2, .ref 48, .int l3]) (st' := []) dL_law_33 (by rw [n8]; rfl) ?_
      have F := F.1 n8
      refine ms_seq mB_210 mO_210 [(.aload_n 1, 1)] (pc' := 459) (L' := [.ref 0, .ref 2, .ref 48, .int l3]) (st' := [.ref 2]) ⟨dL_law_458, trivial⟩ rfl ?_
      refine ms_callvI mB_210 mO_210 (by omega) dL_law_459 mQ_13_53 mC_13_53 mL_121 mO_121 rfl (Nat.le_of_ble_eq_true rfl) (Nat.le_of_ble_eq_true rfl) (gk_2 N) rfl F (fun r26 δ25 F => ?_)
      refine ms_seq mB_210 mO_210 [(.aload_n 2, 1)] (pc' := 463) (L' := [.ref 0, .ref 2, .ref 48, .int l3]) (st' := [.ref 48, .int r26]) ⟨dL_law_462, trivial⟩ rfl ?_
      refine ms_callvI mB_210 mO_210 (by omega) dL_law_463 mQ_13_56 mC_13_56 mL_176 mO_176 rfl (Nat.le_of_ble_eq_true rfl) (Nat.le_of_ble_eq_true rfl) (gk_48 N) rfl F (fun r28 δ27 F => ?_)
      refine ms_icmp_eq mB_210 dL_law_466 (t := 1081) rfl (fun c => ?_) (fun c => ?_)
      · have F := F.1 c
        refine ms_seq mB_210 mO_210 [(.iinc 3 8, 3)] (pc' := 1084) (L' := [.ref 0, .ref 2, .ref 48, .int (l3 + 8)]) (st' := []) ⟨dL_law_1081, trivial⟩ rfl ?_
        refine ms_goto mB_210 dL_law_1084 (t := 18) rfl ?_
        exact F
      · have F := F.2 c
        refine ms_seq mB_210 mO_210 [(.iconst 0, 1)] (pc' := 470) (L' := [.ref 0, .ref 2, .ref 48, .int l3]) (st' := [.int 0]) ⟨dL_law_469, trivial⟩ rfl ?_
        exact ms_zret mB_210 dL_law_470 mR_210 (by decide) ⟨_, rfl, rfl, F⟩
    have F := F.2
    by_cases n9 : ((δ.2.1 0 (Int32.toNatClampNeg l3)) &&& 31) = 9
    · refine ms_pure mB_210 mO_210 (pc' := 471) (L' := [.ref 0, .ref 2, .ref 48, .int l3]) (st' := []) dL_law_33 (by rw [n9]; rfl) ?_
      have F := F.1 n9
      refine ms_seq mB_210 mO_210 [(.aload_n 1, 1)] (pc' := 472) (L' := [.ref 0, .ref 2, .ref 48, .int l3]) (st' := [.ref 2]) ⟨dL_law_471, trivial⟩ rfl ?_
      refine ms_callvI mB_210 mO_210 (by omega) dL_law_472 mQ_13_57 mC_13_57 mL_122 mO_122 rfl (Nat.le_of_ble_eq_true rfl) (Nat.le_of_ble_eq_true rfl) (gk_2 N) rfl F (fun r30 δ29 F => ?_)
      refine ms_seq mB_210 mO_210 [(.aload_n 2, 1)] (pc' := 476) (L' := [.ref 0, .ref 2, .ref 48, .int l3]) (st' := [.ref 48, .int r30]) ⟨dL_law_475, trivial⟩ rfl ?_
      refine ms_callvI mB_210 mO_210 (by omega) dL_law_476 mQ_13_60 mC_13_60 mL_177 mO_177 rfl (Nat.le_of_ble_eq_true rfl) (Nat.le_of_ble_eq_true rfl) (gk_48 N) rfl F (fun r32 δ31 F => ?_)
      refine ms_icmp_eq mB_210 dL_law_479 (t := 1081) rfl (fun c => ?_) (fun c => ?_)
      · have F := F.1 c
        refine ms_seq mB_210 mO_210 [(.iinc 3 8, 3)] (pc' := 1084) (L' := [.ref 0, .ref 2, .ref 48, .int (l3 + 8)]) (st' := []) ⟨dL_law_1081, trivial⟩ rfl ?_
        refine ms_goto mB_210 dL_law_1084 (t := 18) rfl ?_
        exact F
      · have F := F.2 c
        refine ms_seq mB_210 mO_210 [(.iconst 0, 1)] (pc' := 483) (L' := [.ref 0, .ref 2, .ref 48, .int l3]) (st' := [.int 0]) ⟨dL_law_482, trivial⟩ rfl ?_
        exact ms_zret mB_210 dL_law_483 mR_210 (by decide) ⟨_, rfl, rfl, F⟩
    have F := F.2
    by_cases n10 : ((δ.2.1 0 (Int32.toNatClampNeg l3)) &&& 31) = 10
    · refine ms_pure mB_210 mO_210 (pc' := 484) (L' := [.ref 0, .ref 2, .ref 48, .int l3]) (st' := []) dL_law_33 (by rw [n10]; rfl) ?_
      have F := F.1 n10
      refine ms_seq mB_210 mO_210 [(.aload_n 1, 1), (.aload_n 0, 1), (.iload_n 3, 1), (.iconst 1, 1), (.iadd, 1)] (pc' := 489) (L' := [.ref 0, .ref 2, .ref 48, .int l3]) (st' := [.int (l3 + 1), .ref 0, .ref 2]) ⟨dL_law_484, dL_law_485, dL_law_486, dL_law_487, dL_law_488, trivial⟩ rfl ?_
      have G := F.1
      have F := F.2
      refine ms_iald mB_210 dL_law_489 (Or.inr (gk_0 N)) (by rw [gl_0 N]; exact G) ?_
      refine ms_seq mB_210 mO_210 [(.aload_n 0, 1), (.iload_n 3, 1), (.iconst 2, 1), (.iadd, 1)] (pc' := 494) (L' := [.ref 0, .ref 2, .ref 48, .int l3]) (st' := [.int (l3 + 2), .ref 0, .int (δ.2.1 0 (Int32.toNatClampNeg (l3 + 1))), .ref 2]) ⟨dL_law_490, dL_law_491, dL_law_492, dL_law_493, trivial⟩ rfl ?_
      have G := F.1
      have F := F.2
      refine ms_iald mB_210 dL_law_494 (Or.inr (gk_0 N)) (by rw [gl_0 N]; exact G) ?_
      refine ms_seq mB_210 mO_210 [(.i2l, 1), (.bipush 32, 2), (.lshl, 1), (.aload_n 0, 1), (.iload_n 3, 1), (.iconst 3, 1), (.iadd, 1)] (pc' := 503) (L' := [.ref 0, .ref 2, .ref 48, .int l3]) (st' := [.int (l3 + 3), .ref 0, .long ((Int32.toInt64 (δ.2.1 0 (Int32.toNatClampNeg (l3 + 2)))) <<< (Int32.toInt64 32 &&& 63)), .int (δ.2.1 0 (Int32.toNatClampNeg (l3 + 1))), .ref 2]) ⟨dL_law_495, dL_law_496, dL_law_498, dL_law_499, dL_law_500, dL_law_501, dL_law_502, trivial⟩ rfl ?_
      have G := F.1
      have F := F.2
      refine ms_iald mB_210 dL_law_503 (Or.inr (gk_0 N)) (by rw [gl_0 N]; exact G) ?_
      refine ms_seq mB_210 mO_210 [(.i2l, 1), (.ldc2_w 32, 3), (.land, 1), (.lor, 1), (.aload_n 0, 1), (.iload_n 3, 1), (.iconst 4, 1), (.iadd, 1)] (pc' := 514) (L' := [.ref 0, .ref 2, .ref 48, .int l3]) (st' := [.int (l3 + 4), .ref 0, .long (((Int32.toInt64 (δ.2.1 0 (Int32.toNatClampNeg (l3 + 2)))) <<< (Int32.toInt64 32 &&& 63)) ||| ((Int32.toInt64 (δ.2.1 0 (Int32.toNatClampNeg (l3 + 3)))) &&& 4294967295)), .int (δ.2.1 0 (Int32.toNatClampNeg (l3 + 1))), .ref 2]) ⟨dL_law_504, dL_law_505, dL_law_508, dL_law_509, dL_law_510, dL_law_511, dL_law_512, dL_law_513, trivial⟩ rfl ?_
      have G := F.1
      have F := F.2
      refine ms_iald mB_210 dL_law_514 (Or.inr (gk_0 N)) (by rw [gl_0 N]; exact G) ?_
      refine ms_seq mB_210 mO_210 [(.aload_n 0, 1), (.iload_n 3, 1), (.iconst 5, 1), (.iadd, 1)] (pc' := 519) (L' := [.ref 0, .ref 2, .ref 48, .int l3]) (st' := [.int (l3 + 5), .ref 0, .int (δ.2.1 0 (Int32.toNatClampNeg (l3 + 4))), .long (((Int32.toInt64 (δ.2.1 0 (Int32.toNatClampNeg (l3 + 2)))) <<< (Int32.toInt64 32 &&& 63)) ||| ((Int32.toInt64 (δ.2.1 0 (Int32.toNatClampNeg (l3 + 3)))) &&& 4294967295)), .int (δ.2.1 0 (Int32.toNatClampNeg (l3 + 1))), .ref 2]) ⟨dL_law_515, dL_law_516, dL_law_517, dL_law_518, trivial⟩ rfl ?_
      have G := F.1
      have F := F.2
      refine ms_iald mB_210 dL_law_519 (Or.inr (gk_0 N)) (by rw [gl_0 N]; exact G) ?_
      refine ms_callvI mB_210 mO_210 (by omega) dL_law_520 mQ_13_61 mC_13_61 mL_123 mO_123 rfl (Nat.le_of_ble_eq_true rfl) (Nat.le_of_ble_eq_true rfl) (gk_2 N) rfl F (fun r34 δ33 F => ?_)
      refine ms_seq mB_210 mO_210 [(.aload_n 2, 1), (.aload_n 0, 1), (.iload_n 3, 1), (.iconst 1, 1), (.iadd, 1)] (pc' := 528) (L' := [.ref 0, .ref 2, .ref 48, .int l3]) (st' := [.int (l3 + 1), .ref 0, .ref 48, .int r34]) ⟨dL_law_523, dL_law_524, dL_law_525, dL_law_526, dL_law_527, trivial⟩ rfl ?_
      have G := F.1
      have F := F.2
      refine ms_iald mB_210 dL_law_528 (Or.inr (gk_0 N)) (by rw [gl_0 N]; exact G) ?_
      refine ms_seq mB_210 mO_210 [(.aload_n 0, 1), (.iload_n 3, 1), (.iconst 2, 1), (.iadd, 1)] (pc' := 533) (L' := [.ref 0, .ref 2, .ref 48, .int l3]) (st' := [.int (l3 + 2), .ref 0, .int (δ33.2.1 0 (Int32.toNatClampNeg (l3 + 1))), .ref 48, .int r34]) ⟨dL_law_529, dL_law_530, dL_law_531, dL_law_532, trivial⟩ rfl ?_
      have G := F.1
      have F := F.2
      refine ms_iald mB_210 dL_law_533 (Or.inr (gk_0 N)) (by rw [gl_0 N]; exact G) ?_
      refine ms_seq mB_210 mO_210 [(.i2l, 1), (.bipush 32, 2), (.lshl, 1), (.aload_n 0, 1), (.iload_n 3, 1), (.iconst 3, 1), (.iadd, 1)] (pc' := 542) (L' := [.ref 0, .ref 2, .ref 48, .int l3]) (st' := [.int (l3 + 3), .ref 0, .long ((Int32.toInt64 (δ33.2.1 0 (Int32.toNatClampNeg (l3 + 2)))) <<< (Int32.toInt64 32 &&& 63)), .int (δ33.2.1 0 (Int32.toNatClampNeg (l3 + 1))), .ref 48, .int r34]) ⟨dL_law_534, dL_law_535, dL_law_537, dL_law_538, dL_law_539, dL_law_540, dL_law_541, trivial⟩ rfl ?_
      have G := F.1
      have F := F.2
      refine ms_iald mB_210 dL_law_542 (Or.inr (gk_0 N)) (by rw [gl_0 N]; exact G) ?_
      refine ms_seq mB_210 mO_210 [(.i2l, 1), (.ldc2_w 32, 3), (.land, 1), (.lor, 1), (.aload_n 0, 1), (.iload_n 3, 1), (.iconst 4, 1), (.iadd, 1)] (pc' := 553) (L' := [.ref 0, .ref 2, .ref 48, .int l3]) (st' := [.int (l3 + 4), .ref 0, .long (((Int32.toInt64 (δ33.2.1 0 (Int32.toNatClampNeg (l3 + 2)))) <<< (Int32.toInt64 32 &&& 63)) ||| ((Int32.toInt64 (δ33.2.1 0 (Int32.toNatClampNeg (l3 + 3)))) &&& 4294967295)), .int (δ33.2.1 0 (Int32.toNatClampNeg (l3 + 1))), .ref 48, .int r34]) ⟨dL_law_543, dL_law_544, dL_law_547, dL_law_548, dL_law_549, dL_law_550, dL_law_551, dL_law_552, trivial⟩ rfl ?_
      have G := F.1
      have F := F.2
      refine ms_iald mB_210 dL_law_553 (Or.inr (gk_0 N)) (by rw [gl_0 N]; exact G) ?_
      refine ms_seq mB_210 mO_210 [(.aload_n 0, 1), (.iload_n 3, 1), (.iconst 5, 1), (.iadd, 1)] (pc' := 558) (L' := [.ref 0, .ref 2, .ref 48, .int l3]) (st' := [.int (l3 + 5), .ref 0, .int (δ33.2.1 0 (Int32.toNatClampNeg (l3 + 4))), .long (((Int32.toInt64 (δ33.2.1 0 (Int32.toNatClampNeg (l3 + 2)))) <<< (Int32.toInt64 32 &&& 63)) ||| ((Int32.toInt64 (δ33.2.1 0 (Int32.toNatClampNeg (l3 + 3)))) &&& 4294967295)), .int (δ33.2.1 0 (Int32.toNatClampNeg (l3 + 1))), .ref 48, .int r34]) ⟨dL_law_554, dL_law_555, dL_law_556, dL_law_557, trivial⟩ rfl ?_
      have G := F.1
      have F := F.2
      refine ms_iald mB_210 dL_law_558 (Or.inr (gk_0 N)) (by rw [gl_0 N]; exact G) ?_
      refine ms_callvI mB_210 mO_210 (by omega) dL_law_559 mQ_13_65 mC_13_65 mL_179 mO_179 rfl (Nat.le_of_ble_eq_true rfl) (Nat.le_of_ble_eq_true rfl) (gk_48 N) rfl F (fun r36 δ35 F => ?_)
      refine ms_icmp_eq mB_210 dL_law_562 (t := 1081) rfl (fun c => ?_) (fun c => ?_)
      · have F := F.1 c
        refine ms_seq mB_210 mO_210 [(.iinc 3 8, 3)] (pc' := 1084) (L' := [.ref 0, .ref 2, .ref 48, .int (l3 + 8)]) (st' := []) ⟨dL_law_1081, trivial⟩ rfl ?_
        refine ms_goto mB_210 dL_law_1084 (t := 18) rfl ?_
        exact F
      · have F := F.2 c
        refine ms_seq mB_210 mO_210 [(.iconst 0, 1)] (pc' := 566) (L' := [.ref 0, .ref 2, .ref 48, .int l3]) (st' := [.int 0]) ⟨dL_law_565, trivial⟩ rfl ?_
        exact ms_zret mB_210 dL_law_566 mR_210 (by decide) ⟨_, rfl, rfl, F⟩
    have F := F.2
    by_cases n11 : ((δ.2.1 0 (Int32.toNatClampNeg l3)) &&& 31) = 11
    · refine ms_pure mB_210 mO_210 (pc' := 567) (L' := [.ref 0, .ref 2, .ref 48, .int l3]) (st' := []) dL_law_33 (by rw [n11]; rfl) ?_
      have F := F.1 n11
      refine ms_seq mB_210 mO_210 [(.aload_n 1, 1)] (pc' := 568) (L' := [.ref 0, .ref 2, .ref 48, .int l3]) (st' := [.ref 2]) ⟨dL_law_567, trivial⟩ rfl ?_
      refine ms_callvI mB_210 mO_210 (by omega) dL_law_568 mQ_13_66 mC_13_66 mL_124 mO_124 rfl (Nat.le_of_ble_eq_true rfl) (Nat.le_of_ble_eq_true rfl) (gk_2 N) rfl F (fun r38 δ37 F => ?_)
      refine ms_seq mB_210 mO_210 [(.aload_n 2, 1)] (pc' := 572) (L' := [.ref 0, .ref 2, .ref 48, .int l3]) (st' := [.ref 48, .int r38]) ⟨dL_law_571, trivial⟩ rfl ?_
      refine ms_callvI mB_210 mO_210 (by omega) dL_law_572 mQ_13_69 mC_13_69 mL_181 mO_181 rfl (Nat.le_of_ble_eq_true rfl) (Nat.le_of_ble_eq_true rfl) (gk_48 N) rfl F (fun r40 δ39 F => ?_)
      refine ms_icmp_eq mB_210 dL_law_575 (t := 1081) rfl (fun c => ?_) (fun c => ?_)
      · have F := F.1 c
        refine ms_seq mB_210 mO_210 [(.iinc 3 8, 3)] (pc' := 1084) (L' := [.ref 0, .ref 2, .ref 48, .int (l3 + 8)]) (st' := []) ⟨dL_law_1081, trivial⟩ rfl ?_
        refine ms_goto mB_210 dL_law_1084 (t := 18) rfl ?_
        exact F
      · have F := F.2 c
        refine ms_seq mB_210 mO_210 [(.iconst 0, 1)] (pc' := 579) (L' := [.ref 0, .ref 2, .ref 48, .int l3]) (st' := [.int 0]) ⟨dL_law_578, trivial⟩ rfl ?_
        exact ms_zret mB_210 dL_law_579 mR_210 (by decide) ⟨_, rfl, rfl, F⟩
    have F := F.2
    by_cases n12 : ((δ.2.1 0 (Int32.toNatClampNeg l3)) &&& 31) = 12
    · refine ms_pure mB_210 mO_210 (pc' := 580) (L' := [.ref 0, .ref 2, .ref 48, .int l3]) (st' := []) dL_law_33 (by rw [n12]; rfl) ?_
      have F := F.1 n12
      refine ms_seq mB_210 mO_210 [(.aload_n 1, 1), (.aload_n 0, 1), (.iload_n 3, 1), (.iconst 1, 1), (.iadd, 1)] (pc' := 585) (L' := [.ref 0, .ref 2, .ref 48, .int l3]) (st' := [.int (l3 + 1), .ref 0, .ref 2]) ⟨dL_law_580, dL_law_581, dL_law_582, dL_law_583, dL_law_584, trivial⟩ rfl ?_
      have G := F.1
      have F := F.2
      refine ms_iald mB_210 dL_law_585 (Or.inr (gk_0 N)) (by rw [gl_0 N]; exact G) ?_
      refine ms_seq mB_210 mO_210 [(.aload_n 0, 1), (.iload_n 3, 1), (.iconst 2, 1), (.iadd, 1)] (pc' := 590) (L' := [.ref 0, .ref 2, .ref 48, .int l3]) (st' := [.int (l3 + 2), .ref 0, .int (δ.2.1 0 (Int32.toNatClampNeg (l3 + 1))), .ref 2]) ⟨dL_law_586, dL_law_587, dL_law_588, dL_law_589, trivial⟩ rfl ?_
      have G := F.1
      have F := F.2
      refine ms_iald mB_210 dL_law_590 (Or.inr (gk_0 N)) (by rw [gl_0 N]; exact G) ?_
      refine ms_callvI mB_210 mO_210 (by omega) dL_law_591 mQ_13_70 mC_13_70 mL_125 mO_125 rfl (Nat.le_of_ble_eq_true rfl) (Nat.le_of_ble_eq_true rfl) (gk_2 N) rfl F (fun r42 δ41 F => ?_)
      refine ms_seq mB_210 mO_210 [(.aload_n 2, 1), (.aload_n 0, 1), (.iload_n 3, 1), (.iconst 1, 1), (.iadd, 1)] (pc' := 599) (L' := [.ref 0, .ref 2, .ref 48, .int l3]) (st' := [.int (l3 + 1), .ref 0, .ref 48, .int r42]) ⟨dL_law_594, dL_law_595, dL_law_596, dL_law_597, dL_law_598, trivial⟩ rfl ?_
      have G := F.1
      have F := F.2
      refine ms_iald mB_210 dL_law_599 (Or.inr (gk_0 N)) (by rw [gl_0 N]; exact G) ?_
      refine ms_seq mB_210 mO_210 [(.aload_n 0, 1), (.iload_n 3, 1), (.iconst 2, 1), (.iadd, 1)] (pc' := 604) (L' := [.ref 0, .ref 2, .ref 48, .int l3]) (st' := [.int (l3 + 2), .ref 0, .int (δ41.2.1 0 (Int32.toNatClampNeg (l3 + 1))), .ref 48, .int r42]) ⟨dL_law_600, dL_law_601, dL_law_602, dL_law_603, trivial⟩ rfl ?_
      have G := F.1
      have F := F.2
      refine ms_iald mB_210 dL_law_604 (Or.inr (gk_0 N)) (by rw [gl_0 N]; exact G) ?_
      refine ms_callvI mB_210 mO_210 (by omega) dL_law_605 mQ_13_73 mC_13_73 mL_182 mO_182 rfl (Nat.le_of_ble_eq_true rfl) (Nat.le_of_ble_eq_true rfl) (gk_48 N) rfl F (fun r44 δ43 F => ?_)
      refine ms_icmp_eq mB_210 dL_law_608 (t := 1081) rfl (fun c => ?_) (fun c => ?_)
      · have F := F.1 c
        refine ms_seq mB_210 mO_210 [(.iinc 3 8, 3)] (pc' := 1084) (L' := [.ref 0, .ref 2, .ref 48, .int (l3 + 8)]) (st' := []) ⟨dL_law_1081, trivial⟩ rfl ?_
        refine ms_goto mB_210 dL_law_1084 (t := 18) rfl ?_
        exact F
      · have F := F.2 c
        refine ms_seq mB_210 mO_210 [(.iconst 0, 1)] (pc' := 612) (L' := [.ref 0, .ref 2, .ref 48, .int l3]) (st' := [.int 0]) ⟨dL_law_611, trivial⟩ rfl ?_
        exact ms_zret mB_210 dL_law_612 mR_210 (by decide) ⟨_, rfl, rfl, F⟩
    have F := F.2
    by_cases n13 : ((δ.2.1 0 (Int32.toNatClampNeg l3)) &&& 31) = 13
    · refine ms_pure mB_210 mO_210 (pc' := 613) (L' := [.ref 0, .ref 2, .ref 48, .int l3]) (st' := []) dL_law_33 (by rw [n13]; rfl) ?_
      have F := F.1 n13
      refine ms_seq mB_210 mO_210 [(.aload_n 1, 1)] (pc' := 614) (L' := [.ref 0, .ref 2, .ref 48, .int l3]) (st' := [.ref 2]) ⟨dL_law_613, trivial⟩ rfl ?_
      refine ms_callvI mB_210 mO_210 (by omega) dL_law_614 mQ_13_74 mC_13_74 mL_126 mO_126 rfl (Nat.le_of_ble_eq_true rfl) (Nat.le_of_ble_eq_true rfl) (gk_2 N) rfl F (fun r46 δ45 F => ?_)
      refine ms_seq mB_210 mO_210 [(.aload_n 2, 1)] (pc' := 618) (L' := [.ref 0, .ref 2, .ref 48, .int l3]) (st' := [.ref 48, .int r46]) ⟨dL_law_617, trivial⟩ rfl ?_
      refine ms_callvI mB_210 mO_210 (by omega) dL_law_618 mQ_13_77 mC_13_77 mL_190 mO_190 rfl (Nat.le_of_ble_eq_true rfl) (Nat.le_of_ble_eq_true rfl) (gk_48 N) rfl F (fun r48 δ47 F => ?_)
      refine ms_icmp_eq mB_210 dL_law_621 (t := 1081) rfl (fun c => ?_) (fun c => ?_)
      · have F := F.1 c
        refine ms_seq mB_210 mO_210 [(.iinc 3 8, 3)] (pc' := 1084) (L' := [.ref 0, .ref 2, .ref 48, .int (l3 + 8)]) (st' := []) ⟨dL_law_1081, trivial⟩ rfl ?_
        refine ms_goto mB_210 dL_law_1084 (t := 18) rfl ?_
        exact F
      · have F := F.2 c
        refine ms_seq mB_210 mO_210 [(.iconst 0, 1)] (pc' := 625) (L' := [.ref 0, .ref 2, .ref 48, .int l3]) (st' := [.int 0]) ⟨dL_law_624, trivial⟩ rfl ?_
        exact ms_zret mB_210 dL_law_625 mR_210 (by decide) ⟨_, rfl, rfl, F⟩
    have F := F.2
    by_cases n14 : ((δ.2.1 0 (Int32.toNatClampNeg l3)) &&& 31) = 14
    · refine ms_pure mB_210 mO_210 (pc' := 626) (L' := [.ref 0, .ref 2, .ref 48, .int l3]) (st' := []) dL_law_33 (by rw [n14]; rfl) ?_
      have F := F.1 n14
      refine ms_seq mB_210 mO_210 [(.aload_n 1, 1), (.aload_n 0, 1), (.iload_n 3, 1), (.iconst 1, 1), (.iadd, 1)] (pc' := 631) (L' := [.ref 0, .ref 2, .ref 48, .int l3]) (st' := [.int (l3 + 1), .ref 0, .ref 2]) ⟨dL_law_626, dL_law_627, dL_law_628, dL_law_629, dL_law_630, trivial⟩ rfl ?_
      have G := F.1
      have F := F.2
      refine ms_iald mB_210 dL_law_631 (Or.inr (gk_0 N)) (by rw [gl_0 N]; exact G) ?_
      refine ms_callvI mB_210 mO_210 (by omega) dL_law_632 mQ_13_78 mC_13_78 mL_127 mO_127 rfl (Nat.le_of_ble_eq_true rfl) (Nat.le_of_ble_eq_true rfl) (gk_2 N) rfl F (fun r50 δ49 F => ?_)
      refine ms_seq mB_210 mO_210 [(.aload_n 2, 1), (.aload_n 0, 1), (.iload_n 3, 1), (.iconst 1, 1), (.iadd, 1)] (pc' := 640) (L' := [.ref 0, .ref 2, .ref 48, .int l3]) (st' := [.int (l3 + 1), .ref 0, .ref 48, .int r50]) ⟨dL_law_635, dL_law_636, dL_law_637, dL_law_638, dL_law_639, trivial⟩ rfl ?_
      have G := F.1
      have F := F.2
      refine ms_iald mB_210 dL_law_640 (Or.inr (gk_0 N)) (by rw [gl_0 N]; exact G) ?_
      refine ms_callvI mB_210 mO_210 (by omega) dL_law_641 mQ_13_81 mC_13_81 mL_191 mO_191 rfl (Nat.le_of_ble_eq_true rfl) (Nat.le_of_ble_eq_true rfl) (gk_48 N) rfl F (fun r52 δ51 F => ?_)
      refine ms_icmp_eq mB_210 dL_law_644 (t := 1081) rfl (fun c => ?_) (fun c => ?_)
      · have F := F.1 c
        refine ms_seq mB_210 mO_210 [(.iinc 3 8, 3)] (pc' := 1084) (L' := [.ref 0, .ref 2, .ref 48, .int (l3 + 8)]) (st' := []) ⟨dL_law_1081, trivial⟩ rfl ?_
        refine ms_goto mB_210 dL_law_1084 (t := 18) rfl ?_
        exact F
      · have F := F.2 c
        refine ms_seq mB_210 mO_210 [(.iconst 0, 1)] (pc' := 648) (L' := [.ref 0, .ref 2, .ref 48, .int l3]) (st' := [.int 0]) ⟨dL_law_647, trivial⟩ rfl ?_
        exact ms_zret mB_210 dL_law_648 mR_210 (by decide) ⟨_, rfl, rfl, F⟩
    have F := F.2
    by_cases n15 : ((δ.2.1 0 (Int32.toNatClampNeg l3)) &&& 31) = 15
    · refine ms_pure mB_210 mO_210 (pc' := 649) (L' := [.ref 0, .ref 2, .ref 48, .int l3]) (st' := []) dL_law_33 (by rw [n15]; rfl) ?_
      have F := F.1 n15
      refine ms_seq mB_210 mO_210 [(.aload_n 1, 1), (.aload_n 0, 1), (.iload_n 3, 1), (.iconst 1, 1), (.iadd, 1)] (pc' := 654) (L' := [.ref 0, .ref 2, .ref 48, .int l3]) (st' := [.int (l3 + 1), .ref 0, .ref 2]) ⟨dL_law_649, dL_law_650, dL_law_651, dL_law_652, dL_law_653, trivial⟩ rfl ?_
      have G := F.1
      have F := F.2
      refine ms_iald mB_210 dL_law_654 (Or.inr (gk_0 N)) (by rw [gl_0 N]; exact G) ?_
      refine ms_seq mB_210 mO_210 [(.aload_n 0, 1), (.iload_n 3, 1), (.iconst 2, 1), (.iadd, 1)] (pc' := 659) (L' := [.ref 0, .ref 2, .ref 48, .int l3]) (st' := [.int (l3 + 2), .ref 0, .int (δ.2.1 0 (Int32.toNatClampNeg (l3 + 1))), .ref 2]) ⟨dL_law_655, dL_law_656, dL_law_657, dL_law_658, trivial⟩ rfl ?_
      have G := F.1
      have F := F.2
      refine ms_iald mB_210 dL_law_659 (Or.inr (gk_0 N)) (by rw [gl_0 N]; exact G) ?_
      refine ms_callvI mB_210 mO_210 (by omega) dL_law_660 mQ_13_82 mC_13_82 mL_128 mO_128 rfl (Nat.le_of_ble_eq_true rfl) (Nat.le_of_ble_eq_true rfl) (gk_2 N) rfl F (fun r54 δ53 F => ?_)
      refine ms_seq mB_210 mO_210 [(.aload_n 2, 1), (.aload_n 0, 1), (.iload_n 3, 1), (.iconst 1, 1), (.iadd, 1)] (pc' := 668) (L' := [.ref 0, .ref 2, .ref 48, .int l3]) (st' := [.int (l3 + 1), .ref 0, .ref 48, .int r54]) ⟨dL_law_663, dL_law_664, dL_law_665, dL_law_666, dL_law_667, trivial⟩ rfl ?_
      have G := F.1
      have F := F.2
      refine ms_iald mB_210 dL_law_668 (Or.inr (gk_0 N)) (by rw [gl_0 N]; exact G) ?_
      refine ms_seq mB_210 mO_210 [(.aload_n 0, 1), (.iload_n 3, 1), (.iconst 2, 1), (.iadd, 1)] (pc' := 673) (L' := [.ref 0, .ref 2, .ref 48, .int l3]) (st' := [.int (l3 + 2), .ref 0, .int (δ53.2.1 0 (Int32.toNatClampNeg (l3 + 1))), .ref 48, .int r54]) ⟨dL_law_669, dL_law_670, dL_law_671, dL_law_672, trivial⟩ rfl ?_
      have G := F.1
      have F := F.2
      refine ms_iald mB_210 dL_law_673 (Or.inr (gk_0 N)) (by rw [gl_0 N]; exact G) ?_
      refine ms_callvI mB_210 mO_210 (by omega) dL_law_674 mQ_13_85 mC_13_85 mL_192 mO_192 rfl (Nat.le_of_ble_eq_true rfl) (Nat.le_of_ble_eq_true rfl) (gk_48 N) rfl F (fun r56 δ55 F => ?_)
      refine ms_icmp_eq mB_210 dL_law_677 (t := 1081) rfl (fun c => ?_) (fun c => ?_)
      · have F := F.1 c
        refine ms_seq mB_210 mO_210 [(.iinc 3 8, 3)] (pc' := 1084) (L' := [.ref 0, .ref 2, .ref 48, .int (l3 + 8)]) (st' := []) ⟨dL_law_1081, trivial⟩ rfl ?_
        refine ms_goto mB_210 dL_law_1084 (t := 18) rfl ?_
        exact F
      · have F := F.2 c
        refine ms_seq mB_210 mO_210 [(.iconst 0, 1)] (pc' := 681) (L' := [.ref 0, .ref 2, .ref 48, .int l3]) (st' := [.int 0]) ⟨dL_law_680, trivial⟩ rfl ?_
        exact ms_zret mB_210 dL_law_681 mR_210 (by decide) ⟨_, rfl, rfl, F⟩
    have F := F.2
    by_cases n16 : ((δ.2.1 0 (Int32.toNatClampNeg l3)) &&& 31) = 16
    · refine ms_pure mB_210 mO_210 (pc' := 682) (L' := [.ref 0, .ref 2, .ref 48, .int l3]) (st' := []) dL_law_33 (by rw [n16]; rfl) ?_
      have F := F.1 n16
      refine ms_seq mB_210 mO_210 [(.aload_n 1, 1), (.aload_n 0, 1), (.iload_n 3, 1), (.iconst 1, 1), (.iadd, 1)] (pc' := 687) (L' := [.ref 0, .ref 2, .ref 48, .int l3]) (st' := [.int (l3 + 1), .ref 0, .ref 2]) ⟨dL_law_682, dL_law_683, dL_law_684, dL_law_685, dL_law_686, trivial⟩ rfl ?_
      have G := F.1
      have F := F.2
      refine ms_iald mB_210 dL_law_687 (Or.inr (gk_0 N)) (by rw [gl_0 N]; exact G) ?_
      refine ms_callvL mB_210 mO_210 (by omega) dL_law_688 mQ_13_86 mC_13_86 mL_129 mO_129 rfl (Nat.le_of_ble_eq_true rfl) (Nat.le_of_ble_eq_true rfl) (gk_2 N) rfl F (fun r58 δ57 F => ?_)
      refine ms_seq mB_210 mO_210 [(.aload_n 2, 1), (.aload_n 0, 1), (.iload_n 3, 1), (.iconst 1, 1), (.iadd, 1)] (pc' := 696) (L' := [.ref 0, .ref 2, .ref 48, .int l3]) (st' := [.int (l3 + 1), .ref 0, .ref 48, .long r58]) ⟨dL_law_691, dL_law_692, dL_law_693, dL_law_694, dL_law_695, trivial⟩ rfl ?_
      have G := F.1
      have F := F.2
      refine ms_iald mB_210 dL_law_696 (Or.inr (gk_0 N)) (by rw [gl_0 N]; exact G) ?_
      refine ms_callvL mB_210 mO_210 (by omega) dL_law_697 mQ_13_90 mC_13_90 mL_195 mO_195 rfl (Nat.le_of_ble_eq_true rfl) (Nat.le_of_ble_eq_true rfl) (gk_48 N) rfl F (fun r60 δ59 F => ?_)
      refine ms_seq mB_210 mO_210 [(.lcmp, 1)] (pc' := 701) (L' := [.ref 0, .ref 2, .ref 48, .int l3]) (st' := [.int (lg_cmp r58 r60)]) ⟨dL_law_700, trivial⟩ rfl ?_
      refine ms_if_eq mB_210 dL_law_701 (t := 1081) rfl (fun c => ?_) (fun c => ?_)
      · have F := F.1 c
        refine ms_seq mB_210 mO_210 [(.iinc 3 8, 3)] (pc' := 1084) (L' := [.ref 0, .ref 2, .ref 48, .int (l3 + 8)]) (st' := []) ⟨dL_law_1081, trivial⟩ rfl ?_
        refine ms_goto mB_210 dL_law_1084 (t := 18) rfl ?_
        exact F
      · have F := F.2 c
        refine ms_seq mB_210 mO_210 [(.iconst 0, 1)] (pc' := 705) (L' := [.ref 0, .ref 2, .ref 48, .int l3]) (st' := [.int 0]) ⟨dL_law_704, trivial⟩ rfl ?_
        exact ms_zret mB_210 dL_law_705 mR_210 (by decide) ⟨_, rfl, rfl, F⟩
    have F := F.2
    by_cases n17 : ((δ.2.1 0 (Int32.toNatClampNeg l3)) &&& 31) = 17
    · refine ms_pure mB_210 mO_210 (pc' := 706) (L' := [.ref 0, .ref 2, .ref 48, .int l3]) (st' := []) dL_law_33 (by rw [n17]; rfl) ?_
      have F := F.1 n17
      refine ms_seq mB_210 mO_210 [(.aload_n 1, 1), (.aload_n 0, 1), (.iload_n 3, 1), (.iconst 1, 1), (.iadd, 1)] (pc' := 711) (L' := [.ref 0, .ref 2, .ref 48, .int l3]) (st' := [.int (l3 + 1), .ref 0, .ref 2]) ⟨dL_law_706, dL_law_707, dL_law_708, dL_law_709, dL_law_710, trivial⟩ rfl ?_
      have G := F.1
      have F := F.2
      refine ms_iald mB_210 dL_law_711 (Or.inr (gk_0 N)) (by rw [gl_0 N]; exact G) ?_
      refine ms_seq mB_210 mO_210 [(.aload_n 0, 1), (.iload_n 3, 1), (.iconst 2, 1), (.iadd, 1)] (pc' := 716) (L' := [.ref 0, .ref 2, .ref 48, .int l3]) (st' := [.int (l3 + 2), .ref 0, .int (δ.2.1 0 (Int32.toNatClampNeg (l3 + 1))), .ref 2]) ⟨dL_law_712, dL_law_713, dL_law_714, dL_law_715, trivial⟩ rfl ?_
      have G := F.1
      have F := F.2
      refine ms_iald mB_210 dL_law_716 (Or.inr (gk_0 N)) (by rw [gl_0 N]; exact G) ?_
      refine ms_seq mB_210 mO_210 [(.aload_n 0, 1), (.iload_n 3, 1), (.iconst 3, 1), (.iadd, 1)] (pc' := 721) (L' := [.ref 0, .ref 2, .ref 48, .int l3]) (st' := [.int (l3 + 3), .ref 0, .int (δ.2.1 0 (Int32.toNatClampNeg (l3 + 2))), .int (δ.2.1 0 (Int32.toNatClampNeg (l3 + 1))), .ref 2]) ⟨dL_law_717, dL_law_718, dL_law_719, dL_law_720, trivial⟩ rfl ?_
      have G := F.1
      have F := F.2
      refine ms_iald mB_210 dL_law_721 (Or.inr (gk_0 N)) (by rw [gl_0 N]; exact G) ?_
      refine ms_callvL mB_210 mO_210 (by omega) dL_law_722 mQ_13_91 mC_13_91 mL_130 mO_130 rfl (Nat.le_of_ble_eq_true rfl) (Nat.le_of_ble_eq_true rfl) (gk_2 N) rfl F (fun r62 δ61 F => ?_)
      refine ms_seq mB_210 mO_210 [(.aload_n 2, 1), (.aload_n 0, 1), (.iload_n 3, 1), (.iconst 1, 1), (.iadd, 1)] (pc' := 730) (L' := [.ref 0, .ref 2, .ref 48, .int l3]) (st' := [.int (l3 + 1), .ref 0, .ref 48, .long r62]) ⟨dL_law_725, dL_law_726, dL_law_727, dL_law_728, dL_law_729, trivial⟩ rfl ?_
      have G := F.1
      have F := F.2
      refine ms_iald mB_210 dL_law_730 (Or.inr (gk_0 N)) (by rw [gl_0 N]; exact G) ?_
      refine ms_seq mB_210 mO_210 [(.aload_n 0, 1), (.iload_n 3, 1), (.iconst 2, 1), (.iadd, 1)] (pc' := 735) (L' := [.ref 0, .ref 2, .ref 48, .int l3]) (st' := [.int (l3 + 2), .ref 0, .int (δ61.2.1 0 (Int32.toNatClampNeg (l3 + 1))), .ref 48, .long r62]) ⟨dL_law_731, dL_law_732, dL_law_733, dL_law_734, trivial⟩ rfl ?_
      have G := F.1
      have F := F.2
      refine ms_iald mB_210 dL_law_735 (Or.inr (gk_0 N)) (by rw [gl_0 N]; exact G) ?_
      refine ms_seq mB_210 mO_210 [(.aload_n 0, 1), (.iload_n 3, 1), (.iconst 3, 1), (.iadd, 1)] (pc' := 740) (L' := [.ref 0, .ref 2, .ref 48, .int l3]) (st' := [.int (l3 + 3), .ref 0, .int (δ61.2.1 0 (Int32.toNatClampNeg (l3 + 2))), .int (δ61.2.1 0 (Int32.toNatClampNeg (l3 + 1))), .ref 48, .long r62]) ⟨dL_law_736, dL_law_737, dL_law_738, dL_law_739, trivial⟩ rfl ?_
      have G := F.1
      have F := F.2
      refine ms_iald mB_210 dL_law_740 (Or.inr (gk_0 N)) (by rw [gl_0 N]; exact G) ?_
      refine ms_callvL mB_210 mO_210 (by omega) dL_law_741 mQ_13_95 mC_13_95 mL_196 mO_196 rfl (Nat.le_of_ble_eq_true rfl) (Nat.le_of_ble_eq_true rfl) (gk_48 N) rfl F (fun r64 δ63 F => ?_)
      refine ms_seq mB_210 mO_210 [(.lcmp, 1)] (pc' := 745) (L' := [.ref 0, .ref 2, .ref 48, .int l3]) (st' := [.int (lg_cmp r62 r64)]) ⟨dL_law_744, trivial⟩ rfl ?_
      refine ms_if_eq mB_210 dL_law_745 (t := 1081) rfl (fun c => ?_) (fun c => ?_)
      · have F := F.1 c
        refine ms_seq mB_210 mO_210 [(.iinc 3 8, 3)] (pc' := 1084) (L' := [.ref 0, .ref 2, .ref 48, .int (l3 + 8)]) (st' := []) ⟨dL_law_1081, trivial⟩ rfl ?_
        refine ms_goto mB_210 dL_law_1084 (t := 18) rfl ?_
        exact F
      · have F := F.2 c
        refine ms_seq mB_210 mO_210 [(.iconst 0, 1)] (pc' := 749) (L' := [.ref 0, .ref 2, .ref 48, .int l3]) (st' := [.int 0]) ⟨dL_law_748, trivial⟩ rfl ?_
        exact ms_zret mB_210 dL_law_749 mR_210 (by decide) ⟨_, rfl, rfl, F⟩
    have F := F.2
    by_cases n18 : ((δ.2.1 0 (Int32.toNatClampNeg l3)) &&& 31) = 18
    · refine ms_pure mB_210 mO_210 (pc' := 750) (L' := [.ref 0, .ref 2, .ref 48, .int l3]) (st' := []) dL_law_33 (by rw [n18]; rfl) ?_
      have F := F.1 n18
      refine ms_seq mB_210 mO_210 [(.aload_n 1, 1), (.aload_n 0, 1), (.iload_n 3, 1), (.iconst 1, 1), (.iadd, 1)] (pc' := 755) (L' := [.ref 0, .ref 2, .ref 48, .int l3]) (st' := [.int (l3 + 1), .ref 0, .ref 2]) ⟨dL_law_750, dL_law_751, dL_law_752, dL_law_753, dL_law_754, trivial⟩ rfl ?_
      have G := F.1
      have F := F.2
      refine ms_iald mB_210 dL_law_755 (Or.inr (gk_0 N)) (by rw [gl_0 N]; exact G) ?_
      refine ms_seq mB_210 mO_210 [(.aload_n 0, 1), (.iload_n 3, 1), (.iconst 2, 1), (.iadd, 1)] (pc' := 760) (L' := [.ref 0, .ref 2, .ref 48, .int l3]) (st' := [.int (l3 + 2), .ref 0, .int (δ.2.1 0 (Int32.toNatClampNeg (l3 + 1))), .ref 2]) ⟨dL_law_756, dL_law_757, dL_law_758, dL_law_759, trivial⟩ rfl ?_
      have G := F.1
      have F := F.2
      refine ms_iald mB_210 dL_law_760 (Or.inr (gk_0 N)) (by rw [gl_0 N]; exact G) ?_
      refine ms_callvI mB_210 mO_210 (by omega) dL_law_761 mQ_13_96 mC_13_96 mL_131 mO_131 rfl (Nat.le_of_ble_eq_true rfl) (Nat.le_of_ble_eq_true rfl) (gk_2 N) rfl F (fun r66 δ65 F => ?_)
      refine ms_seq mB_210 mO_210 [(.aload_n 2, 1), (.aload_n 0, 1), (.iload_n 3, 1), (.iconst 1, 1), (.iadd, 1)] (pc' := 769) (L' := [.ref 0, .ref 2, .ref 48, .int l3]) (st' := [.int (l3 + 1), .ref 0, .ref 48, .int r66]) ⟨dL_law_764, dL_law_765, dL_law_766, dL_law_767, dL_law_768, trivial⟩ rfl ?_
      have G := F.1
      have F := F.2
      refine ms_iald mB_210 dL_law_769 (Or.inr (gk_0 N)) (by rw [gl_0 N]; exact G) ?_
      refine ms_seq mB_210 mO_210 [(.aload_n 0, 1), (.iload_n 3, 1), (.iconst 2, 1), (.iadd, 1)] (pc' := 774) (L' := [.ref 0, .ref 2, .ref 48, .int l3]) (st' := [.int (l3 + 2), .ref 0, .int (δ65.2.1 0 (Int32.toNatClampNeg (l3 + 1))), .ref 48, .int r66]) ⟨dL_law_770, dL_law_771, dL_law_772, dL_law_773, trivial⟩ rfl ?_
      have G := F.1
      have F := F.2
      refine ms_iald mB_210 dL_law_774 (Or.inr (gk_0 N)) (by rw [gl_0 N]; exact G) ?_
      refine ms_callvI mB_210 mO_210 (by omega) dL_law_775 mQ_13_99 mC_13_99 mL_197 mO_197 rfl (Nat.le_of_ble_eq_true rfl) (Nat.le_of_ble_eq_true rfl) (gk_48 N) rfl F (fun r68 δ67 F => ?_)
      refine ms_icmp_eq mB_210 dL_law_778 (t := 1081) rfl (fun c => ?_) (fun c => ?_)
      · have F := F.1 c
        refine ms_seq mB_210 mO_210 [(.iinc 3 8, 3)] (pc' := 1084) (L' := [.ref 0, .ref 2, .ref 48, .int (l3 + 8)]) (st' := []) ⟨dL_law_1081, trivial⟩ rfl ?_
        refine ms_goto mB_210 dL_law_1084 (t := 18) rfl ?_
        exact F
      · have F := F.2 c
        refine ms_seq mB_210 mO_210 [(.iconst 0, 1)] (pc' := 782) (L' := [.ref 0, .ref 2, .ref 48, .int l3]) (st' := [.int 0]) ⟨dL_law_781, trivial⟩ rfl ?_
        exact ms_zret mB_210 dL_law_782 mR_210 (by decide) ⟨_, rfl, rfl, F⟩
    have F := F.2
    by_cases n19 : ((δ.2.1 0 (Int32.toNatClampNeg l3)) &&& 31) = 19
    · refine ms_pure mB_210 mO_210 (pc' := 783) (L' := [.ref 0, .ref 2, .ref 48, .int l3]) (st' := []) dL_law_33 (by rw [n19]; rfl) ?_
      have F := F.1 n19
      refine ms_seq mB_210 mO_210 [(.aload_n 1, 1), (.aload_n 0, 1), (.iload_n 3, 1), (.iconst 1, 1), (.iadd, 1)] (pc' := 788) (L' := [.ref 0, .ref 2, .ref 48, .int l3]) (st' := [.int (l3 + 1), .ref 0, .ref 2]) ⟨dL_law_783, dL_law_784, dL_law_785, dL_law_786, dL_law_787, trivial⟩ rfl ?_
      have G := F.1
      have F := F.2
      refine ms_iald mB_210 dL_law_788 (Or.inr (gk_0 N)) (by rw [gl_0 N]; exact G) ?_
      refine ms_seq mB_210 mO_210 [(.aload_n 0, 1), (.iload_n 3, 1), (.iconst 2, 1), (.iadd, 1)] (pc' := 793) (L' := [.ref 0, .ref 2, .ref 48, .int l3]) (st' := [.int (l3 + 2), .ref 0, .int (δ.2.1 0 (Int32.toNatClampNeg (l3 + 1))), .ref 2]) ⟨dL_law_789, dL_law_790, dL_law_791, dL_law_792, trivial⟩ rfl ?_
      have G := F.1
      have F := F.2
      refine ms_iald mB_210 dL_law_793 (Or.inr (gk_0 N)) (by rw [gl_0 N]; exact G) ?_
      refine ms_seq mB_210 mO_210 [(.aload_n 0, 1), (.iload_n 3, 1), (.iconst 3, 1), (.iadd, 1)] (pc' := 798) (L' := [.ref 0, .ref 2, .ref 48, .int l3]) (st' := [.int (l3 + 3), .ref 0, .int (δ.2.1 0 (Int32.toNatClampNeg (l3 + 2))), .int (δ.2.1 0 (Int32.toNatClampNeg (l3 + 1))), .ref 2]) ⟨dL_law_794, dL_law_795, dL_law_796, dL_law_797, trivial⟩ rfl ?_
      have G := F.1
      have F := F.2
      refine ms_iald mB_210 dL_law_798 (Or.inr (gk_0 N)) (by rw [gl_0 N]; exact G) ?_
      refine ms_callvL mB_210 mO_210 (by omega) dL_law_799 mQ_13_100 mC_13_100 mL_132 mO_132 rfl (Nat.le_of_ble_eq_true rfl) (Nat.le_of_ble_eq_true rfl) (gk_2 N) rfl F (fun r70 δ69 F => ?_)
      refine ms_seq mB_210 mO_210 [(.aload_n 2, 1), (.aload_n 0, 1), (.iload_n 3, 1), (.iconst 1, 1), (.iadd, 1)] (pc' := 807) (L' := [.ref 0, .ref 2, .ref 48, .int l3]) (st' := [.int (l3 + 1), .ref 0, .ref 48, .long r70]) ⟨dL_law_802, dL_law_803, dL_law_804, dL_law_805, dL_law_806, trivial⟩ rfl ?_
      have G := F.1
      have F := F.2
      refine ms_iald mB_210 dL_law_807 (Or.inr (gk_0 N)) (by rw [gl_0 N]; exact G) ?_
      refine ms_seq mB_210 mO_210 [(.aload_n 0, 1), (.iload_n 3, 1), (.iconst 2, 1), (.iadd, 1)] (pc' := 812) (L' := [.ref 0, .ref 2, .ref 48, .int l3]) (st' := [.int (l3 + 2), .ref 0, .int (δ69.2.1 0 (Int32.toNatClampNeg (l3 + 1))), .ref 48, .long r70]) ⟨dL_law_808, dL_law_809, dL_law_810, dL_law_811, trivial⟩ rfl ?_
      have G := F.1
      have F := F.2
      refine ms_iald mB_210 dL_law_812 (Or.inr (gk_0 N)) (by rw [gl_0 N]; exact G) ?_
      refine ms_seq mB_210 mO_210 [(.aload_n 0, 1), (.iload_n 3, 1), (.iconst 3, 1), (.iadd, 1)] (pc' := 817) (L' := [.ref 0, .ref 2, .ref 48, .int l3]) (st' := [.int (l3 + 3), .ref 0, .int (δ69.2.1 0 (Int32.toNatClampNeg (l3 + 2))), .int (δ69.2.1 0 (Int32.toNatClampNeg (l3 + 1))), .ref 48, .long r70]) ⟨dL_law_813, dL_law_814, dL_law_815, dL_law_816, trivial⟩ rfl ?_
      have G := F.1
      have F := F.2
      refine ms_iald mB_210 dL_law_817 (Or.inr (gk_0 N)) (by rw [gl_0 N]; exact G) ?_
      refine ms_callvL mB_210 mO_210 (by omega) dL_law_818 mQ_13_103 mC_13_103 mL_198 mO_198 rfl (Nat.le_of_ble_eq_true rfl) (Nat.le_of_ble_eq_true rfl) (gk_48 N) rfl F (fun r72 δ71 F => ?_)
      refine ms_seq mB_210 mO_210 [(.lcmp, 1)] (pc' := 822) (L' := [.ref 0, .ref 2, .ref 48, .int l3]) (st' := [.int (lg_cmp r70 r72)]) ⟨dL_law_821, trivial⟩ rfl ?_
      refine ms_if_eq mB_210 dL_law_822 (t := 1081) rfl (fun c => ?_) (fun c => ?_)
      · have F := F.1 c
        refine ms_seq mB_210 mO_210 [(.iinc 3 8, 3)] (pc' := 1084) (L' := [.ref 0, .ref 2, .ref 48, .int (l3 + 8)]) (st' := []) ⟨dL_law_1081, trivial⟩ rfl ?_
        refine ms_goto mB_210 dL_law_1084 (t := 18) rfl ?_
        exact F
      · have F := F.2 c
        refine ms_seq mB_210 mO_210 [(.iconst 0, 1)] (pc' := 826) (L' := [.ref 0, .ref 2, .ref 48, .int l3]) (st' := [.int 0]) ⟨dL_law_825, trivial⟩ rfl ?_
        exact ms_zret mB_210 dL_law_826 mR_210 (by decide) ⟨_, rfl, rfl, F⟩
    have F := F.2
    by_cases n20 : ((δ.2.1 0 (Int32.toNatClampNeg l3)) &&& 31) = 20
    · refine ms_pure mB_210 mO_210 (pc' := 827) (L' := [.ref 0, .ref 2, .ref 48, .int l3]) (st' := []) dL_law_33 (by rw [n20]; rfl) ?_
      have F := F.1 n20
      refine ms_seq mB_210 mO_210 [(.aload_n 1, 1), (.aload_n 0, 1), (.iload_n 3, 1), (.iconst 1, 1), (.iadd, 1)] (pc' := 832) (L' := [.ref 0, .ref 2, .ref 48, .int l3]) (st' := [.int (l3 + 1), .ref 0, .ref 2]) ⟨dL_law_827, dL_law_828, dL_law_829, dL_law_830, dL_law_831, trivial⟩ rfl ?_
      have G := F.1
      have F := F.2
      refine ms_iald mB_210 dL_law_832 (Or.inr (gk_0 N)) (by rw [gl_0 N]; exact G) ?_
      refine ms_seq mB_210 mO_210 [(.aload_n 0, 1), (.iload_n 3, 1), (.iconst 2, 1), (.iadd, 1)] (pc' := 837) (L' := [.ref 0, .ref 2, .ref 48, .int l3]) (st' := [.int (l3 + 2), .ref 0, .int (δ.2.1 0 (Int32.toNatClampNeg (l3 + 1))), .ref 2]) ⟨dL_law_833, dL_law_834, dL_law_835, dL_law_836, trivial⟩ rfl ?_
      have G := F.1
      have F := F.2
      refine ms_iald mB_210 dL_law_837 (Or.inr (gk_0 N)) (by rw [gl_0 N]; exact G) ?_
      refine ms_seq mB_210 mO_210 [(.aload_n 0, 1), (.iload_n 3, 1), (.iconst 3, 1), (.iadd, 1)] (pc' := 842) (L' := [.ref 0, .ref 2, .ref 48, .int l3]) (st' := [.int (l3 + 3), .ref 0, .int (δ.2.1 0 (Int32.toNatClampNeg (l3 + 2))), .int (δ.2.1 0 (Int32.toNatClampNeg (l3 + 1))), .ref 2]) ⟨dL_law_838, dL_law_839, dL_law_840, dL_law_841, trivial⟩ rfl ?_
      have G := F.1
      have F := F.2
      refine ms_iald mB_210 dL_law_842 (Or.inr (gk_0 N)) (by rw [gl_0 N]; exact G) ?_
      refine ms_callvL mB_210 mO_210 (by omega) dL_law_843 mQ_13_104 mC_13_104 mL_133 mO_133 rfl (Nat.le_of_ble_eq_true rfl) (Nat.le_of_ble_eq_true rfl) (gk_2 N) rfl F (fun r74 δ73 F => ?_)
      refine ms_seq mB_210 mO_210 [(.aload_n 2, 1), (.aload_n 0, 1), (.iload_n 3, 1), (.iconst 1, 1), (.iadd, 1)] (pc' := 851) (L' := [.ref 0, .ref 2, .ref 48, .int l3]) (st' := [.int (l3 + 1), .ref 0, .ref 48, .long r74]) ⟨dL_law_846, dL_law_847, dL_law_848, dL_law_849, dL_law_850, trivial⟩ rfl ?_
      have G := F.1
      have F := F.2
      refine ms_iald mB_210 dL_law_851 (Or.inr (gk_0 N)) (by rw [gl_0 N]; exact G) ?_
      refine ms_seq mB_210 mO_210 [(.aload_n 0, 1), (.iload_n 3, 1), (.iconst 2, 1), (.iadd, 1)] (pc' := 856) (L' := [.ref 0, .ref 2, .ref 48, .int l3]) (st' := [.int (l3 + 2), .ref 0, .int (δ73.2.1 0 (Int32.toNatClampNeg (l3 + 1))), .ref 48, .long r74]) ⟨dL_law_852, dL_law_853, dL_law_854, dL_law_855, trivial⟩ rfl ?_
      have G := F.1
      have F := F.2
      refine ms_iald mB_210 dL_law_856 (Or.inr (gk_0 N)) (by rw [gl_0 N]; exact G) ?_
      refine ms_seq mB_210 mO_210 [(.aload_n 0, 1), (.iload_n 3, 1), (.iconst 3, 1), (.iadd, 1)] (pc' := 861) (L' := [.ref 0, .ref 2, .ref 48, .int l3]) (st' := [.int (l3 + 3), .ref 0, .int (δ73.2.1 0 (Int32.toNatClampNeg (l3 + 2))), .int (δ73.2.1 0 (Int32.toNatClampNeg (l3 + 1))), .ref 48, .long r74]) ⟨dL_law_857, dL_law_858, dL_law_859, dL_law_860, trivial⟩ rfl ?_
      have G := F.1
      have F := F.2
      refine ms_iald mB_210 dL_law_861 (Or.inr (gk_0 N)) (by rw [gl_0 N]; exact G) ?_
      refine ms_callvL mB_210 mO_210 (by omega) dL_law_862 mQ_13_107 mC_13_107 mL_199 mO_199 rfl (Nat.le_of_ble_eq_true rfl) (Nat.le_of_ble_eq_true rfl) (gk_48 N) rfl F (fun r76 δ75 F => ?_)
      refine ms_seq mB_210 mO_210 [(.lcmp, 1)] (pc' := 866) (L' := [.ref 0, .ref 2, .ref 48, .int l3]) (st' := [.int (lg_cmp r74 r76)]) ⟨dL_law_865, trivial⟩ rfl ?_
      refine ms_if_eq mB_210 dL_law_866 (t := 1081) rfl (fun c => ?_) (fun c => ?_)
      · have F := F.1 c
        refine ms_seq mB_210 mO_210 [(.iinc 3 8, 3)] (pc' := 1084) (L' := [.ref 0, .ref 2, .ref 48, .int (l3 + 8)]) (st' := []) ⟨dL_law_1081, trivial⟩ rfl ?_
        refine ms_goto mB_210 dL_law_1084 (t := 18) rfl ?_
        exact F
      · have F := F.2 c
        refine ms_seq mB_210 mO_210 [(.iconst 0, 1)] (pc' := 870) (L' := [.ref 0, .ref 2, .ref 48, .int l3]) (st' := [.int 0]) ⟨dL_law_869, trivial⟩ rfl ?_
        exact ms_zret mB_210 dL_law_870 mR_210 (by decide) ⟨_, rfl, rfl, F⟩
    have F := F.2
    by_cases n21 : ((δ.2.1 0 (Int32.toNatClampNeg l3)) &&& 31) = 21
    · refine ms_pure mB_210 mO_210 (pc' := 871) (L' := [.ref 0, .ref 2, .ref 48, .int l3]) (st' := []) dL_law_33 (by rw [n21]; rfl) ?_
      have F := F.1 n21
      refine ms_seq mB_210 mO_210 [(.aload_n 1, 1), (.aload_n 0, 1), (.iload_n 3, 1), (.iconst 1, 1), (.iadd, 1)] (pc' := 876) (L' := [.ref 0, .ref 2, .ref 48, .int l3]) (st' := [.int (l3 + 1), .ref 0, .ref 2]) ⟨dL_law_871, dL_law_872, dL_law_873, dL_law_874, dL_law_875, trivial⟩ rfl ?_
      have G := F.1
      have F := F.2
      refine ms_iald mB_210 dL_law_876 (Or.inr (gk_0 N)) (by rw [gl_0 N]; exact G) ?_
      refine ms_seq mB_210 mO_210 [(.aload_n 0, 1), (.iload_n 3, 1), (.iconst 2, 1), (.iadd, 1)] (pc' := 881) (L' := [.ref 0, .ref 2, .ref 48, .int l3]) (st' := [.int (l3 + 2), .ref 0, .int (δ.2.1 0 (Int32.toNatClampNeg (l3 + 1))), .ref 2]) ⟨dL_law_877, dL_law_878, dL_law_879, dL_law_880, trivial⟩ rfl ?_
      have G := F.1
      have F := F.2
      refine ms_iald mB_210 dL_law_881 (Or.inr (gk_0 N)) (by rw [gl_0 N]; exact G) ?_
      refine ms_callvI mB_210 mO_210 (by omega) dL_law_882 mQ_13_108 mC_13_108 mL_134 mO_134 rfl (Nat.le_of_ble_eq_true rfl) (Nat.le_of_ble_eq_true rfl) (gk_2 N) rfl F (fun r78 δ77 F => ?_)
      refine ms_seq mB_210 mO_210 [(.aload_n 2, 1), (.aload_n 0, 1), (.iload_n 3, 1), (.iconst 1, 1), (.iadd, 1)] (pc' := 890) (L' := [.ref 0, .ref 2, .ref 48, .int l3]) (st' := [.int (l3 + 1), .ref 0, .ref 48, .int r78]) ⟨dL_law_885, dL_law_886, dL_law_887, dL_law_888, dL_law_889, trivial⟩ rfl ?_
      have G := F.1
      have F := F.2
      refine ms_iald mB_210 dL_law_890 (Or.inr (gk_0 N)) (by rw [gl_0 N]; exact G) ?_
      refine ms_seq mB_210 mO_210 [(.aload_n 0, 1), (.iload_n 3, 1), (.iconst 2, 1), (.iadd, 1)] (pc' := 895) (L' := [.ref 0, .ref 2, .ref 48, .int l3]) (st' := [.int (l3 + 2), .ref 0, .int (δ77.2.1 0 (Int32.toNatClampNeg (l3 + 1))), .ref 48, .int r78]) ⟨dL_law_891, dL_law_892, dL_law_893, dL_law_894, trivial⟩ rfl ?_
      have G := F.1
      have F := F.2
      refine ms_iald mB_210 dL_law_895 (Or.inr (gk_0 N)) (by rw [gl_0 N]; exact G) ?_
      refine ms_callvI mB_210 mO_210 (by omega) dL_law_896 mQ_13_111 mC_13_111 mL_200 mO_200 rfl (Nat.le_of_ble_eq_true rfl) (Nat.le_of_ble_eq_true rfl) (gk_48 N) rfl F (fun r80 δ79 F => ?_)
      refine ms_icmp_eq mB_210 dL_law_899 (t := 1081) rfl (fun c => ?_) (fun c => ?_)
      · have F := F.1 c
        refine ms_seq mB_210 mO_210 [(.iinc 3 8, 3)] (pc' := 1084) (L' := [.ref 0, .ref 2, .ref 48, .int (l3 + 8)]) (st' := []) ⟨dL_law_1081, trivial⟩ rfl ?_
        refine ms_goto mB_210 dL_law_1084 (t := 18) rfl ?_
        exact F
      · have F := F.2 c
        refine ms_seq mB_210 mO_210 [(.iconst 0, 1)] (pc' := 903) (L' := [.ref 0, .ref 2, .ref 48, .int l3]) (st' := [.int 0]) ⟨dL_law_902, trivial⟩ rfl ?_
        exact ms_zret mB_210 dL_law_903 mR_210 (by decide) ⟨_, rfl, rfl, F⟩
    have F := F.2
    by_cases n22 : ((δ.2.1 0 (Int32.toNatClampNeg l3)) &&& 31) = 22
    · refine ms_pure mB_210 mO_210 (pc' := 904) (L' := [.ref 0, .ref 2, .ref 48, .int l3]) (st' := []) dL_law_33 (by rw [n22]; rfl) ?_
      have F := F.1 n22
      refine ms_seq mB_210 mO_210 [(.aload_n 1, 1), (.aload_n 0, 1), (.iload_n 3, 1), (.iconst 1, 1), (.iadd, 1)] (pc' := 909) (L' := [.ref 0, .ref 2, .ref 48, .int l3]) (st' := [.int (l3 + 1), .ref 0, .ref 2]) ⟨dL_law_904, dL_law_905, dL_law_906, dL_law_907, dL_law_908, trivial⟩ rfl ?_
      have G := F.1
      have F := F.2
      refine ms_iald mB_210 dL_law_909 (Or.inr (gk_0 N)) (by rw [gl_0 N]; exact G) ?_
      refine ms_callvI mB_210 mO_210 (by omega) dL_law_910 mQ_13_112 mC_13_112 mL_135 mO_135 rfl (Nat.le_of_ble_eq_true rfl) (Nat.le_of_ble_eq_true rfl) (gk_2 N) rfl F (fun r82 δ81 F => ?_)
      refine ms_seq mB_210 mO_210 [(.aload_n 2, 1), (.aload_n 0, 1), (.iload_n 3, 1), (.iconst 1, 1), (.iadd, 1)] (pc' := 918) (L' := [.ref 0, .ref 2, .ref 48, .int l3]) (st' := [.int (l3 + 1), .ref 0, .ref 48, .int r82]) ⟨dL_law_913, dL_law_914, dL_law_915, dL_law_916, dL_law_917, trivial⟩ rfl ?_
      have G := F.1
      have F := F.2
      refine ms_iald mB_210 dL_law_918 (Or.inr (gk_0 N)) (by rw [gl_0 N]; exact G) ?_
      refine ms_callvI mB_210 mO_210 (by omega) dL_law_919 mQ_13_115 mC_13_115 mL_207 mO_207 rfl (Nat.le_of_ble_eq_true rfl) (Nat.le_of_ble_eq_true rfl) (gk_48 N) rfl F (fun r84 δ83 F => ?_)
      refine ms_icmp_eq mB_210 dL_law_922 (t := 1081) rfl (fun c => ?_) (fun c => ?_)
      · have F := F.1 c
        refine ms_seq mB_210 mO_210 [(.iinc 3 8, 3)] (pc' := 1084) (L' := [.ref 0, .ref 2, .ref 48, .int (l3 + 8)]) (st' := []) ⟨dL_law_1081, trivial⟩ rfl ?_
        refine ms_goto mB_210 dL_law_1084 (t := 18) rfl ?_
        exact F
      · have F := F.2 c
        refine ms_seq mB_210 mO_210 [(.iconst 0, 1)] (pc' := 926) (L' := [.ref 0, .ref 2, .ref 48, .int l3]) (st' := [.int 0]) ⟨dL_law_925, trivial⟩ rfl ?_
        exact ms_zret mB_210 dL_law_926 mR_210 (by decide) ⟨_, rfl, rfl, F⟩
    have F := F.2
    by_cases n23 : ((δ.2.1 0 (Int32.toNatClampNeg l3)) &&& 31) = 23
    · refine ms_pure mB_210 mO_210 (pc' := 927) (L' := [.ref 0, .ref 2, .ref 48, .int l3]) (st' := []) dL_law_33 (by rw [n23]; rfl) ?_
      have F := F.1 n23
      refine ms_seq mB_210 mO_210 [(.aload_n 1, 1), (.aload_n 0, 1), (.iload_n 3, 1), (.iconst 1, 1), (.iadd, 1)] (pc' := 932) (L' := [.ref 0, .ref 2, .ref 48, .int l3]) (st' := [.int (l3 + 1), .ref 0, .ref 2]) ⟨dL_law_927, dL_law_928, dL_law_929, dL_law_930, dL_law_931, trivial⟩ rfl ?_
      have G := F.1
      have F := F.2
      refine ms_iald mB_210 dL_law_932 (Or.inr (gk_0 N)) (by rw [gl_0 N]; exact G) ?_
      refine ms_callvI mB_210 mO_210 (by omega) dL_law_933 mQ_13_116 mC_13_116 mL_136 mO_136 rfl (Nat.le_of_ble_eq_true rfl) (Nat.le_of_ble_eq_true rfl) (gk_2 N) rfl F (fun r86 δ85 F => ?_)
      refine ms_seq mB_210 mO_210 [(.aload_n 2, 1), (.aload_n 0, 1), (.iload_n 3, 1), (.iconst 1, 1), (.iadd, 1)] (pc' := 941) (L' := [.ref 0, .ref 2, .ref 48, .int l3]) (st' := [.int (l3 + 1), .ref 0, .ref 48, .int r86]) ⟨dL_law_936, dL_law_937, dL_law_938, dL_law_939, dL_law_940, trivial⟩ rfl ?_
      have G := F.1
      have F := F.2
      refine ms_iald mB_210 dL_law_941 (Or.inr (gk_0 N)) (by rw [gl_0 N]; exact G) ?_
      refine ms_callvI mB_210 mO_210 (by omega) dL_law_942 mQ_13_119 mC_13_119 mL_208 mO_208 rfl (Nat.le_of_ble_eq_true rfl) (Nat.le_of_ble_eq_true rfl) (gk_48 N) rfl F (fun r88 δ87 F => ?_)
      refine ms_icmp_eq mB_210 dL_law_945 (t := 1081) rfl (fun c => ?_) (fun c => ?_)
      · have F := F.1 c
        refine ms_seq mB_210 mO_210 [(.iinc 3 8, 3)] (pc' := 1084) (L' := [.ref 0, .ref 2, .ref 48, .int (l3 + 8)]) (st' := []) ⟨dL_law_1081, trivial⟩ rfl ?_
        refine ms_goto mB_210 dL_law_1084 (t := 18) rfl ?_
        exact F
      · have F := F.2 c
        refine ms_seq mB_210 mO_210 [(.iconst 0, 1)] (pc' := 949) (L' := [.ref 0, .ref 2, .ref 48, .int l3]) (st' := [.int 0]) ⟨dL_law_948, trivial⟩ rfl ?_
        exact ms_zret mB_210 dL_law_949 mR_210 (by decide) ⟨_, rfl, rfl, F⟩
    have F := F.2
    by_cases n24 : ((δ.2.1 0 (Int32.toNatClampNeg l3)) &&& 31) = 24
    · refine ms_pure mB_210 mO_210 (pc' := 950) (L' := [.ref 0, .ref 2, .ref 48, .int l3]) (st' := []) dL_law_33 (by rw [n24]; rfl) ?_
      have F := F.1 n24
      refine ms_seq mB_210 mO_210 [(.aload_n 1, 1), (.aload_n 0, 1), (.iload_n 3, 1), (.iconst 1, 1), (.iadd, 1)] (pc' := 955) (L' := [.ref 0, .ref 2, .ref 48, .int l3]) (st' := [.int (l3 + 1), .ref 0, .ref 2]) ⟨dL_law_950, dL_law_951, dL_law_952, dL_law_953, dL_law_954, trivial⟩ rfl ?_
      have G := F.1
      have F := F.2
      refine ms_iald mB_210 dL_law_955 (Or.inr (gk_0 N)) (by rw [gl_0 N]; exact G) ?_
      refine ms_seq mB_210 mO_210 [(.i2l, 1), (.bipush 32, 2), (.lshl, 1), (.aload_n 0, 1), (.iload_n 3, 1), (.iconst 2, 1), (.iadd, 1)] (pc' := 964) (L' := [.ref 0, .ref 2, .ref 48, .int l3]) (st' := [.int (l3 + 2), .ref 0, .long ((Int32.toInt64 (δ.2.1 0 (Int32.toNatClampNeg (l3 + 1)))) <<< (Int32.toInt64 32 &&& 63)), .ref 2]) ⟨dL_law_956, dL_law_957, dL_law_959, dL_law_960, dL_law_961, dL_law_962, dL_law_963, trivial⟩ rfl ?_
      have G := F.1
      have F := F.2
      refine ms_iald mB_210 dL_law_964 (Or.inr (gk_0 N)) (by rw [gl_0 N]; exact G) ?_
      refine ms_seq mB_210 mO_210 [(.i2l, 1), (.ldc2_w 32, 3), (.land, 1), (.lor, 1), (.aload_n 0, 1), (.iload_n 3, 1), (.iconst 3, 1), (.iadd, 1)] (pc' := 975) (L' := [.ref 0, .ref 2, .ref 48, .int l3]) (st' := [.int (l3 + 3), .ref 0, .long (((Int32.toInt64 (δ.2.1 0 (Int32.toNatClampNeg (l3 + 1)))) <<< (Int32.toInt64 32 &&& 63)) ||| ((Int32.toInt64 (δ.2.1 0 (Int32.toNatClampNeg (l3 + 2)))) &&& 4294967295)), .ref 2]) ⟨dL_law_965, dL_law_966, dL_law_969, dL_law_970, dL_law_971, dL_law_972, dL_law_973, dL_law_974, trivial⟩ rfl ?_
      have G := F.1
      have F := F.2
      refine ms_iald mB_210 dL_law_975 (Or.inr (gk_0 N)) (by rw [gl_0 N]; exact G) ?_
      refine ms_seq mB_210 mO_210 [(.aload_n 0, 1), (.iload_n 3, 1), (.iconst 4, 1), (.iadd, 1)] (pc' := 980) (L' := [.ref 0, .ref 2, .ref 48, .int l3]) (st' := [.int (l3 + 4), .ref 0, .int (δ.2.1 0 (Int32.toNatClampNeg (l3 + 3))), .long (((Int32.toInt64 (δ.2.1 0 (Int32.toNatClampNeg (l3 + 1)))) <<< (Int32.toInt64 32 &&& 63)) ||| ((Int32.toInt64 (δ.2.1 0 (Int32.toNatClampNeg (l3 + 2)))) &&& 4294967295)), .ref 2]) ⟨dL_law_976, dL_law_977, dL_law_978, dL_law_979, trivial⟩ rfl ?_
      have G := F.1
      have F := F.2
      refine ms_iald mB_210 dL_law_980 (Or.inr (gk_0 N)) (by rw [gl_0 N]; exact G) ?_
      refine ms_seq mB_210 mO_210 [(.aload_n 0, 1), (.iload_n 3, 1), (.iconst 5, 1), (.iadd, 1)] (pc' := 985) (L' := [.ref 0, .ref 2, .ref 48, .int l3]) (st' := [.int (l3 + 5), .ref 0, .int (δ.2.1 0 (Int32.toNatClampNeg (l3 + 4))), .int (δ.2.1 0 (Int32.toNatClampNeg (l3 + 3))), .long (((Int32.toInt64 (δ.2.1 0 (Int32.toNatClampNeg (l3 + 1)))) <<< (Int32.toInt64 32 &&& 63)) ||| ((Int32.toInt64 (δ.2.1 0 (Int32.toNatClampNeg (l3 + 2)))) &&& 4294967295)), .ref 2]) ⟨dL_law_981, dL_law_982, dL_law_983, dL_law_984, trivial⟩ rfl ?_
      have G := F.1
      have F := F.2
      refine ms_iald mB_210 dL_law_985 (Or.inr (gk_0 N)) (by rw [gl_0 N]; exact G) ?_
      refine ms_seq mB_210 mO_210 [(.aload_n 0, 1), (.iload_n 3, 1), (.bipush 6, 2), (.iadd, 1)] (pc' := 991) (L' := [.ref 0, .ref 2, .ref 48, .int l3]) (st' := [.int (l3 + 6), .ref 0, .int (δ.2.1 0 (Int32.toNatClampNeg (l3 + 5))), .int (δ.2.1 0 (Int32.toNatClampNeg (l3 + 4))), .int (δ.2.1 0 (Int32.toNatClampNeg (l3 + 3))), .long (((Int32.toInt64 (δ.2.1 0 (Int32.toNatClampNeg (l3 + 1)))) <<< (Int32.toInt64 32 &&& 63)) ||| ((Int32.toInt64 (δ.2.1 0 (Int32.toNatClampNeg (l3 + 2)))) &&& 4294967295)), .ref 2]) ⟨dL_law_986, dL_law_987, dL_law_988, dL_law_990, trivial⟩ rfl ?_
      have G := F.1
      have F := F.2
      refine ms_iald mB_210 dL_law_991 (Or.inr (gk_0 N)) (by rw [gl_0 N]; exact G) ?_
      refine ms_seq mB_210 mO_210 [(.aload_n 0, 1), (.iload_n 3, 1), (.bipush 7, 2), (.iadd, 1)] (pc' := 997) (L' := [.ref 0, .ref 2, .ref 48, .int l3]) (st' := [.int (l3 + 7), .ref 0, .int (δ.2.1 0 (Int32.toNatClampNeg (l3 + 6))), .int (δ.2.1 0 (Int32.toNatClampNeg (l3 + 5))), .int (δ.2.1 0 (Int32.toNatClampNeg (l3 + 4))), .int (δ.2.1 0 (Int32.toNatClampNeg (l3 + 3))), .long (((Int32.toInt64 (δ.2.1 0 (Int32.toNatClampNeg (l3 + 1)))) <<< (Int32.toInt64 32 &&& 63)) ||| ((Int32.toInt64 (δ.2.1 0 (Int32.toNatClampNeg (l3 + 2)))) &&& 4294967295)), .ref 2]) ⟨dL_law_992, dL_law_993, dL_law_994, dL_law_996, trivial⟩ rfl ?_
      have G := F.1
      have F := F.2
      refine ms_iald mB_210 dL_law_997 (Or.inr (gk_0 N)) (by rw [gl_0 N]; exact G) ?_
      refine ms_callvL mB_210 mO_210 (by omega) dL_law_998 mQ_13_120 mC_13_120 mL_137 mO_137 rfl (Nat.le_of_ble_eq_true rfl) (Nat.le_of_ble_eq_true rfl) (gk_2 N) rfl F (fun r90 δ89 F => ?_)
      refine ms_seq mB_210 mO_210 [(.aload_n 2, 1), (.aload_n 0, 1), (.iload_n 3, 1), (.iconst 1, 1), (.iadd, 1)] (pc' := 1006) (L' := [.ref 0, .ref 2, .ref 48, .int l3]) (st' := [.int (l3 + 1), .ref 0, .ref 48, .long r90]) ⟨dL_law_1001, dL_law_1002, dL_law_1003, dL_law_1004, dL_law_1005, trivial⟩ rfl ?_
      have G := F.1
      have F := F.2
      refine ms_iald mB_210 dL_law_1006 (Or.inr (gk_0 N)) (by rw [gl_0 N]; exact G) ?_
      refine ms_seq mB_210 mO_210 [(.i2l, 1), (.bipush 32, 2), (.lshl, 1), (.aload_n 0, 1), (.iload_n 3, 1), (.iconst 2, 1), (.iadd, 1)] (pc' := 1015) (L' := [.ref 0, .ref 2, .ref 48, .int l3]) (st' := [.int (l3 + 2), .ref 0, .long ((Int32.toInt64 (δ89.2.1 0 (Int32.toNatClampNeg (l3 + 1)))) <<< (Int32.toInt64 32 &&& 63)), .ref 48, .long r90]) ⟨dL_law_1007, dL_law_1008, dL_law_1010, dL_law_1011, dL_law_1012, dL_law_1013, dL_law_1014, trivial⟩ rfl ?_
      have G := F.1
      have F := F.2
      refine ms_iald mB_210 dL_law_1015 (Or.inr (gk_0 N)) (by rw [gl_0 N]; exact G) ?_
      refine ms_seq mB_210 mO_210 [(.i2l, 1), (.ldc2_w 32, 3), (.land, 1), (.lor, 1), (.aload_n 0, 1), (.iload_n 3, 1), (.iconst 3, 1), (.iadd, 1)] (pc' := 1026) (L' := [.ref 0, .ref 2, .ref 48, .int l3]) (st' := [.int (l3 + 3), .ref 0, .long (((Int32.toInt64 (δ89.2.1 0 (Int32.toNatClampNeg (l3 + 1)))) <<< (Int32.toInt64 32 &&& 63)) ||| ((Int32.toInt64 (δ89.2.1 0 (Int32.toNatClampNeg (l3 + 2)))) &&& 4294967295)), .ref 48, .long r90]) ⟨dL_law_1016, dL_law_1017, dL_law_1020, dL_law_1021, dL_law_1022, dL_law_1023, dL_law_1024, dL_law_1025, trivial⟩ rfl ?_
      have G := F.1
      have F := F.2
      refine ms_iald mB_210 dL_law_1026 (Or.inr (gk_0 N)) (by rw [gl_0 N]; exact G) ?_
      refine ms_seq mB_210 mO_210 [(.aload_n 0, 1), (.iload_n 3, 1), (.iconst 4, 1), (.iadd, 1)] (pc' := 1031) (L' := [.ref 0, .ref 2, .ref 48, .int l3]) (st' := [.int (l3 + 4), .ref 0, .int (δ89.2.1 0 (Int32.toNatClampNeg (l3 + 3))), .long (((Int32.toInt64 (δ89.2.1 0 (Int32.toNatClampNeg (l3 + 1)))) <<< (Int32.toInt64 32 &&& 63)) ||| ((Int32.toInt64 (δ89.2.1 0 (Int32.toNatClampNeg (l3 + 2)))) &&& 4294967295)), .ref 48, .long r90]) ⟨dL_law_1027, dL_law_1028, dL_law_1029, dL_law_1030, trivial⟩ rfl ?_
      have G := F.1
      have F := F.2
      refine ms_iald mB_210 dL_law_1031 (Or.inr (gk_0 N)) (by rw [gl_0 N]; exact G) ?_
      refine ms_seq mB_210 mO_210 [(.aload_n 0, 1), (.iload_n 3, 1), (.iconst 5, 1), (.iadd, 1)] (pc' := 1036) (L' := [.ref 0, .ref 2, .ref 48, .int l3]) (st' := [.int (l3 + 5), .ref 0, .int (δ89.2.1 0 (Int32.toNatClampNeg (l3 + 4))), .int (δ89.2.1 0 (Int32.toNatClampNeg (l3 + 3))), .long (((Int32.toInt64 (δ89.2.1 0 (Int32.toNatClampNeg (l3 + 1)))) <<< (Int32.toInt64 32 &&& 63)) ||| ((Int32.toInt64 (δ89.2.1 0 (Int32.toNatClampNeg (l3 + 2)))) &&& 4294967295)), .ref 48, .long r90]) ⟨dL_law_1032, dL_law_1033, dL_law_1034, dL_law_1035, trivial⟩ rfl ?_
      have G := F.1
      have F := F.2
      refine ms_iald mB_210 dL_law_1036 (Or.inr (gk_0 N)) (by rw [gl_0 N]; exact G) ?_
      refine ms_seq mB_210 mO_210 [(.aload_n 0, 1), (.iload_n 3, 1), (.bipush 6, 2), (.iadd, 1)] (pc' := 1042) (L' := [.ref 0, .ref 2, .ref 48, .int l3]) (st' := [.int (l3 + 6), .ref 0, .int (δ89.2.1 0 (Int32.toNatClampNeg (l3 + 5))), .int (δ89.2.1 0 (Int32.toNatClampNeg (l3 + 4))), .int (δ89.2.1 0 (Int32.toNatClampNeg (l3 + 3))), .long (((Int32.toInt64 (δ89.2.1 0 (Int32.toNatClampNeg (l3 + 1)))) <<< (Int32.toInt64 32 &&& 63)) ||| ((Int32.toInt64 (δ89.2.1 0 (Int32.toNatClampNeg (l3 + 2)))) &&& 4294967295)), .ref 48, .long r90]) ⟨dL_law_1037, dL_law_1038, dL_law_1039, dL_law_1041, trivial⟩ rfl ?_
      have G := F.1
      have F := F.2
      refine ms_iald mB_210 dL_law_1042 (Or.inr (gk_0 N)) (by rw [gl_0 N]; exact G) ?_
      refine ms_seq mB_210 mO_210 [(.aload_n 0, 1), (.iload_n 3, 1), (.bipush 7, 2), (.iadd, 1)] (pc' := 1048) (L' := [.ref 0, .ref 2, .ref 48, .int l3]) (st' := [.int (l3 + 7), .ref 0, .int (δ89.2.1 0 (Int32.toNatClampNeg (l3 + 6))), .int (δ89.2.1 0 (Int32.toNatClampNeg (l3 + 5))), .int (δ89.2.1 0 (Int32.toNatClampNeg (l3 + 4))), .int (δ89.2.1 0 (Int32.toNatClampNeg (l3 + 3))), .long (((Int32.toInt64 (δ89.2.1 0 (Int32.toNatClampNeg (l3 + 1)))) <<< (Int32.toInt64 32 &&& 63)) ||| ((Int32.toInt64 (δ89.2.1 0 (Int32.toNatClampNeg (l3 + 2)))) &&& 4294967295)), .ref 48, .long r90]) ⟨dL_law_1043, dL_law_1044, dL_law_1045, dL_law_1047, trivial⟩ rfl ?_
      have G := F.1
      have F := F.2
      refine ms_iald mB_210 dL_law_1048 (Or.inr (gk_0 N)) (by rw [gl_0 N]; exact G) ?_
      refine ms_callvL mB_210 mO_210 (by omega) dL_law_1049 mQ_13_124 mC_13_124 mL_180 mO_180 rfl (Nat.le_of_ble_eq_true rfl) (Nat.le_of_ble_eq_true rfl) (gk_48 N) rfl F (fun r92 δ91 F => ?_)
      refine ms_seq mB_210 mO_210 [(.lcmp, 1)] (pc' := 1053) (L' := [.ref 0, .ref 2, .ref 48, .int l3]) (st' := [.int (lg_cmp r90 r92)]) ⟨dL_law_1052, trivial⟩ rfl ?_
      refine ms_if_eq mB_210 dL_law_1053 (t := 1081) rfl (fun c => ?_) (fun c => ?_)
      · have F := F.1 c
        refine ms_seq mB_210 mO_210 [(.iinc 3 8, 3)] (pc' := 1084) (L' := [.ref 0, .ref 2, .ref 48, .int (l3 + 8)]) (st' := []) ⟨dL_law_1081, trivial⟩ rfl ?_
        refine ms_goto mB_210 dL_law_1084 (t := 18) rfl ?_
        exact F
      · have F := F.2 c
        refine ms_seq mB_210 mO_210 [(.iconst 0, 1)] (pc' := 1057) (L' := [.ref 0, .ref 2, .ref 48, .int l3]) (st' := [.int 0]) ⟨dL_law_1056, trivial⟩ rfl ?_
        exact ms_zret mB_210 dL_law_1057 mR_210 (by decide) ⟨_, rfl, rfl, F⟩
    have F := F.2
    by_cases n25 : ((δ.2.1 0 (Int32.toNatClampNeg l3)) &&& 31) = 25
    · refine ms_pure mB_210 mO_210 (pc' := 1058) (L' := [.ref 0, .ref 2, .ref 48, .int l3]) (st' := []) dL_law_33 (by rw [n25]; rfl) ?_
      have F := F.1 n25
      refine ms_seq mB_210 mO_210 [(.aload_n 1, 1), (.aload_n 0, 1), (.iload_n 3, 1), (.iconst 1, 1), (.iadd, 1)] (pc' := 1063) (L' := [.ref 0, .ref 2, .ref 48, .int l3]) (st' := [.int (l3 + 1), .ref 0, .ref 2]) ⟨dL_law_1058, dL_law_1059, dL_law_1060, dL_law_1061, dL_law_1062, trivial⟩ rfl ?_
      have G := F.1
      have F := F.2
      refine ms_iald mB_210 dL_law_1063 (Or.inr (gk_0 N)) (by rw [gl_0 N]; exact G) ?_
      refine ms_callvI mB_210 mO_210 (by omega) dL_law_1064 mQ_13_125 mC_13_125 mL_138 mO_138 rfl (Nat.le_of_ble_eq_true rfl) (Nat.le_of_ble_eq_true rfl) (gk_2 N) rfl F (fun r94 δ93 F => ?_)
      refine ms_seq mB_210 mO_210 [(.aload_n 2, 1), (.aload_n 0, 1), (.iload_n 3, 1), (.iconst 1, 1), (.iadd, 1)] (pc' := 1072) (L' := [.ref 0, .ref 2, .ref 48, .int l3]) (st' := [.int (l3 + 1), .ref 0, .ref 48, .int r94]) ⟨dL_law_1067, dL_law_1068, dL_law_1069, dL_law_1070, dL_law_1071, trivial⟩ rfl ?_
      have G := F.1
      have F := F.2
      refine ms_iald mB_210 dL_law_1072 (Or.inr (gk_0 N)) (by rw [gl_0 N]; exact G) ?_
      refine ms_callvI mB_210 mO_210 (by omega) dL_law_1073 mQ_13_128 mC_13_128 mL_209 mO_209 rfl (Nat.le_of_ble_eq_true rfl) (Nat.le_of_ble_eq_true rfl) (gk_48 N) rfl F (fun r96 δ95 F => ?_)
      refine ms_icmp_eq mB_210 dL_law_1076 (t := 1081) rfl (fun c => ?_) (fun c => ?_)
      · have F := F.1 c
        refine ms_seq mB_210 mO_210 [(.iinc 3 8, 3)] (pc' := 1084) (L' := [.ref 0, .ref 2, .ref 48, .int (l3 + 8)]) (st' := []) ⟨dL_law_1081, trivial⟩ rfl ?_
        refine ms_goto mB_210 dL_law_1084 (t := 18) rfl ?_
        exact F
      · have F := F.2 c
        refine ms_seq mB_210 mO_210 [(.iconst 0, 1)] (pc' := 1080) (L' := [.ref 0, .ref 2, .ref 48, .int l3]) (st' := [.int 0]) ⟨dL_law_1079, trivial⟩ rfl ?_
        exact ms_zret mB_210 dL_law_1080 mR_210 (by decide) ⟨_, rfl, rfl, F⟩
    have F := F.2
    refine ms_swd mB_210 dL_law_33 (t := 1081) (by have a0 := lv_neT n0 (a := 0) rfl; have a1 := lv_neT n1 (a := 1) rfl; have a2 := lv_neT n2 (a := 2) rfl; have a3 := lv_neT n3 (a := 3) rfl; have a4 := lv_neT n4 (a := 4) rfl; have a5 := lv_neT n5 (a := 5) rfl; have a6 := lv_neT n6 (a := 6) rfl; have a7 := lv_neT n7 (a := 7) rfl; have a8 := lv_neT n8 (a := 8) rfl; have a9 := lv_neT n9 (a := 9) rfl; have a10 := lv_neT n10 (a := 10) rfl; have a11 := lv_neT n11 (a := 11) rfl; have a12 := lv_neT n12 (a := 12) rfl; have a13 := lv_neT n13 (a := 13) rfl; have a14 := lv_neT n14 (a := 14) rfl; have a15 := lv_neT n15 (a := 15) rfl; have a16 := lv_neT n16 (a := 16) rfl; have a17 := lv_neT n17 (a := 17) rfl; have a18 := lv_neT n18 (a := 18) rfl; have a19 := lv_neT n19 (a := 19) rfl; have a20 := lv_neT n20 (a := 20) rfl; have a21 := lv_neT n21 (a := 21) rfl; have a22 := lv_neT n22 (a := 22) rfl; have a23 := lv_neT n23 (a := 23) rfl; have a24 := lv_neT n24 (a := 24) rfl; have a25 := lv_neT n25 (a := 25) rfl; omega) rfl ?_
    have F := F n0
    have F := F n1
    have F := F n2
    have F := F n3
    have F := F n4
    have F := F n5
    have F := F n6
    have F := F n7
    have F := F n8
    have F := F n9
    have F := F n10
    have F := F n11
    have F := F n12
    have F := F n13
    have F := F n14
    have F := F n15
    have F := F n16
    have F := F n17
    have F := F n18
    have F := F n19
    have F := F n20
    have F := F n21
    have F := F n22
    have F := F n23
    have F := F n24
    have F := F n25
    refine ms_seq mB_210 mO_210 [(.iinc 3 8, 3)] (pc' := 1084) (L' := [.ref 0, .ref 2, .ref 48, .int (l3 + 8)]) (st' := []) ⟨dL_law_1081, trivial⟩ rfl ?_
    refine ms_goto mB_210 dL_law_1084 (t := 18) rfl ?_
    exact F
set_option maxRecDepth 100000 in
theorem qL_law_181 {N d : Nat} (hd : 5 ≤ d) {l3 s1 s2 s3 s4 : Int32} {δ : mi_D} {Q : Int32 → mi_D → Prop} (F : (mi_wI N (d - 1) 113 0 [.ref 2, .int s1, .int s2, .int s3, .int s4, .null] [] δ (fun r2 δ1 => (mi_ix (l3 + 1) N = true ∧ (mi_ix (l3 + 2) N = true ∧ (mi_ix (l3 + 3) N = true ∧ (mi_ix (l3 + 4) N = true ∧ (((δ1.2.1 0 (Int32.toNatClampNeg (l3 + 4))) = 0 → mi_wI N d 210 213 [.ref 0, .ref 2, .ref 48, .int l3] [.int 0, .int (δ1.2.1 0 (Int32.toNatClampNeg (l3 + 3))), .int (δ1.2.1 0 (Int32.toNatClampNeg (l3 + 2))), .int (δ1.2.1 0 (Int32.toNatClampNeg (l3 + 1))), .ref 48, .int r2] δ1 Q) ∧ (¬ (δ1.2.1 0 (Int32.toNatClampNeg (l3 + 4))) = 0 → mi_wI N d 210 213 [.ref 0, .ref 2, .ref 48, .int l3] [.int 1, .int (δ1.2.1 0 (Int32.toNatClampNeg (l3 + 3))), .int (δ1.2.1 0 (Int32.toNatClampNeg (l3 + 2))), .int (δ1.2.1 0 (Int32.toNatClampNeg (l3 + 1))), .ref 48, .int r2] δ1 Q))))))))) : mi_wI N d 210 181 [.ref 0, .ref 2, .ref 48, .int l3] [.int s4, .int s3, .int s2, .int s1, .ref 2] δ Q := by
  unfold mi_wI
  refine ms_callvI mB_210 mO_210 (by omega) dL_law_181 mQ_13_13 mC_13_13 mL_113 mO_113 rfl (Nat.le_of_ble_eq_true rfl) (Nat.le_of_ble_eq_true rfl) (gk_2 N) rfl F (fun r2 δ1 F => ?_)
  refine ms_seq mB_210 mO_210 [(.aload_n 2, 1), (.aload_n 0, 1), (.iload_n 3, 1), (.iconst 1, 1), (.iadd, 1)] (pc' := 189) (L' := [.ref 0, .ref 2, .ref 48, .int l3]) (st' := [.int (l3 + 1), .ref 0, .ref 48, .int r2]) ⟨dL_law_184, dL_law_185, dL_law_186, dL_law_187, dL_law_188, trivial⟩ rfl ?_
  have G := F.1
  have F := F.2
  refine ms_iald mB_210 dL_law_189 (Or.inr (gk_0 N)) (by rw [gl_0 N]; exact G) ?_
  refine ms_seq mB_210 mO_210 [(.aload_n 0, 1), (.iload_n 3, 1), (.iconst 2, 1), (.iadd, 1)] (pc' := 194) (L' := [.ref 0, .ref 2, .ref 48, .int l3]) (st' := [.int (l3 + 2), .ref 0, .int (δ1.2.1 0 (Int32.toNatClampNeg (l3 + 1))), .ref 48, .int r2]) ⟨dL_law_190, dL_law_191, dL_law_192, dL_law_193, trivial⟩ rfl ?_
  have G := F.1
  have F := F.2
  refine ms_iald mB_210 dL_law_194 (Or.inr (gk_0 N)) (by rw [gl_0 N]; exact G) ?_
  refine ms_seq mB_210 mO_210 [(.aload_n 0, 1), (.iload_n 3, 1), (.iconst 3, 1), (.iadd, 1)] (pc' := 199) (L' := [.ref 0, .ref 2, .ref 48, .int l3]) (st' := [.int (l3 + 3), .ref 0, .int (δ1.2.1 0 (Int32.toNatClampNeg (l3 + 2))), .int (δ1.2.1 0 (Int32.toNatClampNeg (l3 + 1))), .ref 48, .int r2]) ⟨dL_law_195, dL_law_196, dL_law_197, dL_law_198, trivial⟩ rfl ?_
  have G := F.1
  have F := F.2
  refine ms_iald mB_210 dL_law_199 (Or.inr (gk_0 N)) (by rw [gl_0 N]; exact G) ?_
  refine ms_seq mB_210 mO_210 [(.aload_n 0, 1), (.iload_n 3, 1), (.iconst 4, 1), (.iadd, 1)] (pc' := 204) (L' := [.ref 0, .ref 2, .ref 48, .int l3]) (st' := [.int (l3 + 4), .ref 0, .int (δ1.2.1 0 (Int32.toNatClampNeg (l3 + 3))), .int (δ1.2.1 0 (Int32.toNatClampNeg (l3 + 2))), .int (δ1.2.1 0 (Int32.toNatClampNeg (l3 + 1))), .ref 48, .int r2]) ⟨dL_law_200, dL_law_201, dL_law_202, dL_law_203, trivial⟩ rfl ?_
  have G := F.1
  have F := F.2
  refine ms_iald mB_210 dL_law_204 (Or.inr (gk_0 N)) (by rw [gl_0 N]; exact G) ?_
  refine ms_if_eq mB_210 dL_law_205 (t := 212) rfl (fun c => ?_) (fun c => ?_)
  · have F := F.1 c
    refine ms_seq mB_210 mO_210 [(.iconst 0, 1)] (pc' := 213) (L' := [.ref 0, .ref 2, .ref 48, .int l3]) (st' := [.int 0, .int (δ1.2.1 0 (Int32.toNatClampNeg (l3 + 3))), .int (δ1.2.1 0 (Int32.toNatClampNeg (l3 + 2))), .int (δ1.2.1 0 (Int32.toNatClampNeg (l3 + 1))), .ref 48, .int r2]) ⟨dL_law_212, trivial⟩ rfl ?_
    exact F
  · have F := F.2 c
    refine ms_seq mB_210 mO_210 [(.iconst 1, 1)] (pc' := 209) (L' := [.ref 0, .ref 2, .ref 48, .int l3]) (st' := [.int 1, .int (δ1.2.1 0 (Int32.toNatClampNeg (l3 + 3))), .int (δ1.2.1 0 (Int32.toNatClampNeg (l3 + 2))), .int (δ1.2.1 0 (Int32.toNatClampNeg (l3 + 1))), .ref 48, .int r2]) ⟨dL_law_208, trivial⟩ rfl ?_
    refine ms_goto mB_210 dL_law_209 (t := 213) rfl ?_
    exact F
set_option maxRecDepth 100000 in
theorem qL_law_240 {N d : Nat} (hd : 5 ≤ d) {l3 s1 s2 : Int32} {δ : mi_D} {Q : Int32 → mi_D → Prop} (F : (mi_wI N (d - 1) 114 0 [.ref 2, .int s1, .int s2, .null] [] δ (fun r2 δ1 => (mi_ix (l3 + 1) N = true ∧ (mi_ix (l3 + 2) N = true ∧ (((δ1.2.1 0 (Int32.toNatClampNeg (l3 + 2))) = 0 → mi_wI N d 210 262 [.ref 0, .ref 2, .ref 48, .int l3] [.int 0, .int (δ1.2.1 0 (Int32.toNatClampNeg (l3 + 1))), .ref 48, .int r2] δ1 Q) ∧ (¬ (δ1.2.1 0 (Int32.toNatClampNeg (l3 + 2))) = 0 → mi_wI N d 210 262 [.ref 0, .ref 2, .ref 48, .int l3] [.int 1, .int (δ1.2.1 0 (Int32.toNatClampNeg (l3 + 1))), .ref 48, .int r2] δ1 Q))))))) : mi_wI N d 210 240 [.ref 0, .ref 2, .ref 48, .int l3] [.int s2, .int s1, .ref 2] δ Q := by
  unfold mi_wI
  refine ms_callvI mB_210 mO_210 (by omega) dL_law_240 mQ_13_18 mC_13_18 mL_114 mO_114 rfl (Nat.le_of_ble_eq_true rfl) (Nat.le_of_ble_eq_true rfl) (gk_2 N) rfl F (fun r2 δ1 F => ?_)
  refine ms_seq mB_210 mO_210 [(.aload_n 2, 1), (.aload_n 0, 1), (.iload_n 3, 1), (.iconst 1, 1), (.iadd, 1)] (pc' := 248) (L' := [.ref 0, .ref 2, .ref 48, .int l3]) (st' := [.int (l3 + 1), .ref 0, .ref 48, .int r2]) ⟨dL_law_243, dL_law_244, dL_law_245, dL_law_246, dL_law_247, trivial⟩ rfl ?_
  have G := F.1
  have F := F.2
  refine ms_iald mB_210 dL_law_248 (Or.inr (gk_0 N)) (by rw [gl_0 N]; exact G) ?_
  refine ms_seq mB_210 mO_210 [(.aload_n 0, 1), (.iload_n 3, 1), (.iconst 2, 1), (.iadd, 1)] (pc' := 253) (L' := [.ref 0, .ref 2, .ref 48, .int l3]) (st' := [.int (l3 + 2), .ref 0, .int (δ1.2.1 0 (Int32.toNatClampNeg (l3 + 1))), .ref 48, .int r2]) ⟨dL_law_249, dL_law_250, dL_law_251, dL_law_252, trivial⟩ rfl ?_
  have G := F.1
  have F := F.2
  refine ms_iald mB_210 dL_law_253 (Or.inr (gk_0 N)) (by rw [gl_0 N]; exact G) ?_
  refine ms_if_eq mB_210 dL_law_254 (t := 261) rfl (fun c => ?_) (fun c => ?_)
  · have F := F.1 c
    refine ms_seq mB_210 mO_210 [(.iconst 0, 1)] (pc' := 262) (L' := [.ref 0, .ref 2, .ref 48, .int l3]) (st' := [.int 0, .int (δ1.2.1 0 (Int32.toNatClampNeg (l3 + 1))), .ref 48, .int r2]) ⟨dL_law_261, trivial⟩ rfl ?_
    exact F
  · have F := F.2 c
    refine ms_seq mB_210 mO_210 [(.iconst 1, 1)] (pc' := 258) (L' := [.ref 0, .ref 2, .ref 48, .int l3]) (st' := [.int 1, .int (δ1.2.1 0 (Int32.toNatClampNeg (l3 + 1))), .ref 48, .int r2]) ⟨dL_law_257, trivial⟩ rfl ?_
    refine ms_goto mB_210 dL_law_258 (t := 262) rfl ?_
    exact F
set_option maxRecDepth 100000 in
theorem qL_law_213 {N d : Nat} (hd : 5 ≤ d) {l3 s0 s2 s3 s4 s5 : Int32} {δ : mi_D} {Q : Int32 → mi_D → Prop} (F : (mi_wI N (d - 1) 157 0 [.ref 48, .int s2, .int s3, .int s4, .int s5, .null] [] δ (fun r2 δ1 => ((s0 = r2 → mi_wI N d 210 18 [.ref 0, .ref 2, .ref 48, .int (l3 + 8)] [] δ1 Q) ∧ (¬ s0 = r2 → Q 0 δ1))))) : mi_wI N d 210 213 [.ref 0, .ref 2, .ref 48, .int l3] [.int s5, .int s4, .int s3, .int s2, .ref 48, .int s0] δ Q := by
  unfold mi_wI
  refine ms_callvI mB_210 mO_210 (by omega) dL_law_213 mQ_13_17 mC_13_17 mL_157 mO_157 rfl (Nat.le_of_ble_eq_true rfl) (Nat.le_of_ble_eq_true rfl) (gk_48 N) rfl F (fun r2 δ1 F => ?_)
  refine ms_icmp_eq mB_210 dL_law_216 (t := 1081) rfl (fun c => ?_) (fun c => ?_)
  · have F := F.1 c
    refine ms_seq mB_210 mO_210 [(.iinc 3 8, 3)] (pc' := 1084) (L' := [.ref 0, .ref 2, .ref 48, .int (l3 + 8)]) (st' := []) ⟨dL_law_1081, trivial⟩ rfl ?_
    refine ms_goto mB_210 dL_law_1084 (t := 18) rfl ?_
    exact F
  · have F := F.2 c
    refine ms_seq mB_210 mO_210 [(.iconst 0, 1)] (pc' := 220) (L' := [.ref 0, .ref 2, .ref 48, .int l3]) (st' := [.int 0]) ⟨dL_law_219, trivial⟩ rfl ?_
    exact ms_zret mB_210 dL_law_220 mR_210 (by decide) ⟨_, rfl, rfl, F⟩
set_option maxRecDepth 100000 in
theorem qL_law_262 {N d : Nat} (hd : 5 ≤ d) {l3 s0 s2 s3 : Int32} {δ : mi_D} {Q : Int32 → mi_D → Prop} (F : (mi_wI N (d - 1) 158 0 [.ref 48, .int s2, .int s3] [] δ (fun r2 δ1 => ((s0 = r2 → mi_wI N d 210 18 [.ref 0, .ref 2, .ref 48, .int (l3 + 8)] [] δ1 Q) ∧ (¬ s0 = r2 → Q 0 δ1))))) : mi_wI N d 210 262 [.ref 0, .ref 2, .ref 48, .int l3] [.int s3, .int s2, .ref 48, .int s0] δ Q := by
  unfold mi_wI
  refine ms_callvI mB_210 mO_210 (by omega) dL_law_262 mQ_13_22 mC_13_22 mL_158 mO_158 rfl (Nat.le_of_ble_eq_true rfl) (Nat.le_of_ble_eq_true rfl) (gk_48 N) rfl F (fun r2 δ1 F => ?_)
  refine ms_icmp_eq mB_210 dL_law_265 (t := 1081) rfl (fun c => ?_) (fun c => ?_)
  · have F := F.1 c
    refine ms_seq mB_210 mO_210 [(.iinc 3 8, 3)] (pc' := 1084) (L' := [.ref 0, .ref 2, .ref 48, .int (l3 + 8)]) (st' := []) ⟨dL_law_1081, trivial⟩ rfl ?_
    refine ms_goto mB_210 dL_law_1084 (t := 18) rfl ?_
    exact F
  · have F := F.2 c
    refine ms_seq mB_210 mO_210 [(.iconst 0, 1)] (pc' := 269) (L' := [.ref 0, .ref 2, .ref 48, .int l3]) (st' := [.int 0]) ⟨dL_law_268, trivial⟩ rfl ?_
    exact ms_zret mB_210 dL_law_269 mR_210 (by decide) ⟨_, rfl, rfl, F⟩
