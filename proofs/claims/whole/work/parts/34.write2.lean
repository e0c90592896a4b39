theorem chkL_snoc (c : Int32) (l : List Int32) (b : Int32) : chkL c (l ++ [b]) = chk (chkL c l) b := by
  unfold chkL
  rw [List.foldl_append]
  rfl
section WRM
variable {N d : Nat} {δ s : mi_D} {B : List Int32} {what : Int32}
theorem cm_hasRoom (hd : 5 ≤ d) (G : Agr s δ) (W : WfJ s) (X : Bm δ B) (hB : B.length ≤ 300) {Q : Int32 → mi_D → Prop} (k : Q (bI (room s B)) δ) : mi_wI N d 152 0 [.ref 48] [] δ Q := by
  have e1 : δ.1 48 1 = s.1 48 1 := G.1 (48, 1) (by decide)
  have e2 : δ.1 48 30 = nI (nN s 30) := (G.1 (48, 30) (by decide)).trans W.1.1
  have hb := W.1.2
  have e3 : δ.1 48 30 + δ.1 48 34 + 4 = nI (nN s 30 + B.length + 4) := by rw [e2, X.1, ← nI_add, ← nI_add]; rfl
  refine q12_hasRoom_0 hd ?_
  rw [e1, e3]
  refine ⟨fun h => ⟨fun h2 => ?_, fun h2 => ?_⟩, fun h => ?_⟩
  · have := (nI_ltI (a := 6000) (by omega) (by omega)).mp h2
    rwa [bI_0 (fun q => q.elim (fun z => z h) (fun z => by omega))] at k
  · rcases Nat.lt_or_ge 6000 (nN s 30 + B.length + 4) with q | q
    · exact absurd ((nI_ltI (a := 6000) (by omega) (by omega)).mpr q) h2
    · rwa [bI_1 (Or.inr q)] at k
  · rwa [bI_1 (Or.inl h)] at k
theorem cm_write (hd : 6 ≤ d) (G : Agr s δ) (W : WfJ s) (X : Bm δ B) (hB : B.length ≤ 255) (hroom : room s B) {Q : mi_D → Prop}
    (k : ∀ δ', Agr (jot s what B) δ' → Fr [(48, 30), (48, 32)] [70] [] δ δ' → Q δ') : mi_wV N d 155 0 [.ref 48, .int what, .null, .null] [] δ Q := by
  have e1 : δ.1 48 1 = s.1 48 1 := G.1 (48, 1) (by decide)
  have e32 : δ.1 48 32 = s.1 48 32 := G.1 (48, 32) (by decide)
  have e70 : δ.2.1 70 = s.2.1 70 := G.2.1 70 (by decide)
  refine q12_write_0 (by omega) (fun δ1 e => ?_)
  have f1 : δ1.1 48 1 = s.1 48 1 := by rw [e, pI_f, if_neg (by decide)]; exact e1
  rw [f1]
  refine ⟨fun h => ?_, fun h => ?_⟩
  · have hr : nN s 30 + B.length + 4 ≤ 6000 := hroom.resolve_left (fun q => q h)
    have hz : δ1.1 48 30 = nI (nN s 30) := by rw [e, pI_f, if_neg (by decide)]; exact (G.1 (48, 30) (by decide)).trans W.1.1
    obtain ⟨z, ez⟩ : ∃ z, nN s 30 = z := ⟨_, rfl⟩
    rw [ez] at hz hr
    have hx : δ1.1 48 34 = nI B.length := by rw [e, pI_f, if_neg (by decide)]; exact X.1
    have hput := @cm_append N (d - 1) δ1 (by omega) z
    have st0 : mst δ1 z [] = δ1 := mst_nil hz
    have hlen : ∀ l, (mst δ1 z l).1 48 34 = nI B.length := fun l => by unfold mst; rw [pI_f, if_neg (by decide)]; exact hx
    have hbody : ∀ l i, (h : i < B.length) → (mst δ1 z l).2.1 71 (nI i).toNatClampNeg = B[i] := fun l i h => by
      rw [nI_clamp (by omega)]
      unfold mst
      rw [pI_a, rA_a, if_neg (by decide), e]
      exact X.2 i _ (List.getElem?_eq_getElem h)
    have hend : mi_wV N d 155 47 [.ref 48, .int what, .int (chkL 65535 (nI B.length :: what :: B)), .int (nI B.length)] [] (mst δ1 z (nI B.length :: what :: B)) Q := by
      refine q12_write_47 (by omega) (brF (by rw [hlen]; exact nI_nlt (by omega) (by omega)) ?_)
      have hl2 : (nI B.length :: what :: B).length = B.length + 2 := rfl
      refine hput (by rw [hl2]; omega) (hput (by rw [List.length_append, hl2]; show z + (B.length + 2 + 1) < 6000; omega) ?_)
      have er : nI B.length :: what :: B ++ [chkL 65535 (nI B.length :: what :: B) >>> (8 &&& 31)] ++ [chkL 65535 (nI B.length :: what :: B) &&& 255] = recd what B := by
        unfold recd
        rw [List.append_assoc]
        rfl
      rw [er]
      refine k _ ?_ ?_
      · have ej : jot s what B = mi_setI (rowA (mi_setI s 48 32 (s.1 48 32 + 1)) 70 (wrN (s.2.1 70) (nN s 30) (B.length + 4) (fun i => (recd what B).getD i 0))) 48 30 (nI (nN s 30 + (B.length + 4))) := by
          unfold jot
          rw [if_pos h]
        rw [ej, ez, e]
        unfold mst lrow
        rw [recd_len, pI_a, e70]
        refine ⟨fun p hp => ?_, fun a ha => ?_, fun a ha => ?_⟩
        · simp only [pI_f, rA_f]
          by_cases q : p.1 = 48 ∧ p.2 = 30
          · rw [if_pos q, if_pos q]
          · rw [if_neg q, if_neg q]
            by_cases q2 : p.1 = 48 ∧ p.2 = 32
            · rw [if_pos q2, if_pos q2, e32]
            · rw [if_neg q2, if_neg q2]
              exact G.1 p hp
        · simp only [pI_a, rA_a]
          by_cases q : a = 70
          · rw [if_pos q, if_pos q]
          · rw [if_neg q, if_neg q]
            exact G.2.1 a ha
        · exact G.2.2 a ha
      · rw [e]
        exact ((Fr.setI (by decide)).xA (by decide)).xI (by decide)
    have loop : ∀ i, i ≤ B.length → mi_wV N d 155 47 [.ref 48, .int what, .int (chkL 65535 (nI B.length :: what :: B.take i)), .int (nI i)] [] (mst δ1 z (nI B.length :: what :: B.take i)) Q := by
      intro i hi
      refine up_ind (P := fun i => mi_wV N d 155 47 [.ref 48, .int what, .int (chkL 65535 (nI B.length :: what :: B.take i)), .int (nI i)] [] (mst δ1 z (nI B.length :: what :: B.take i)) Q) ?_ ?_ hi
      · rw [List.take_length]; exact hend
      · intro i hi ih
        refine q12_write_47 (by omega) (brT (by rw [hlen]; exact nI_lt hi (by omega)) ⟨mi_ix_nI (by omega) (by omega), ?_⟩)
        rw [hbody _ i hi]
        refine hput (by show z + ((B.take i).length + 1 + 1) < 6000; rw [List.length_take]; omega) ⟨mi_ix_nI (by omega) (by omega), ?_⟩
        rw [hbody _ i hi]
        refine cm_checked (by omega) ?_
        rw [← chkL_snoc, nI_1]
        show mi_wV N d 155 47 [.ref 48, .int what, .int (chkL 65535 (nI B.length :: what :: (B.take i ++ [B[i]]))), .int (nI (i + 1))] [] (mst δ1 z (nI B.length :: what :: (B.take i ++ [B[i]]))) Q
        rw [take_snoc hi]
        exact ih
    rw [hx]
    refine cm_checked (by omega) (cm_checked (by omega) ?_)
    rw [hx]
    have first := @cm_append N (d - 1) δ1 (by omega) z [] (nI B.length) (by show z + 0 < 6000; omega)
    rw [st0] at first
    refine first (hput (by show z + 1 < 6000; omega) ?_)
    have l0 := loop 0 (by omega)
    rw [nI_0] at l0
    exact l0
  · refine k δ1 ?_ (by rw [e]; exact Fr.setI (by decide))
    have ej : jot s what B = mi_setI s 48 32 (s.1 48 32 + 1) := by
      unfold jot
      rw [if_neg h]
    rw [ej, e]
    refine ⟨fun p hp => ?_, fun a ha => G.2.1 a ha, fun a ha => G.2.2 a ha⟩
    simp only [pI_f]
    by_cases q2 : p.1 = 48 ∧ p.2 = 32
    · rw [if_pos q2, if_pos q2, e32]
    · rw [if_neg q2, if_neg q2]
      exact G.1 p hp
end WRM
