/-! the sheet, by both -/
def K5 : List Nat := [0, 1, 2, 3, 4]
def uK (s : mi_D) (j : Nat) : List Int32 := rws s (dU s (nI j) 6 (-1))
def shB (s : mi_D) (way : Int32) : List Int32 := if way = 0 then (ordN (s.2.1 49) (nN s 2)).flatMap (lvF s) else if way = 1 then K5.flatMap (uK s) else kbs s 5 ++ tB 61 (tall s (nN s 2))
def shS (s : mi_D) (B : List Int32) (v : Int32) : mi_D := mi_setI (rowA s 72 (sbr (s.2.1 72) B)) 48 36 v
def A_sheet (s : mi_D) (way : Int32) : Int32 × mi_D :=
  if s.1 48 0 = 0 then (-6, s) else if ¬ inR way 3 then (-3, s)
  else if 4000 < (shB s way).length then (-13, shS s (shB s way) 0) else (nI (shB s way).length, shS s (shB s way) (nI (shB s way).length))
theorem uK_len {s : mi_D} (W : WfA s) (j : Nat) : (uK s j).length ≤ 3600 := by
  have h1 := rws_len W (L := dU s (nI j) 6 (-1)) (fun x hx => (dU_mem W _ _ _ x hx).1)
  have h2 := dU_len W (nI j) 6 (-1)
  unfold uK
  omega
theorem K5_len {s : mi_D} (W : WfA s) (i : Nat) : ((K5.take i).flatMap (uK s)).length ≤ 18000 := by
  have := fm_len (g := uK s) (m := 3600) (K5.take i) (fun j _ => uK_len W j)
  rw [List.length_take] at this
  have h : min i K5.length ≤ 5 := Nat.min_le_right _ _
  have q : 3600 * min i K5.length ≤ 3600 * 5 := Nat.mul_le_mul_left _ h
  omega
theorem K5_all {s : mi_D} : K5.take 5 = K5 := rfl
theorem K5_tU {s : mi_D} (W : WfA s) : rws s (tU s 6 (-1)) = K5.flatMap (uK s) := by
  rw [tU_top W 5]
  unfold rws
  rw [List.flatMap_assoc]
  rfl
theorem shB_len {s : mi_D} (W : WfA s) (way : Int32) : (shB s way).length ≤ 18000 := by
  have h60 := W.1.2
  unfold shB
  split
  · have h1 := fm_len (g := lvF s) (m := 60) (ordN (s.2.1 49) (nN s 2)) (fun a ha => lvF_len W ((ordN_mem _ _ _).mp ha))
    rw [ordN_len] at h1
    omega
  · split
    · exact K5_len (s := s) W 5
    · have h1 := kbs_len s 5
      have h2 := tB_len 61 (tall s (nN s 2))
      rw [List.length_append]
      omega
abbrev LTR (δ : mi_D) : Prop := ∀ j, j < 5 → δ.2.1 1 j = ltr j
section SHEET
variable {N d : Nat} {δ s : mi_D}
theorem cp_sheet (hd : 20 ≤ d) (H : Abs δ s) (U : δ.1 2 7 = s.1 48 0) (W : Wf s) (LT : LTR δ) {way : Int32} {Q : Int32 → mi_D → Prop} (kk : ∀ δ', Abs δ' (A_sheet s way).2 → KX δ δ' → Q (A_sheet s way).1 δ') : mi_wI N d 135 0 [.ref 2, .int way] [] δ Q := by
  have W1 := W.1
  unfold A_sheet at kk
  refine q11_sheet_0 (by omega) ⟨fun h => ?_, fun h => ?_⟩
  · rw [if_pos (U ▸ h)] at kk
    exact kk δ H Kp.rf
  have hup : ¬ s.1 48 0 = 0 := fun q => h (U.trans q)
  rw [if_neg hup] at kk
  have bad : ¬ inR way 3 → Q (-3) δ := fun h => by
    rw [if_pos h] at kk
    exact kk δ H Kp.rf
  refine ⟨fun h1 => bad (fun q => q.1 h1), fun h1 => ⟨fun h2 => ?_, fun h2 => bad (fun q => h2 q.2)⟩⟩
  rw [if_neg (fun q => q ⟨h1, h2⟩)] at kk
  obtain ⟨B, eB⟩ : ∃ B, shB s way = B := ⟨_, rfl⟩
  have hBl := shB_len W1 way
  rw [eB] at kk hBl
  -- what is left at the end
  have fin : ∀ δ' v, δ'.1 45 3 = v → δ'.2.1 46 = sbr (s.2.1 72) B → Fr [(45, 3)] [46, 47] [] δ δ' → Abs δ' (shS s B v) ∧ KX δ δ' := by
    intro δ' v hv hr F
    have km : Kp [(48,0),(48,1),(48,2),(48,10),(48,11),(48,12),(48,15),(48,24),(48,30),(48,31),(48,32)] [49,50,51,52,53,54,56,57,58,59,60,61,62,63,64,66,70] pmL s (shS s B v) := Kp.tr (Kp.rowA (by decide)) (Kp.setI (by decide))
    refine ⟨⟨?_, ?_, ?_, ?_, ?_, ?_⟩, F.kp (by decide) (by decide) (by decide)⟩
    · exact (H.1.c (F.kp (by decide) (by decide) (by decide))).m (km.wk (by decide) (by decide) (by decide))
    · exact (H.2.1.c (F.kp (by decide) (by decide) (by decide))).m (km.wk (by decide) (by decide) (by decide))
    · exact (H.2.2.1.c (F.kp (by decide) (by decide) (by decide))).m (km.wk (by decide) (by decide) (by decide))
    · exact (H.2.2.2.1.c (F.kp (by decide) (by decide) (by decide))).m (km.wk (by decide) (by decide) (by decide))
    · exact (H.2.2.2.2.1.c (F.kp (by decide) (by decide) (by decide))).m (km.wk (by decide) (by decide) (by decide))
    · refine ⟨?_, ?_⟩
      · unfold shS; rw [pI_f, if_pos ⟨rfl, rfl⟩, hv]
      · unfold shS; rw [pI_a, rA_a, if_pos rfl, hr]
  -- at the end of writing
  have endw : ∀ δ', Sp δ' (s.2.1 72) B → Fr [(45, 3)] [46, 47] [] δ δ' → ((4000 < (δ'.1 45 3) → (mi_wV N (d - 1 - 1) 103 0 [.ref 45] [] δ' (fun δ1 => ((((0 : Int32) = 0 → Q (-13) δ1) ∧ (¬ (0 : Int32) = 0 → Q (δ1.1 45 3) δ1)))))) ∧ (¬ 4000 < (δ'.1 45 3) → (((1 : Int32) = 0 → Q (-13) δ') ∧ (¬ (1 : Int32) = 0 → Q (δ'.1 45 3) δ')))) := by
    intro δ' X F
    have h40 : 4000 < δ'.1 45 3 ↔ 4000 < B.length := by rw [X.1]; exact nI_ltI (a := 4000) (by omega) (by omega)
    refine ⟨fun h => q10_clear_0 (by omega) (fun δ1 e1 => br0 ?_), fun h => br1 ?_⟩
    · rw [if_pos (h40.mp h)] at kk
      have := fin δ1 0 (by rw [e1, pI_f, if_pos ⟨rfl, rfl⟩]) (by rw [e1]; exact X.2) (F.tr (by subst e1; exact Fr.setI (by decide)))
      exact kk δ1 this.1 this.2
    · rw [if_neg (fun q => h (h40.mpr q))] at kk
      rw [X.1]
      have := fin δ' _ X.1 X.2 F
      exact kk δ' this.1 this.2
  -- clearing
  refine q10_write_0 (by omega) (q10_clear_0 (by omega) (fun δ1 e1 => ?_))
  have F1 : Fr [(45, 3)] [46, 47] [] δ δ1 := by subst e1; exact Fr.setI (by decide)
  have X1 : Sp δ1 (s.2.1 72) [] := ⟨by rw [e1, pI_f, if_pos ⟨rfl, rfl⟩]; exact nI_0.symm, by rw [e1, pI_a, sbr_nil]; exact H.2.2.2.2.2.2⟩
  have A1 : AbA δ1 s := H.1.c (F1.kp (by decide) (by decide) (by decide))
  unfold shB at eB
  refine ⟨fun w0 => ?_, fun w0 => ⟨fun w1 => ?_, fun w1 => ?_⟩⟩
  · rw [if_pos w0] at eB
    refine cc_writeLeaves (by omega) A1 W1 X1 (by rw [List.length_nil]; omega) (fun δ2 X2 F2 => q10_write_47 (by omega) ?_)
    rw [List.nil_append, eB] at X2
    exact endw δ2 X2 (F1.tr F2)
  · rw [if_neg w0, if_pos w1] at eB
    suffices HI : ∀ i, i ≤ 5 → ∀ δ2, Sp δ2 (s.2.1 72) ((K5.take i).flatMap (uK s)) → Fr [(45, 3)] [46, 47] [] δ δ2 → mi_wI N (d - 1) 104 22 [.ref 45, .int way, .int (nI i)] [] δ2 (fun r2 δ1 => ((r2 = 0 → Q (-13) δ1) ∧ (¬ r2 = 0 → Q (δ1.1 45 3) δ1))) by
      have q := HI 0 (by omega) δ1 X1 F1
      rwa [nI_0] at q
    intro i hi
    refine up_ind (P := fun i => ∀ δ2, Sp δ2 (s.2.1 72) ((K5.take i).flatMap (uK s)) → Fr [(45, 3)] [46, 47] [] δ δ2 → mi_wI N (d - 1) 104 22 [.ref 45, .int way, .int (nI i)] [] δ2 (fun r2 δ1 => ((r2 = 0 → Q (-13) δ1) ∧ (¬ r2 = 0 → Q (δ1.1 45 3) δ1)))) ?_ ?_ hi
    · intro δ2 X2 F2
      refine q10_write_22 (by omega) (brF (by decide) (q10_write_47a (by omega) ?_))
      rw [K5_all (s := s), eB] at X2
      exact endw δ2 X2 F2
    · intro i hi ih δ2 X2 F2
      have hK : i < K5.length := hi
      have eK : K5[i] = i := by
        rcases (show i = 0 ∨ i = 1 ∨ i = 2 ∨ i = 3 ∨ i = 4 by omega) with rfl | rfl | rfl | rfl | rfl <;> rfl
      have eu := fm_take (g := uK s) hK
      rw [eK] at eu
      have l1 := K5_len (s := s) W1 i
      have l2 := uK_len (s := s) W1 i
      refine q10_write_22 (by omega) (brT (nI_lt (b := 5) hi (by omega)) ?_)
      have cw := cc_writeUnder (N := N) (g := s.2.1 72) W1 (kd := nI i) 6 0 (-1) (d - 1 - 1) δ2 ((K5.take i).flatMap (uK s)) (fun δ1 => mi_wI N (d - 1) 104 22 [.ref 45, .int way, .int (nI i + 1)] [] δ1 (fun r2 δ1 => ((r2 = 0 → Q (-13) δ1) ∧ (¬ r2 = 0 → Q (δ1.1 45 3) δ1)))) rfl (by omega) (H.1.c (F2.kp (by decide) (by decide) (by decide))) X2 (by show _ + (uK s i).length + 100 < _; omega) (fun δ3 X3 F3 => by
        rw [nI_1]
        refine ih δ3 ?_ (F2.tr F3)
        rw [eu]
        exact X3)
      rwa [nI_0] at cw
  · rw [if_neg w0, if_neg w1] at eB
    refine cc_writeKinds (by omega) A1 W1 (fun j hj => by rw [F1.2.1 1 (by decide)]; exact LT j hj) X1 (by rw [List.length_nil]; omega) (fun δ2 X2 F2 => q10_write_47 (by omega) ?_)
    rw [List.nil_append, eB] at X2
    exact endw δ2 X2 (F1.tr F2)
end SHEET
