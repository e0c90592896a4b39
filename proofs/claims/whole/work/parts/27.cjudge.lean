theorem pAt_le {s : mi_D} {dy : Int32} {n m : Nat} (h : n ≤ m) (hn : ¬ pAt s dy n = -1) : pAt s dy m = pAt s dy n := by
  induction h with
  | refl => rfl
  | @step m h ih =>
    show (if ¬ pAt s dy m = -1 then pAt s dy m else _) = _
    rw [ih, if_pos hn]
theorem pAt_or (s : mi_D) (dy : Int32) (n : Nat) : pAt s dy n = -1 ∨ ∃ p, p < n ∧ pAt s dy n = nI p := by
  induction n with
  | zero => exact Or.inl rfl
  | succ n ih =>
    by_cases h : pAt s dy n = -1
    · by_cases h2 : ¬ dy < 0 ∧ ¬ s.2.1 56 n < dy
      · exact Or.inr ⟨n, by omega, by show (if ¬ pAt s dy n = -1 then _ else _) = _; rw [if_neg (fun q => q h), if_pos h2]⟩
      · exact Or.inl (by show (if ¬ pAt s dy n = -1 then _ else _) = _; rw [if_neg (fun q => q h), if_neg h2])
    · obtain ⟨p, hp, e⟩ := ih.resolve_left h
      exact Or.inr ⟨p, by omega, by rw [pAt_le (Nat.le_succ n) h, e]⟩
theorem nI_ne1 {n : Nat} (h : n < 2 ^ 31) : ¬ nI n = -1 := fun q => nI_pos h (by rw [q]; decide)
section CJD
variable {N d ln la lb lim : Nat} {δ s : mi_D} {l : Ln}
theorem cc_withDay (hd : 5 ≤ d) (A : AbP δ s) (W : WfP s) {dy : Int32} {Q : Int32 → mi_D → Prop} (k : Q (pAt s dy (nN s 11)) δ) : mi_wI N d 76 0 [.ref 14, .int dy, .null] [] δ Q := by
  have hl : δ.1 14 2 = nI (nN s 11) := A.1.trans W.1.1
  have hb : nN s 11 ≤ 24 := W.1.2
  refine q7_withDay_0 hd ?_
  suffices h : ∀ i, i ≤ nN s 11 → pAt s dy i = -1 → mi_wI N d 76 2 [.ref 14, .int dy, .int (nI i)] [] δ Q by
    have e := h 0 (by omega) rfl
    rwa [nI_0] at e
  intro i hi
  refine up_ind (P := fun i => pAt s dy i = -1 → mi_wI N d 76 2 [.ref 14, .int dy, .int (nI i)] [] δ Q) ?_ ?_ hi
  · intro h
    refine q7_withDay_2 hd (brF (by rw [hl]; exact nI_nlt (by omega) (by omega)) ?_)
    rwa [h] at k
  · intro i hi ih h
    refine q7_withDay_2 hd (brT (by rw [hl]; exact nI_lt hi (by omega)) ?_)
    rw [mi_at_nI _ _ (by omega), A.2.2.1, nI_1]
    have e : pAt s dy (i + 1) = if ¬ dy < 0 ∧ ¬ s.2.1 56 i < dy then nI i else -1 := by
      show (if ¬ pAt s dy i = -1 then _ else _) = _
      rw [if_neg (fun q => q h)]
    refine ⟨fun q => ih (by rw [e, if_neg (fun z => z.1 q)]), fun q => ⟨fun q2 => ih (by rw [e, if_neg (fun z => z.2 q2)]), fun q2 => ?_⟩⟩
    rw [if_pos ⟨q, q2⟩] at e
    rw [pAt_le (n := i + 1) (by omega) (by rw [e]; exact nI_ne1 (by omega)), e] at k
    exact k
theorem cc_unj (hd : 7 ≤ d) (hl : mi_Ls ln la lb lim) (A : AbA δ s) (hE : δ.1 17 9 = s.1 48 15) (X : Lx δ ln la lb l) (hn : l.1 ≤ 60) (hA : LnA 60 l) {Q : Int32 → mi_D → Prop} (k : ∀ δ', Fr [] [] [27] δ δ' → Q (rf_unj s l) δ') : mi_wI N d 24 0 [.ref 3, .ref ln] [] δ Q := by
  refine q1_refusesUnjudged_0 (by omega) hl (cc_goesOver (by omega) hl A X hn ?_)
  have kk := k δ (Fr.rf _ _ _ _)
  unfold rf_unj at kk
  refine bI_br (fun h => ?_) (fun h => ?_)
  · rw [if_neg h] at kk
    rw [X.1, hE]
    refine ⟨fun h2 => ⟨fun h3 => ?_, fun h3 => ?_⟩, fun h2 => ?_⟩
    · rwa [if_neg (fun z => z.2 h3)] at kk
    · have : 0 < l.1 := (nI_ltI (by omega) (by omega)).mp (nI_0.symm ▸ h2)
      rwa [if_pos ⟨this, h3⟩] at kk
    · rwa [if_neg (fun z => h2 (nI_0 ▸ nI_lt z.1 (by omega)))] at kk
  · rwa [if_pos h] at kk
theorem cc_judge (hd : 8 ≤ d) (hl : mi_Ls ln la lb lim) (A : AbA δ s) (P : AbP δ s) (W : WfP s) (hE : δ.1 17 9 = s.1 48 15) (X : Lx δ ln la lb l) (hn : l.1 ≤ 60) (hA : LnA 60 l) {dy : Int32} {Q : Int32 → mi_D → Prop} (k : ∀ δ', Fr [] [] [27] δ δ' → Q (rf_judge s l dy) δ') : mi_wI N d 23 0 [.ref 3, .ref ln, .int dy, .null] [] δ Q := by
  have kk := k δ (Fr.rf _ _ _ _)
  unfold rf_judge at kk k
  refine q1_judge_0 (by omega) hl ?_
  rw [X.1]
  refine ⟨fun h => ?_, fun h => ?_⟩
  · rwa [if_pos ((nI_ltI (b := 2) (by omega) (by omega)).mp h)] at kk
  · have h' : ¬ l.1 < 2 := fun q => h ((nI_ltI (b := 2) (by omega) (by omega)).mpr q)
    rw [if_neg h'] at kk
    refine cc_ltotal (by omega) hl X hn ⟨fun h2 => ?_, fun h2 => ?_⟩
    · have h2' := zc_eq.mp h2
      rw [if_neg (fun q => q h2')] at kk
      refine cc_withDay (by omega) P W ⟨fun h3 => ?_, fun h3 => ?_⟩
      · rwa [if_pos h3] at kk
      · rw [if_neg h3] at kk
        rw [P.2.1]
        refine ⟨fun h4 => ?_, fun h4 => ?_⟩
        · rwa [if_pos h4] at kk
        · rw [if_neg h4] at kk
          refine cc_hasShut (by omega) hl A X hn (bI_br (fun h5 => ?_) (fun h5 => ?_))
          · refine cc_unj (by omega) hl A hE X hn hA (fun δ' f => ?_)
            have k2 := k δ' f
            rwa [if_neg h', if_neg (fun q => q h2'), if_neg h3, if_neg h4, if_neg h5] at k2
          · rwa [if_pos h5] at kk
    · rwa [if_pos (fun q => h2 (zc_eq.mpr q))] at kk
end CJD
