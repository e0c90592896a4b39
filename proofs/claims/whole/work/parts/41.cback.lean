section CBK
variable {N d ln la lb lim : Nat} {δ s : mi_D}
theorem Ls_c (hl : mi_Ls ln la lb lim) {δ' : mi_D} {fs : List (Nat × Nat)} {as ls : List Nat} (f : Fr [(ln, 2)] [la] [lb] δ δ') (h : lim = 60) (h1 : (32, 2) ∉ fs ∧ (38, 2) ∉ fs) (h2 : 33 ∉ as ∧ 39 ∉ as) (h3 : 34 ∉ ls ∧ 40 ∉ ls) : Kp fs as ls δ δ' := by
  rcases hl with ⟨rfl, rfl, rfl, _⟩ | ⟨_, _, _, e⟩ | ⟨rfl, rfl, rfl, _⟩
  · exact f.kp (fun p hp q => h1.1 (List.mem_singleton.mp q ▸ hp)) (fun p hp q => h2.1 (List.mem_singleton.mp q ▸ hp)) (fun p hp q => h3.1 (List.mem_singleton.mp q ▸ hp))
  · omega
  · exact f.kp (fun p hp q => h1.2 (List.mem_singleton.mp q ▸ hp)) (fun p hp q => h2.2 (List.mem_singleton.mp q ▸ hp)) (fun p hp q => h3.2 (List.mem_singleton.mp q ▸ hp))
theorem addL_same (l : Ln) (i : Nat) : addL (i, l.2.1, l.2.2) (l.2.1 i) (l.2.2 i) = (i + 1, l.2.1, l.2.2) := by
  unfold addL
  refine Prod.ext rfl (Prod.ext (funext fun j => ?_) (funext fun j => ?_))
  · by_cases h : j = i
    · subst h; exact up1_s _ _ _
    · exact up1_n _ _ h
  · by_cases h : j = i
    · subst h; exact up1_s _ _ _
    · exact up1_n _ _ h
theorem cc_turn (hd : 6 ≤ d) (hl : mi_Ls ln la lb lim) (h60 : lim = 60) (E : AbE δ s) (W : WfE s) {e : Nat} (he : e < nN s 15) {Q : mi_D → Prop}
    (k : ∀ δ', Lx δ' ln la lb (negL (entL s e)) → Fr [(ln, 2)] [la] [lb] δ δ' → Q δ') : mi_wV N d 43 0 [.ref 17, .int (nI e), .ref ln, .null] [] δ Q := by
  have hw := W.2.2.2.1 e he
  have hf := fromN_le W (e + 1) (by omega)
  have hn := W.1.2
  have hlen : (negL (entL s e)).1 = fromN s (e + 1) - fromN s e := rfl
  refine q2_turn_0 (by omega) hl (cc_lclear (by omega) hl ?_)
  suffices H : ∀ i, i ≤ fromN s (e + 1) - fromN s e → ∀ δ', Lx δ' ln la lb (i, (negL (entL s e)).2.1, (negL (entL s e)).2.2) → Fr [(ln, 2)] [la] [lb] δ δ' → mi_wV N d 43 6 [.ref 17, .int (nI e), .ref ln, .int (nI i)] [] δ' Q by
    have q := H 0 (by omega) (mi_setI δ ln 2 0) ⟨by rw [pI_f, if_pos ⟨rfl, rfl⟩]; exact nI_0.symm, fun i hi => by exact absurd hi (Nat.not_lt_zero i), fun i hi => by exact absurd hi (Nat.not_lt_zero i)⟩ (Fr.setI (List.mem_singleton.mpr rfl))
    rwa [nI_0] at q
  intro i hi
  have E' : ∀ δ', Fr [(ln, 2)] [la] [lb] δ δ' → AbE δ' s := fun δ' f => E.c (Ls_c hl f h60 (by decide) (by decide) (by decide))
  refine up_ind (P := fun i => ∀ δ', Lx δ' ln la lb (i, (negL (entL s e)).2.1, (negL (entL s e)).2.2) → Fr [(ln, 2)] [la] [lb] δ δ' → mi_wV N d 43 6 [.ref 17, .int (nI e), .ref ln, .int (nI i)] [] δ' Q) ?_ ?_ hi
  · intro δ' X' f'
    have e21 := ((E' δ' f').2.2.2.2.2.2.2.2.2.1 e he).2
    exact q2_turn_6 (by omega) hl (brF (by rw [mi_at_nI _ _ (by omega), e21]; exact nI_nlt (by omega) (by omega)) (k δ' X' f'))
  · intro i hi ih δ' X' f'
    have EE := E' δ' f'
    have e21 := (EE.2.2.2.2.2.2.2.2.2.1 e he).2
    have e24 := (EE.2.2.2.2.2.2.2.2.2.1 e he).1
    refine q2_turn_6 (by omega) hl (brT (by rw [mi_at_nI _ _ (by omega), e21]; exact nI_lt hi (by omega)) (q2_accountOf_0 (by omega) (q2_amountOf_0 (by omega) ?_)))
    rw [mi_at_nI δ' 24 (by omega), e24, nI_add, mi_at_nI _ _ (by omega), mi_al_nI _ _ (by omega), EE.2.2.2.2.2.2.1, EE.2.2.2.2.2.2.2.1]
    refine cc_ladd (by omega) hl X' (by show i < lim; omega) (fun δ'' X'' f'' => ?_)
    rw [nI_1]
    refine ih δ'' ?_ (f'.tr f'')
    rw [← addL_same (negL (entL s e)) i]
    exact X''
theorem cp_post (hd : 11 ≤ d) (H : Abs δ s) (U : δ.1 2 7 = s.1 48 0) (h1 : s.1 48 1 = 0) (W : Wf s) {dy t : Int32} {Q : Int32 → mi_D → Prop}
    (kk : ∀ δ', Abs δ' (A_post s dy t).2 → KX δ δ' → Q (A_post s dy t).1 δ') : mi_wI N d 119 0 [.ref 2, .int dy, .int t] [] δ Q := by
  refine q11_post_0 (by omega) ⟨fun h => ?_, fun h => ?_⟩
  · have hs : s.1 48 0 = 0 := U ▸ h
    have e : A_post s dy t = (-6, s) := by
      unfold A_post A_posted
      rw [gate_down hs]
      exact if_pos (by show (-6 : Int32) < 0; decide)
    rw [e] at kk
    exact kk δ H Kp.rf
  · have hb := W.2.2.2.1.1.2
    refine cp_writePlain (by omega) (Or.inr (Or.inl ⟨rfl, rfl, rfl, rfl⟩)) H h1 (fun q => h (U.trans q)) W (l := draftL s) ⟨H.2.2.2.2.1.1.trans W.2.2.2.1.1.1, fun i _ => by rw [H.2.2.2.2.1.2.1]; rfl, fun i _ => by rw [H.2.2.2.2.1.2.2]; rfl⟩ hb (fun i hi => W.2.2.2.1.2 i hi) (fun δ' a b => kk δ' a b)
end CBK
