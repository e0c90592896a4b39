/-! THE JVM DOES WHAT THE SMALL MACHINE DOES: the frame alone -/
def mi_LR (ad : Nat → Nat) (nL : Nat) (ls : Array Slot) (L : List Value) : Prop := L.length = nL ∧ ls.size = nL ∧ lv_wf ls ∧ ∀ (i : Nat) (v : Value), L[i]? = some v → v ≠ .null → ls[i]? = some (.val (mi_rv ad v))
def mi_as (ad : Nat → Nat) (L : List Value) : List (Nat × Value) := L.zipIdx.filterMap (fun q => if q.1 = .null then none else some (q.2, mi_rv ad q.1))
theorem mi_as_mem {ad : Nat → Nat} {L : List Value} {q : Nat × Value} : q ∈ mi_as ad L ↔ ∃ v, L[q.1]? = some v ∧ v ≠ .null ∧ q.2 = mi_rv ad v := by
  unfold mi_as
  rw [List.mem_filterMap]
  constructor
  · rintro ⟨⟨v, i⟩, h1, h2⟩
    have h3 := List.mem_zipIdx_iff_getElem?.mp h1
    by_cases hv : v = .null
    · simp [hv] at h2
    · simp [hv] at h2
      subst h2
      exact ⟨v, h3, hv, rfl⟩
  · rintro ⟨v, h1, h2, h3⟩
    refine ⟨(v, q.1), List.mem_zipIdx_iff_getElem?.mpr h1, ?_⟩
    simp [h2, ← h3]
theorem mi_LR.has {ad : Nat → Nat} {nL : Nat} {ls : Array Slot} {L : List Value} (h : mi_LR ad nL ls L) : lv_has ls nL (mi_as ad L) := by
  refine ⟨h.2.1, h.2.2.1, fun q hq => ?_⟩
  obtain ⟨v, h1, h2, h3⟩ := mi_as_mem.mp hq
  rw [h3]
  exact h.2.2.2 q.1 v h1 h2
theorem mi_ld_some {L : List Value} {i : Nat} {v : Value} (h : mi_ld L i = v) (hv : v ≠ .null) : L[i]? = some v := by
  unfold mi_ld at h
  rw [List.getD_eq_getElem?_getD] at h
  cases hq : L[i]? with
  | none => rw [hq] at h; exact absurd h.symm hv
  | some w => rw [hq] at h; exact congrArg some h
theorem mi_LR.at {ad : Nat → Nat} {nL : Nat} {ls : Array Slot} {L : List Value} (h : mi_LR ad nL ls L) {i : Nat} {v : Value} (hi : mi_ld L i = v) (hv : v ≠ .null) : ls[i]? = some (.val (mi_rv ad v)) := h.2.2.2 i v (mi_ld_some hi hv) hv
theorem mi_kill_succ (L : List Value) (j : Nat) : mi_kill L (j + 1) = if (mi_ld L j).category = 2 then L.set j .null else L := rfl
theorem mi_kill_len (L : List Value) (i : Nat) : (mi_kill L i).length = L.length := by
  cases i with
  | zero => rfl
  | succ j => rw [mi_kill_succ]; split <;> simp
/-- what is left of L by a store at i -/
theorem mi_kill_get {L : List Value} {i j : Nat} {w : Value} (h : (mi_kill L i)[j]? = some w) (hw : w ≠ .null) : L[j]? = some w ∧ ¬ (j + 1 = i ∧ w.category = 2) := by
  cases i with
  | zero => exact ⟨h, fun q => by omega⟩
  | succ i =>
    rw [mi_kill_succ] at h
    split at h
    · by_cases hj : j = i
      · subst hj
        rw [List.getElem?_set_self'] at h
        cases hq : L[j]? with
        | none => rw [hq] at h; cases h
        | some x => rw [hq] at h; cases h; exact absurd rfl hw
      · rw [List.getElem?_set_ne (Ne.symm hj)] at h
        exact ⟨h, fun q => hj (by omega)⟩
    · next hc =>
      refine ⟨h, fun q => ?_⟩
      have hj : j = i := by omega
      subst hj
      apply hc
      unfold mi_ld
      rw [List.getD_eq_getElem?_getD, h]
      exact q.2
theorem mi_LR.st1 {ad : Nat → Nat} {nL : Nat} {ls ls' : Array Slot} {L : List Value} (h : mi_LR ad nL ls L) {i : Nat} (v : Value) (hi : i < L.length)
    (h' : lv_has ls' nL ((i, mi_rv ad v) :: (mi_as ad L).filter (fun q => !(q.1 == i) && !(q.1 + 1 == i && q.2.category == 2)))) : mi_LR ad nL ls' (mi_st1 L i v) := by
  refine ⟨by unfold mi_st1; rw [List.length_set, mi_kill_len]; exact h.1, h'.1, h'.2.1, fun j w hj hw => ?_⟩
  unfold mi_st1 at hj
  by_cases hij : j = i
  · subst hij
    rw [List.getElem?_set_self (by rw [mi_kill_len]; exact hi)] at hj
    cases hj
    exact h'.2.2 (j, mi_rv ad v) List.mem_cons_self
  · rw [List.getElem?_set_ne (Ne.symm hij)] at hj
    obtain ⟨h1, h2⟩ := mi_kill_get hj hw
    refine h'.2.2 (j, mi_rv ad w) (List.mem_cons_of_mem _ (List.mem_filter.mpr ⟨mi_as_mem.mpr ⟨w, h1, hw, rfl⟩, ?_⟩))
    simp only [mi_rv_cat, Bool.and_eq_true, Bool.not_eq_true', beq_eq_false_iff_ne, ne_eq, Bool.and_eq_false_iff]
    refine ⟨hij, ?_⟩
    by_cases hz : j + 1 = i
    · exact Or.inr (fun q => h2 ⟨hz, q⟩)
    · exact Or.inl hz
theorem mi_LR.st2 {ad : Nat → Nat} {nL : Nat} {ls ls' : Array Slot} {L : List Value} (h : mi_LR ad nL ls L) {i : Nat} (v : Value) (hi : i + 1 < L.length)
    (h' : lv_has ls' nL ((i, mi_rv ad v) :: (mi_as ad L).filter (fun q => !(q.1 == i) && (!(q.1 == i + 1) && !(q.1 + 1 == i && q.2.category == 2))))) : mi_LR ad nL ls' (mi_st2 L i v) := by
  refine ⟨by unfold mi_st2; rw [List.length_set, List.length_set, mi_kill_len]; exact h.1, h'.1, h'.2.1, fun j w hj hw => ?_⟩
  unfold mi_st2 at hj
  by_cases hij2 : j = i + 1
  · subst hij2
    rw [List.getElem?_set_self (by rw [List.length_set, mi_kill_len]; exact hi)] at hj
    cases hj
    exact absurd rfl hw
  · rw [List.getElem?_set_ne (Ne.symm hij2)] at hj
    by_cases hij : j = i
    · subst hij
      rw [List.getElem?_set_self (by rw [mi_kill_len]; omega)] at hj
      cases hj
      exact h'.2.2 (j, mi_rv ad v) List.mem_cons_self
    · rw [List.getElem?_set_ne (Ne.symm hij)] at hj
      obtain ⟨h1, h2⟩ := mi_kill_get hj hw
      refine h'.2.2 (j, mi_rv ad w) (List.mem_cons_of_mem _ (List.mem_filter.mpr ⟨mi_as_mem.mpr ⟨w, h1, hw, rfl⟩, ?_⟩))
      simp only [mi_rv_cat, Bool.and_eq_true, Bool.not_eq_true', beq_eq_false_iff_ne, ne_eq, Bool.and_eq_false_iff]
      refine ⟨hij, hij2, ?_⟩
      by_cases hz : j + 1 = i
      · exact Or.inr (fun q => h2 ⟨hz, q⟩)
      · exact Or.inl hz
theorem mi_tgt_eq {pc : Nat} {off : Int} {t : Nat} (h : mi_tgt pc off = some t) : (pc : Int) + off = (t : Int) := by
  unfold mi_tgt at h
  split at h
  · next q hq => cases h; exact hq
  · cases h
theorem mi_find {α : Type} (l : List α) (p : α → Bool) {x : α} (h : l.find? p = some x) : x ∈ l ∧ p x = true := ⟨List.mem_of_find?_eq_some h, List.find?_some h⟩
theorem mi_KI_spec {o i : Nat} {v : Int32} (h : mi_KI o i = some v) : Cond.constant (mi_RX o) i v ∈ mi_ws := by
  unfold mi_KI at h
  cases hf : mi_tKI.find? (fun e => e.1 == o && e.2.1 == i) with
  | none => rw [hf] at h; cases h
  | some e =>
    rw [hf] at h
    cases h
    obtain ⟨h1, h2⟩ := mi_find _ _ hf
    simp only [Bool.and_eq_true, beq_iff_eq] at h2
    have h3 := mi_tKI_ok e h1
    unfold mi_PKI at h3
    rw [h2.1, h2.2] at h3
    exact mi_ws_of _ h3 rfl
theorem mi_KL_spec {o i : Nat} {v : Int64} (h : mi_KL o i = some v) : Cond.constantLong (mi_RX o) i v ∈ mi_ws := by
  unfold mi_KL at h
  cases hf : mi_tKL.find? (fun e => e.1 == o && e.2.1 == i) with
  | none => rw [hf] at h; cases h
  | some e =>
    rw [hf] at h
    cases h
    obtain ⟨h1, h2⟩ := mi_find _ _ hf
    simp only [Bool.and_eq_true, beq_iff_eq] at h2
    have h3 := mi_tKL_ok e h1
    unfold mi_PKL at h3
    rw [h2.1, h2.2] at h3
    exact mi_ws_of _ h3 rfl
section MIP
variable {p : Program} {l : Launch} {e : Env} {R : Room} {s : State} {m : MethodId} {args : Array Value} {below : List Frame} {meth : Method} {c : Code} {H : Heap} {locs : List Loc} {cells slots : Nat} {Q : State → Prop}
set_option maxHeartbeats 4000000 in
theorem mi_sim_pure {cc : ByteArray} {own len pc pc' nL : Nat} {ins : Instr} {L L' st st' : List Value} {ls : Array Slot} {ad : Nat → Nat} (hx : p.tables.exec = Jvm.exec) (hb : c.code = cc) (hown : s.vm.findClass (mi_RX own) = some m.cls) (hts : ∀ w ∈ mi_ws, w.before args s = true)
    (hp : mi_pure own ins len pc L st = some (pc', L', st')) (hd : decode cc pc = .ok (ins, len)) (hL : mi_LR ad nL ls L)
    (kk : ∀ ls', mi_LR ad nL ls' L' → W p l e R s m args below meth c H locs cells slots Q (F0 m pc' ls' (st'.map (mi_rv ad)))) : W p l e R s m args below meth c H locs cells slots Q (F0 m pc ls (st.map (mi_rv ad))) := by
  cases ins with
  | iconst n =>
    simp only [mi_pure] at hp
    split at hp
    · next h1 =>
      subst h1
      cases hp
      exact lv_iconst hx hb hd rfl (kk ls hL)
    · cases hp
  | bipush n =>
    simp only [mi_pure] at hp
    split at hp
    · next h1 =>
      subst h1
      cases hp
      exact lv_bipush hx hb hd rfl (kk ls hL)
    · cases hp
  | sipush n =>
    simp only [mi_pure] at hp
    split at hp
    · next h1 =>
      subst h1
      cases hp
      exact lv_sipush hx hb hd rfl (kk ls hL)
    · cases hp
  | lconst n =>
    simp only [mi_pure] at hp
    split at hp
    · next h1 =>
      subst h1
      cases hp
      exact lv_lconst hx hb hd rfl (kk ls hL)
    · cases hp
  | ldc i =>
    simp only [mi_pure] at hp
    split at hp
    · next h1 =>
      subst h1
      split at hp
      · next v hv =>
        cases hp
        exact lv_ldc hx hb hown (hts _ (mi_KI_spec hv)) hd (kk ls hL)
      · cases hp
    · cases hp
  | ldc2_w i =>
    simp only [mi_pure] at hp
    split at hp
    · next h1 =>
      subst h1
      split at hp
      · next v hv =>
        cases hp
        exact lv_ldc2 hx hb hown (hts _ (mi_KL_spec hv)) hd (kk ls hL)
      · cases hp
    · cases hp
  | iload_n k =>
    simp only [mi_pure] at hp
    split at hp
    · next h1 =>
      subst h1
      split at hp
      · next x hv =>
        cases hp
        exact lv_iload_n hx hb hd rfl (hL.at hv (fun q => by cases q)) (kk ls hL)
      · cases hp
    · cases hp
  | iload i =>
    simp only [mi_pure] at hp
    split at hp
    · next h1 =>
      subst h1
      split at hp
      · next x hv =>
        cases hp
        exact lv_iload hx hb hd (hL.at hv (fun q => by cases q)) (kk ls hL)
      · cases hp
    · cases hp
  | lload_n k =>
    simp only [mi_pure] at hp
    split at hp
    · next h1 =>
      subst h1
      split at hp
      · next x hv =>
        cases hp
        exact lv_lload_n hx hb hd rfl (hL.at hv (fun q => by cases q)) (kk ls hL)
      · cases hp
    · cases hp
  | lload i =>
    simp only [mi_pure] at hp
    split at hp
    · next h1 =>
      subst h1
      split at hp
      · next x hv =>
        cases hp
        exact lv_lload hx hb hd (hL.at hv (fun q => by cases q)) (kk ls hL)
      · cases hp
    · cases hp
  | aload_n k =>
    simp only [mi_pure] at hp
    split at hp
    · next h1 =>
      subst h1
      split at hp
      · next x hv =>
        cases hp
        exact lv_aload_n hx hb hd rfl (hL.at hv (fun q => by cases q)) (kk ls hL)
      · cases hp
    · cases hp
  | aload i =>
    simp only [mi_pure] at hp
    split at hp
    · next h1 =>
      subst h1
      split at hp
      · next x hv =>
        cases hp
        exact lv_aload hx hb hd (hL.at hv (fun q => by cases q)) (kk ls hL)
      · cases hp
    · cases hp
  | istore_n k =>
    simp only [mi_pure] at hp
    split at hp
    · next h1 =>
      obtain ⟨h1, h2⟩ := h1
      subst h1
      split at hp
      · next x r =>
        cases hp
        exact lv_istore_n hx hb hd rfl hL.has (by rw [← hL.1]; exact h2) rfl (fun ls' h' => kk ls' (hL.st1 (.int _) h2 h'))
      · cases hp
    · cases hp
  | istore i =>
    simp only [mi_pure] at hp
    split at hp
    · next h1 =>
      obtain ⟨h1, h2⟩ := h1
      subst h1
      split at hp
      · next x r =>
        cases hp
        exact lv_istore hx hb hd hL.has (by rw [← hL.1]; exact h2) rfl (fun ls' h' => kk ls' (hL.st1 (.int _) h2 h'))
      · cases hp
    · cases hp
  | lstore_n k =>
    simp only [mi_pure] at hp
    split at hp
    · next h1 =>
      obtain ⟨h1, h2⟩ := h1
      subst h1
      split at hp
      · next x r =>
        cases hp
        exact lv_lstore_n hx hb hd rfl hL.has (by rw [← hL.1]; exact h2) rfl (fun ls' h' => kk ls' (hL.st2 (.long _) h2 h'))
      · cases hp
    · cases hp
  | lstore i =>
    simp only [mi_pure] at hp
    split at hp
    · next h1 =>
      obtain ⟨h1, h2⟩ := h1
      subst h1
      split at hp
      · next x r =>
        cases hp
        exact lv_lstore hx hb hd hL.has (by rw [← hL.1]; exact h2) rfl (fun ls' h' => kk ls' (hL.st2 (.long _) h2 h'))
      · cases hp
    · cases hp
  | astore_n k =>
    simp only [mi_pure] at hp
    split at hp
    · next h1 =>
      obtain ⟨h1, h2⟩ := h1
      subst h1
      split at hp
      · next x r =>
        cases hp
        exact lv_astore_n hx hb hd rfl hL.has (by rw [← hL.1]; exact h2) rfl (fun ls' h' => kk ls' (hL.st1 (.ref _) h2 h'))
      · cases hp
    · cases hp
  | astore i =>
    simp only [mi_pure] at hp
    split at hp
    · next h1 =>
      obtain ⟨h1, h2⟩ := h1
      subst h1
      split at hp
      · next x r =>
        cases hp
        exact lv_astore hx hb hd hL.has (by rw [← hL.1]; exact h2) rfl (fun ls' h' => kk ls' (hL.st1 (.ref _) h2 h'))
      · cases hp
    · cases hp
  | iinc i n =>
    simp only [mi_pure] at hp
    split at hp
    · next h1 =>
      obtain ⟨h1, h2⟩ := h1
      subst h1
      split at hp
      · next x hv =>
        cases hp
        obtain ⟨k, hk⟩ := List.getElem?_of_mem (mi_as_mem (ad := ad) (q := (i, .int x)).mpr ⟨.int x, mi_ld_some hv (fun q => by cases q), (fun q => by cases q), rfl⟩)
        exact lv_iinc hx hb hd hL.has hk rfl (by rw [← hL.1]; exact h2) rfl (fun ls' h' => kk ls' (hL.st1 (.int _) h2 h'))
      · cases hp
    · cases hp
  | iadd =>
    simp only [mi_pure] at hp
    split at hp
    · next h1 =>
      subst h1
      split at hp
      · cases hp
        exact lv_iadd hx hb hd (kk ls hL)
      · cases hp
    · cases hp
  | isub =>
    simp only [mi_pure] at hp
    split at hp
    · next h1 =>
      subst h1
      split at hp
      · cases hp
        exact lv_isub hx hb hd (kk ls hL)
      · cases hp
    · cases hp
  | imul =>
    simp only [mi_pure] at hp
    split at hp
    · next h1 =>
      subst h1
      split at hp
      · cases hp
        exact lv_imul hx hb hd (kk ls hL)
      · cases hp
    · cases hp
  | iand =>
    simp only [mi_pure] at hp
    split at hp
    · next h1 =>
      subst h1
      split at hp
      · cases hp
        exact lv_iand hx hb hd (kk ls hL)
      · cases hp
    · cases hp
  | ior =>
    simp only [mi_pure] at hp
    split at hp
    · next h1 =>
      subst h1
      split at hp
      · cases hp
        exact lv_ior hx hb hd (kk ls hL)
      · cases hp
    · cases hp
  | ixor =>
    simp only [mi_pure] at hp
    split at hp
    · next h1 =>
      subst h1
      split at hp
      · cases hp
        exact lv_ixor hx hb hd (kk ls hL)
      · cases hp
    · cases hp
  | ladd =>
    simp only [mi_pure] at hp
    split at hp
    · next h1 =>
      subst h1
      split at hp
      · cases hp
        exact lv_ladd hx hb hd (kk ls hL)
      · cases hp
    · cases hp
  | lsub =>
    simp only [mi_pure] at hp
    split at hp
    · next h1 =>
      subst h1
      split at hp
      · cases hp
        exact lv_lsub hx hb hd (kk ls hL)
      · cases hp
    · cases hp
  | lmul =>
    simp only [mi_pure] at hp
    split at hp
    · next h1 =>
      subst h1
      split at hp
      · cases hp
        exact lv_lmul hx hb hd (kk ls hL)
      · cases hp
    · cases hp
  | land =>
    simp only [mi_pure] at hp
    split at hp
    · next h1 =>
      subst h1
      split at hp
      · cases hp
        exact lv_land hx hb hd (kk ls hL)
      · cases hp
    · cases hp
  | lor =>
    simp only [mi_pure] at hp
    split at hp
    · next h1 =>
      subst h1
      split at hp
      · cases hp
        exact lv_lor hx hb hd (kk ls hL)
      · cases hp
    · cases hp
  | lxor =>
    simp only [mi_pure] at hp
    split at hp
    · next h1 =>
      subst h1
      split at hp
      · cases hp
        exact lv_lxor hx hb hd (kk ls hL)
      · cases hp
    · cases hp
  | lneg =>
    simp only [mi_pure] at hp
    split at hp
    · next h1 =>
      subst h1
      split at hp
      · cases hp
        exact lv_lneg hx hb hd (kk ls hL)
      · cases hp
    · cases hp
  | ishl =>
    simp only [mi_pure] at hp
    split at hp
    · next h1 =>
      subst h1
      split at hp
      · cases hp
        exact lv_ishl hx hb hd (kk ls hL)
      · cases hp
    · cases hp
  | ishr =>
    simp only [mi_pure] at hp
    split at hp
    · next h1 =>
      subst h1
      split at hp
      · cases hp
        exact lv_ishr hx hb hd (kk ls hL)
      · cases hp
    · cases hp
  | lshl =>
    simp only [mi_pure] at hp
    split at hp
    · next h1 =>
      subst h1
      split at hp
      · cases hp
        exact lv_lshl hx hb hd rfl (kk ls hL)
      · cases hp
    · cases hp
  | lshr =>
    simp only [mi_pure] at hp
    split at hp
    · next h1 =>
      subst h1
      split at hp
      · cases hp
        exact lv_lshr hx hb hd rfl (kk ls hL)
      · cases hp
    · cases hp
  | lushr =>
    simp only [mi_pure] at hp
    split at hp
    · next h1 =>
      subst h1
      split at hp
      · cases hp
        exact lv_lushr hx hb hd rfl (kk ls hL)
      · cases hp
    · cases hp
  | i2l =>
    simp only [mi_pure] at hp
    split at hp
    · next h1 =>
      subst h1
      split at hp
      · cases hp
        exact lv_i2l hx hb hd rfl (kk ls hL)
      · cases hp
    · cases hp
  | l2i =>
    simp only [mi_pure] at hp
    split at hp
    · next h1 =>
      subst h1
      split at hp
      · cases hp
        exact lv_l2i hx hb hd rfl (kk ls hL)
      · cases hp
    · cases hp
  | lcmp =>
    simp only [mi_pure] at hp
    split at hp
    · next h1 =>
      subst h1
      split at hp
      · cases hp
        exact W.lcmp hx hb hd (kk ls hL)
      · cases hp
    · cases hp
  | idiv =>
    simp only [mi_pure] at hp
    split at hp
    · next h1 =>
      subst h1
      split at hp
      · split at hp
        · cases hp
        · next h2 =>
          cases hp
          exact lv_idiv hx hb hd h2 (kk ls hL)
      · cases hp
    · cases hp
  | irem =>
    simp only [mi_pure] at hp
    split at hp
    · next h1 =>
      subst h1
      split at hp
      · split at hp
        · cases hp
        · next h2 =>
          cases hp
          exact lv_irem hx hb hd h2 (kk ls hL)
      · cases hp
    · cases hp
  | ldiv =>
    simp only [mi_pure] at hp
    split at hp
    · next h1 =>
      subst h1
      split at hp
      · split at hp
        · cases hp
        · next h2 =>
          cases hp
          exact lv_ldiv hx hb hd h2 (kk ls hL)
      · cases hp
    · cases hp
  | lrem =>
    simp only [mi_pure] at hp
    split at hp
    · next h1 =>
      subst h1
      split at hp
      · split at hp
        · cases hp
        · next h2 =>
          cases hp
          exact lv_lrem hx hb hd h2 (kk ls hL)
      · cases hp
    · cases hp
  | dup =>
    simp only [mi_pure] at hp
    split at hp
    · next h1 =>
      subst h1
      split at hp
      · split at hp
        · next h2 =>
          cases hp
          exact lv_dup hx hb hd (by rw [mi_rv_cat]; exact h2) (kk ls hL)
        · cases hp
      · cases hp
    · cases hp
  | pop =>
    simp only [mi_pure] at hp
    split at hp
    · next h1 =>
      subst h1
      split at hp
      · split at hp
        · next h2 =>
          cases hp
          exact lv_pop hx hb hd (by rw [mi_rv_cat]; exact h2) (kk ls hL)
        · cases hp
      · cases hp
    · cases hp
  | dup_x1 =>
    simp only [mi_pure] at hp
    split at hp
    · next h1 =>
      subst h1
      split at hp
      · split at hp
        · next h2 =>
          cases hp
          exact lv_dup_x1 hx hb hd (by rw [mi_rv_cat]; exact h2.1) (by rw [mi_rv_cat]; exact h2.2) (kk ls hL)
        · cases hp
      · cases hp
    · cases hp
  | dup2 =>
    simp only [mi_pure] at hp
    split at hp
    · next h1 =>
      subst h1
      split at hp
      · split at hp
        · next h2 =>
          cases hp
          exact lv_dup2_11 hx hb hd (by rw [mi_rv_cat]; exact h2.1) (by rw [mi_rv_cat]; exact h2.2) (kk ls hL)
        · cases hp
      · cases hp
    · cases hp
  | ifCond cd off =>
    simp only [mi_pure] at hp
    split at hp
    · next h1 =>
      subst h1
      split at hp
      · split at hp
        · next t ht =>
          cases hp
          have k0 := kk ls hL
          have ht := mi_tgt_eq ht
          cases cd with
          | eq =>
            refine lv_if_eq hx hb hd ht (fun h => ?_) (fun h => ?_)
            · rw [show mi_c0 .eq _ = true by simp [mi_c0, h]] at k0; exact k0
            · rw [show mi_c0 .eq _ = false by simp [mi_c0]; first | exact h | exact Int32.not_lt.mp h | exact Int32.not_le.mp h] at k0; exact k0
          | ne =>
            refine lv_if_ne hx hb hd ht (fun h => ?_) (fun h => ?_)
            · rw [show mi_c0 .ne _ = true by simp [mi_c0, h]] at k0; exact k0
            · rw [show mi_c0 .ne _ = false by simp [mi_c0]; first | exact h | exact Int32.not_lt.mp h | exact Int32.not_le.mp h] at k0; exact k0
          | lt =>
            refine lv_if_lt hx hb hd ht (fun h => ?_) (fun h => ?_)
            · rw [show mi_c0 .lt _ = true by simp [mi_c0, h]] at k0; exact k0
            · rw [show mi_c0 .lt _ = false by simp [mi_c0]; first | exact h | exact Int32.not_lt.mp h | exact Int32.not_le.mp h] at k0; exact k0
          | ge =>
            refine lv_if_ge hx hb hd ht (fun h => ?_) (fun h => ?_)
            · rw [show mi_c0 .ge _ = true by simp [mi_c0, h]] at k0; exact k0
            · rw [show mi_c0 .ge _ = false by simp [mi_c0]; first | exact h | exact Int32.not_lt.mp h | exact Int32.not_le.mp h] at k0; exact k0
          | gt =>
            refine lv_if_gt hx hb hd ht (fun h => ?_) (fun h => ?_)
            · rw [show mi_c0 .gt _ = true by simp [mi_c0, h]] at k0; exact k0
            · rw [show mi_c0 .gt _ = false by simp [mi_c0]; first | exact h | exact Int32.not_lt.mp h | exact Int32.not_le.mp h] at k0; exact k0
          | le =>
            refine lv_if_le hx hb hd ht (fun h => ?_) (fun h => ?_)
            · rw [show mi_c0 .le _ = true by simp [mi_c0, h]] at k0; exact k0
            · rw [show mi_c0 .le _ = false by simp [mi_c0]; first | exact h | exact Int32.not_lt.mp h | exact Int32.not_le.mp h] at k0; exact k0
        · cases hp
      · cases hp
    · cases hp
  | if_icmp cd off =>
    simp only [mi_pure] at hp
    split at hp
    · next h1 =>
      subst h1
      split at hp
      · split at hp
        · next t ht =>
          cases hp
          have k0 := kk ls hL
          have ht := mi_tgt_eq ht
          cases cd with
          | eq =>
            refine lv_icmp_eq hx hb hd ht (fun h => ?_) (fun h => ?_)
            · rw [show mi_c2 .eq _ _ = true by simp [mi_c2, h]] at k0; exact k0
            · rw [show mi_c2 .eq _ _ = false by simp [mi_c2]; first | exact h | exact Int32.not_lt.mp h | exact Int32.not_le.mp h] at k0; exact k0
          | ne =>
            refine lv_icmp_ne hx hb hd ht (fun h => ?_) (fun h => ?_)
            · rw [show mi_c2 .ne _ _ = true by simp [mi_c2, h]] at k0; exact k0
            · rw [show mi_c2 .ne _ _ = false by simp [mi_c2]; first | exact h | exact Int32.not_lt.mp h | exact Int32.not_le.mp h] at k0; exact k0
          | lt =>
            refine lv_icmp_lt hx hb hd ht (fun h => ?_) (fun h => ?_)
            · rw [show mi_c2 .lt _ _ = true by simp [mi_c2, h]] at k0; exact k0
            · rw [show mi_c2 .lt _ _ = false by simp [mi_c2]; first | exact h | exact Int32.not_lt.mp h | exact Int32.not_le.mp h] at k0; exact k0
          | ge =>
            refine lv_icmp_ge hx hb hd ht (fun h => ?_) (fun h => ?_)
            · rw [show mi_c2 .ge _ _ = true by simp [mi_c2, h]] at k0; exact k0
            · rw [show mi_c2 .ge _ _ = false by simp [mi_c2]; first | exact h | exact Int32.not_lt.mp h | exact Int32.not_le.mp h] at k0; exact k0
          | gt =>
            refine lv_icmp_gt hx hb hd ht (fun h => ?_) (fun h => ?_)
            · rw [show mi_c2 .gt _ _ = true by simp [mi_c2, h]] at k0; exact k0
            · rw [show mi_c2 .gt _ _ = false by simp [mi_c2]; first | exact h | exact Int32.not_lt.mp h | exact Int32.not_le.mp h] at k0; exact k0
          | le =>
            refine lv_icmp_le hx hb hd ht (fun h => ?_) (fun h => ?_)
            · rw [show mi_c2 .le _ _ = true by simp [mi_c2, h]] at k0; exact k0
            · rw [show mi_c2 .le _ _ = false by simp [mi_c2]; first | exact h | exact Int32.not_lt.mp h | exact Int32.not_le.mp h] at k0; exact k0
        · cases hp
      · cases hp
    · cases hp
  | goto off =>
    simp only [mi_pure] at hp
    split at hp
    · next h1 =>
      subst h1
      split at hp
      · next t ht =>
        cases hp
        exact lv_goto hx hb hd (mi_tgt_eq ht) (kk ls hL)
      · cases hp
    · cases hp
  | tableswitch dflt lo hi offs =>
    simp only [mi_pure] at hp
    split at hp
    · split at hp
      · next h1 =>
        split at hp
        · next t ht =>
          cases hp
          exact lv_tableOut hx hb hd h1 (mi_tgt_eq ht) (kk ls hL)
        · cases hp
      · next h1 =>
        split at hp
        · next off ho =>
          split at hp
          · next t ht =>
            cases hp
            exact lv_tableIn hx hb hd (fun q => h1 (Or.inl q)) (fun q => h1 (Or.inr q)) ho (mi_tgt_eq ht) (kk ls hL)
          · cases hp
        · cases hp
    · cases hp
  | lookupswitch dflt ps =>
    simp only [mi_pure] at hp
    split at hp
    · split at hp
      · next h1 =>
        split at hp
        · next t ht =>
          cases hp
          exact lv_lookup hx hb hd h1 rfl (mi_tgt_eq ht) (kk ls hL)
        · cases hp
      · cases hp
    · cases hp
  | _ => exact absurd (show (none : Option (Nat × List Value × List Value)) = some _ from hp) (fun h => by cases h)
end MIP
