/-! THE JVM DOES WHAT THE SMALL MACHINE DOES: the cells, an instruction each -/
def mi_tys (cA : mi_cA) : List (ClassId × FieldType) := [(cA.1, .int), (cA.2.1, .long), (cA.2.2, .boolean)]
def mi_nest : List Cond := (mi_tC.filter (fun e => decide (3 ≤ e.2.2.2.2.1))).map (fun e => Cond.methodLinkNest (mi_RX e.1) e.2.1 (mi_N e.2.2.1) "LedgerTwice")
def mi_K (D : va_G) (cA : mi_cA) (H0 : Heap) (tl : Nat) (U : State) : Prop := va_K D vwCl (mi_tys cA) U ∧ (∀ w ∈ mi_nest, va_Nw w U) ∧ va_Z "LedgerTwice$Sheet" "LETTERS" "[C" (.ref tl) (fun q => H0.size ≤ q) U H0
def mi_Cx (p : Program) (s : State) (m : MethodId) (args : Array Value) (meth : Method) (c : Code) (y : Nat) (D : va_G) (cA : mi_cA) (H0 : Heap) (tl : Nat) : Prop :=
  p.tables.exec = Jvm.exec ∧ c.code = mi_B y ∧ s.vm.findClass (mi_RX (mi_O y)) = some m.cls ∧ (∀ w ∈ mi_ws, w.before args s = true) ∧ (mi_X y = true → meth.name = "<init>") ∧ mi_K D cA H0 tl s ∧ c.maxLocals = mi_L y
theorem mi_F_spec {o i k sl : Nat} (h : mi_F o i = some (k, sl)) : Cond.fieldLink (mi_RX o) i (mi_T k sl).1 (mi_T k sl).2.1 (mi_T k sl).2.2.1 ∈ mi_ws ∧ sl < mi_n k ∧ k < 13 ∧ (mi_T k sl).1 = mi_RX k ∧ k ≠ 3 ∧ k ≠ 6 := by
  unfold mi_F at h
  cases hf : mi_tF.find? (fun e => e.1 == o && e.2.1 == i) with
  | none => rw [hf] at h; cases h
  | some e =>
    rw [hf] at h
    obtain ⟨e1, e2, e3, e4, e5⟩ := e
    cases h
    obtain ⟨h1, h2⟩ := mi_find _ _ hf
    simp only [Bool.and_eq_true, beq_iff_eq] at h2
    have h3 := mi_tF_ok _ h1
    unfold mi_PF at h3
    obtain ⟨q1, q2, q3, q4, q5, q6⟩ := h3
    rw [h2.1, h2.2] at q1
    exact ⟨mi_ws_of _ q1 rfl, q2, q3, q4, q5, q6⟩
theorem mi_W_spec {o i k : Nat} (h : mi_W o i = some k) : Cond.classLink (mi_RX o) i (mi_RX k) ∈ mi_ws ∧ Cond.instantiable (mi_RX k) (mi_n k) ∈ mi_ws ∧ Cond.initialized (mi_RX k) ∈ mi_ws ∧ k < 13 := by
  unfold mi_W at h
  cases hf : mi_tW.find? (fun e => e.1 == o && e.2.1 == i) with
  | none => rw [hf] at h; cases h
  | some e =>
    rw [hf] at h
    obtain ⟨e1, e2, e3, e4, e5, e6⟩ := e
    cases h
    obtain ⟨h1, h2⟩ := mi_find _ _ hf
    simp only [Bool.and_eq_true, beq_iff_eq] at h2
    have h3 := mi_tW_ok _ h1
    unfold mi_PW at h3
    obtain ⟨q1, q2, q3, q4⟩ := h3
    rw [h2.1, h2.2] at q1
    exact ⟨mi_ws_of _ q1 rfl, mi_ws_of _ q2 rfl, mi_ws_of _ q3 rfl, q4⟩
theorem mi_inws (k : Nat) (h : k < 13) : ∀ w ∈ u_ws (mi_RX k) (mi_T k) (mi_n k), w ∈ mi_ws := by
  intro w hw
  refine List.mem_filter.mpr ⟨mi_in k h w hw, ?_⟩
  obtain ⟨j, -, rfl⟩ := List.mem_map.mp hw
  unfold u_lay
  split <;> rfl
def mi_fs (ad : Nat → Nat) (δ : mi_D) (a k : Nat) (rs : List Nat) : List Value := (List.range (mi_n k)).map (mi_fv ad δ a k rs)
theorem mi_fs_get {ad : Nat → Nat} {δ : mi_D} {a k sl : Nat} {rs : List Nat} (h : sl < mi_n k) : (mi_fs ad δ a k rs)[sl]? = some (mi_fv ad δ a k rs sl) := by
  unfold mi_fs
  rw [List.getElem?_map, List.getElem?_range h]
  rfl
theorem mi_fs_len {ad : Nat → Nat} {δ : mi_D} {a k : Nat} {rs : List Nat} : (mi_fs ad δ a k rs).length = mi_n k := by
  unfold mi_fs
  simp
theorem mi_cell_obj {cA : mi_cA} {ad ad2 : Nat → Nat} {g : mi_G} {δ : mi_D} {a k : Nat} (hk : mi_k g a = k) (h13 : k < 13) (h3 : k ≠ 3) (h6 : k ≠ 6) : mi_cell cA ad ad2 g δ a = .inr (k, mi_fs ad δ a k (mi_rs g a)) := by
  unfold mi_cell
  rw [hk, if_neg (by omega), if_pos h13]
  rfl
theorem mi_cell_20 {cA : mi_cA} {ad ad2 : Nat → Nat} {g : mi_G} {δ : mi_D} {a : Nat} (hk : mi_k g a = 20) : mi_cell cA ad ad2 g δ a = .inl (cA.1, mi_len g a, .inl (δ.2.1 a)) := by
  unfold mi_cell
  rw [hk, if_neg (by omega), if_neg (by omega), if_pos rfl]
theorem mi_cell_21 {cA : mi_cA} {ad ad2 : Nat → Nat} {g : mi_G} {δ : mi_D} {a : Nat} (hk : mi_k g a = 21) : mi_cell cA ad ad2 g δ a = .inl (cA.2.1, mi_len g a, .inr (.inl (δ.2.2 a))) := by
  unfold mi_cell
  rw [hk, if_neg (by omega), if_neg (by omega), if_neg (by omega), if_pos rfl]
theorem mi_cell_22 {cA : mi_cA} {ad ad2 : Nat → Nat} {g : mi_G} {δ : mi_D} {a : Nat} (hk : mi_k g a = 22) : mi_cell cA ad ad2 g δ a = .inl (cA.2.2, mi_len g a, .inl (δ.2.1 a)) := by
  unfold mi_cell
  rw [hk, if_neg (by omega), if_neg (by omega), if_neg (by omega), if_neg (by omega)]
theorem mi_at_one {D : va_G} {q : Nat × va_E} {H : Heap} (h : va_at D vwCl q H) : va_P D vwCl [q] H := by
  intro k x hx
  have hk : k = 0 := by
    have := (List.getElem?_eq_some_iff.mp hx).1
    simp at this
    exact this
  subst hk
  cases hx
  exact h
theorem mi_ix_vp {i : Int32} {n : Nat} (h : mi_ix i n = true) : vp_in i n := by
  unfold mi_ix at h
  simp only [Bool.and_eq_true, Bool.not_eq_true', decide_eq_false_iff_not, decide_eq_true_eq] at h
  rintro (q | q)
  · exact h.1 q
  · omega
set_option maxRecDepth 100000 in
theorem mi_let_word : Cond.fieldLink (mi_RX mi_let.1) mi_let.2 "LedgerTwice$Sheet" "LETTERS" "[C" ∈ mi_ws := mi_ws_of 1064 rfl rfl
section MIH
variable {p : Program} {l : Launch} {e : Env} {R : Room} {s : State} {m : MethodId} {args : Array Value} {below : List Frame} {meth : Method} {c : Code} {H : Heap} {locs : List Loc} {cells slots : Nat} {Q : State → Prop}
variable {y pc i k sl a : Nat} {ls : Array Slot} {rest : List Value} {D : va_G} {cA : mi_cA} {H0 : Heap} {tl : Nat} {ad ad2 : Nat → Nat} {g : mi_G} {δ : mi_D} {cp : Nat → Nat}
theorem mi_r_get (C : mi_Cx p s m args meth c y D cA H0 tl) (hd : decode (mi_B y) pc = .ok (.getfield i, 3)) (hF : mi_F (mi_O y) i = some (k, sl)) (hk : mi_k g a = k) (hR : mi_Rel D cA H0 tl ad ad2 g δ cp s H)
    (kk : W p l e R s m args below meth c H locs cells slots Q (F0 m (pc + 3) ls (mi_fv ad δ a k (mi_rs g a) sl :: rest))) : W p l e R s m args below meth c H locs cells slots Q (F0 m pc ls (.ref (ad a) :: rest)) := by
  obtain ⟨hx, hb, hown, hts, -, hK, -⟩ := C
  obtain ⟨f1, f2, f3, f4, f5, f6⟩ := mi_F_spec hF
  have hc := (hR.2.1 a (Or.inl (by rw [hk]; exact f3))).1
  rw [mi_cell_obj hk f3 f5 f6] at hc
  exact va_get (D := D) (cl := vwCl) (tys := mi_tys cA) (ws := [(ad a, .inr (k, mi_fs ad δ a k (mi_rs g a)))]) (C := mi_RX k) (T := mi_T k) (N := mi_n k) (ref := (mi_T k sl).1) (Ts := mi_ws) hx hb hts (mi_inws k f3) hown hK.1 (mi_at_one hc) 0 rfl (mi_cl k f3) sl f2 (hts _ f1) (fun _ h => h) (mi_fs_get f2) hd kk
theorem mi_r_put (C : mi_Cx p s m args meth c y D cA H0 tl) (hd : decode (mi_B y) pc = .ok (.putfield i, 3)) (hF : mi_F (mi_O y) i = some (k, sl)) (hk : mi_k g a = k) (hR : mi_Rel D cA H0 tl ad ad2 g δ cp s H) {v : Value}
    (hfin : (mi_T k sl).2.2.2 = false ∨ ((mi_T k sl).2.2.2 = true ∧ mi_X y = true ∧ mi_O y = k)) (hn : narrow (mi_Ty k sl) v = v) (hfit : fits (mi_Ty k sl) v = true)
    (kk : ∀ H1 : Heap, H1.size = H.size → (∀ q : Nat, q ≠ ad a → H1[q]? = H[q]?) → va_at D vwCl (ad a, .inr (k, (mi_fs ad δ a k (mi_rs g a)).set sl v)) H1 → ∀ z : Loc, z.base = ad a → W p l e R s m args below meth c H1 (locs ++ [z]) cells slots Q (F0 m (pc + 3) ls rest)) : W p l e R s m args below meth c H locs cells slots Q (F0 m pc ls (v :: .ref (ad a) :: rest)) := by
  obtain ⟨hx, hb, hown, hts, hin, hK, -⟩ := C
  obtain ⟨f1, f2, f3, f4, f5, f6⟩ := mi_F_spec hF
  have hc0 := (hR.2.1 a (Or.inl (by rw [hk]; exact f3))).1
  rw [mi_cell_obj hk f3 f5 f6] at hc0
  have hcl := mi_cl k f3
  have hap := va_apart (own := mi_RX (mi_O y)) hts (mi_inws k f3) (mi_Ty k) (mi_Ty_ok k f3) (mi_nm_ok k f3) hK.1 hcl
  obtain ⟨r, h1, cell, q1, q2, q3, q4⟩ := hc0
  have hr : r = (mi_RX k, mi_T k, mi_n k) := Option.some.inj (h1.symm.trans hcl)
  subst hr
  obtain ⟨hS, hfc, kC, hkC, hkind⟩ := hK.1.1 k _ hcl
  obtain ⟨cf, kf, fi, f, hi, hsl⟩ := hS sl f2
  have hst := (u_facts hfc hkC (u_lays hts (mi_inws k f3) f2) hi).1
  have hlay := hts _ (mi_inws k f3 _ (u_in_lay f2))
  have fin : ∀ H' : Heap, H'[ad a]? = some (cell.setSlot (D.2 k sl) v) → H'.size = H.size → (∀ q, q ≠ ad a → H'[q]? = H[q]?) → va_at D vwCl (ad a, .inr (k, (mi_fs ad δ a k (mi_rs g a)).set sl v)) H' :=
    fun H' e1 e2 e3 => ⟨_, hcl, t_OB.to (V := updV (vp_V (mi_fs ad δ a k (mi_rs g a))) sl v) ⟨_, e1, q2, q3, t_set q4 hap f2 v⟩ (fun j _ => vp_updV_set (by rw [mi_fs_len]; exact f2) v j)⟩
  unfold u_lay at hlay
  rcases hfin with hfin | ⟨hfin, hini, hO⟩
  · rw [if_neg (by rw [hfin]; decide)] at hlay
    have h6 := u_store hfc hkC hkind hlay hi (mi_Ty_ok k f3 sl f2) hn hfit
    refine W.putK hx hb (f := f) ⟨hown, hts _ f1, ⟨_, _, _, hi⟩, hst⟩ (by rw [q2]; exact h6) q1 q3 (by rw [hsl]; exact k2_hasslot (q4 sl f2)) rfl rfl hd fun H' e1 e2 e3 => ?_
    rw [hsl] at e1 ⊢
    exact kk H' e2 e3 (fin H' e1 e2 e3) _ rfl
  · rw [if_pos hfin] at hlay
    have hcf : m.cls = cf := by
      obtain ⟨_, _, c', _, _, _, -, -, hf', -, -, -, hown2, -⟩ := Cond.laysFinal_spec hlay
      have e1 : c' = cf := by have := hi.symm.trans hf'; simp at this; exact this.1.symm
      rw [f4, ← hO] at hown2
      rw [← e1]; exact Option.some.inj (hown.symm.trans hown2)
    have h6 := u_fits hfc hkC hkind (Or.inr hlay) hi (mi_Ty_ok k f3 sl f2) hn hfit
    refine W.putFinK hx hb hown (hts _ f1) hi hst hcf (hin hini) (by rw [q2]; exact h6) q1 q3 (by rw [hsl]; exact k2_hasslot (q4 sl f2)) rfl rfl hd fun H' e1 e2 e3 => ?_
    rw [hsl] at e1 ⊢
    exact kk H' e2 e3 (fin H' e1 e2 e3) _ rfl
theorem mi_r_iald (C : mi_Cx p s m args meth c y D cA H0 tl) (hd : decode (mi_B y) pc = .ok (.iaload, 1)) (hk : mi_k g a = 20 ∨ mi_k g a = 24) (hR : mi_Rel D cA H0 tl ad ad2 g δ cp s H) {j : Int32} (hj : mi_ix j (mi_len g a) = true)
    (kk : W p l e R s m args below meth c H locs cells slots Q (F0 m (pc + 1) ls (.int (δ.2.1 a j.toNatClampNeg) :: rest))) : W p l e R s m args below meth c H locs cells slots Q (F0 m pc ls (.int j :: .ref (ad a) :: rest)) := by
  obtain ⟨hx, hb, hown, hts, hin, hK, -⟩ := C
  rcases hk with hk | hk
  · have hc := (hR.2.1 a (Or.inr (Or.inl hk))).1
    rw [mi_cell_20 hk] at hc
    exact va_iald (D := D) (cl := vwCl) (ws := [(ad a, .inl (cA.1, mi_len g a, .inl (δ.2.1 a)))]) hx hb hK.1 (mi_at_one hc) 0 0 rfl rfl (mi_ix_vp hj) hd kk
  · obtain ⟨h1, scr, h2, h3, h4, h5, h6⟩ := hR.2.2.2.2.2.2.1 a hk
    have hv := mi_ix_vp hj
    exact W.iald (v := .int (δ.2.1 a j.toNatClampNeg)) hx hb (by rw [hR.1.2 _ h1]; exact h2) h3 h4 (fun q => hv (q.imp id (fun q => Nat.le_trans h5.1 q))) (h6 _ (Nat.not_le.mp fun q => hv (Or.inr q))) rfl rfl hd kk
theorem mi_r_bald (C : mi_Cx p s m args meth c y D cA H0 tl) (hd : decode (mi_B y) pc = .ok (.baload, 1)) (hk : mi_k g a = 22) (hR : mi_Rel D cA H0 tl ad ad2 g δ cp s H) {j : Int32} (hj : mi_ix j (mi_len g a) = true)
    (kk : W p l e R s m args below meth c H locs cells slots Q (F0 m (pc + 1) ls (.int (δ.2.1 a j.toNatClampNeg) :: rest))) : W p l e R s m args below meth c H locs cells slots Q (F0 m pc ls (.int j :: .ref (ad a) :: rest)) := by
  obtain ⟨hx, hb, hown, hts, hin, hK, -⟩ := C
  have hc := (hR.2.1 a (Or.inr (Or.inr (Or.inr hk)))).1
  rw [mi_cell_22 hk] at hc
  exact va_zald (D := D) (cl := vwCl) (ws := [(ad a, .inl (cA.2.2, mi_len g a, .inl (δ.2.1 a)))]) hx hb hK.1 (mi_at_one hc) 0 2 rfl rfl (mi_ix_vp hj) hd kk
theorem mi_r_lald (C : mi_Cx p s m args meth c y D cA H0 tl) (hd : decode (mi_B y) pc = .ok (.laload, 1)) (hk : mi_k g a = 21) (hR : mi_Rel D cA H0 tl ad ad2 g δ cp s H) {j : Int32} (hj : mi_ix j (mi_len g a) = true)
    (kk : W p l e R s m args below meth c H locs cells slots Q (F0 m (pc + 1) ls (.long (δ.2.2 a j.toNatClampNeg) :: rest))) : W p l e R s m args below meth c H locs cells slots Q (F0 m pc ls (.int j :: .ref (ad a) :: rest)) := by
  obtain ⟨hx, hb, hown, hts, hin, hK, -⟩ := C
  have hc := (hR.2.1 a (Or.inr (Or.inr (Or.inl hk)))).1
  rw [mi_cell_21 hk] at hc
  exact va_lald (D := D) (cl := vwCl) (ws := [(ad a, .inl (cA.2.1, mi_len g a, .inr (.inl (δ.2.2 a))))]) hx hb hK.1 (mi_at_one hc) 0 1 rfl rfl (mi_ix_vp hj) hd kk
theorem mi_r_cald (C : mi_Cx p s m args meth c y D cA H0 tl) (hd : decode (mi_B y) pc = .ok (.caload, 1)) (hk : mi_k g a = 25) (hR : mi_Rel D cA H0 tl ad ad2 g δ cp s H) {j : Int32} (hj : mi_ix j (mi_len g a) = true)
    (kk : W p l e R s m args below meth c H locs cells slots Q (F0 m (pc + 1) ls (.int (δ.2.1 a j.toNatClampNeg) :: rest))) : W p l e R s m args below meth c H locs cells slots Q (F0 m pc ls (.int j :: .ref (ad a) :: rest)) := by
  obtain ⟨hx, hb, hown, hts, hin, hK, -⟩ := C
  obtain ⟨h1, scr, h2, h3, h4, h5, h6⟩ := hR.2.2.2.2.2.2.2.1 a hk
  have hv := mi_ix_vp hj
  exact W.cald (v := .int (δ.2.1 a j.toNatClampNeg)) hx hb (by rw [hR.1.2 _ h1]; exact h2) h3 h4 (fun q => hv (q.imp id (fun q => Nat.le_trans h5.1 q))) (h6 _ (Nat.not_le.mp fun q => hv (Or.inr q))) rfl rfl hd kk
theorem mi_r_alen (C : mi_Cx p s m args meth c y D cA H0 tl) (hd : decode (mi_B y) pc = .ok (.arraylength, 1)) (hk : 20 ≤ mi_k g a ∧ mi_k g a ≤ 25 ∧ mi_k g a ≠ 23) (hR : mi_Rel D cA H0 tl ad ad2 g δ cp s H)
    (kk : W p l e R s m args below meth c H locs cells slots Q (F0 m (pc + 1) ls (.int (nI (mi_len g a)) :: rest))) : W p l e R s m args below meth c H locs cells slots Q (F0 m pc ls (.ref (ad a) :: rest)) := by
  obtain ⟨hx, hb, hown, hts, hin, hK, -⟩ := C
  rcases (show mi_k g a = 20 ∨ mi_k g a = 21 ∨ mi_k g a = 22 ∨ mi_k g a = 24 ∨ mi_k g a = 25 by omega) with hk | hk | hk | hk | hk
  · have hc := (hR.2.1 a (Or.inr (Or.inl hk))).1
    rw [mi_cell_20 hk] at hc
    exact va_alen (D := D) (cl := vwCl) (ws := [(ad a, .inl (cA.1, mi_len g a, .inl (δ.2.1 a)))]) hx hb hK.1 (mi_at_one hc) 0 0 rfl (ty := .int) rfl rfl hd kk
  · have hc := (hR.2.1 a (Or.inr (Or.inr (Or.inl hk)))).1
    rw [mi_cell_21 hk] at hc
    exact va_alen (D := D) (cl := vwCl) (ws := [(ad a, .inl (cA.2.1, mi_len g a, .inr (.inl (δ.2.2 a))))]) hx hb hK.1 (mi_at_one hc) 0 1 rfl (ty := .long) rfl rfl hd kk
  · have hc := (hR.2.1 a (Or.inr (Or.inr (Or.inr hk)))).1
    rw [mi_cell_22 hk] at hc
    exact va_alen (D := D) (cl := vwCl) (ws := [(ad a, .inl (cA.2.2, mi_len g a, .inl (δ.2.1 a)))]) hx hb hK.1 (mi_at_one hc) 0 2 rfl (ty := .boolean) rfl rfl hd kk
  · obtain ⟨h1, scr, h2, h3, h4, h5, h6⟩ := hR.2.2.2.2.2.2.1 a hk
    exact W.alen (n := nI (mi_len g a)) hx hb (by rw [hR.1.2 _ h1]; exact h2) h3 h5.2 rfl rfl hd kk
  · obtain ⟨h1, scr, h2, h3, h4, h5, h6⟩ := hR.2.2.2.2.2.2.2.1 a hk
    exact W.alen (n := nI (mi_len g a)) hx hb (by rw [hR.1.2 _ h1]; exact h2) h3 h5.2 rfl rfl hd kk
theorem mi_updA (δ : mi_D) (a k : Nat) (v : Int32) : (mi_setA δ a k v).2.1 a = upd (δ.2.1 a) k v := by
  funext j
  unfold mi_setA upd
  by_cases h : j = k <;> simp [h]
theorem mi_updL (δ : mi_D) (a k : Nat) (v : Int64) : (mi_setL δ a k v).2.2 a = vp_updL (δ.2.2 a) k v := by
  funext j
  unfold mi_setL vp_updL
  by_cases h : j = k <;> simp [h]
theorem mi_r_iast (C : mi_Cx p s m args meth c y D cA H0 tl) (hd : decode (mi_B y) pc = .ok (.iastore, 1)) (hk : mi_k g a = 20) (hR : mi_Rel D cA H0 tl ad ad2 g δ cp s H) {j v : Int32} (hj : mi_ix j (mi_len g a) = true)
    (kk : ∀ H1 : Heap, H1.size = H.size → (∀ q : Nat, q ≠ ad a → H1[q]? = H[q]?) → va_at D vwCl (ad a, .inl (cA.1, mi_len g a, .inl (upd (δ.2.1 a) j.toNatClampNeg v))) H1 → ∀ z : Loc, z.base = ad a → W p l e R s m args below meth c H1 (locs ++ [z]) cells slots Q (F0 m (pc + 1) ls rest)) : W p l e R s m args below meth c H locs cells slots Q (F0 m pc ls (.int v :: .int j :: .ref (ad a) :: rest)) := by
  obtain ⟨hx, hb, hown, hts, hin, hK, -⟩ := C
  have hc := (hR.2.1 a (Or.inr (Or.inl hk))).1
  rw [mi_cell_20 hk] at hc
  refine W.iast hx hb hc ((hK.1.2 0 _ rfl).1 (mi_len g a) (fun j => .int (δ.2.1 a j))) (fun q => by cases q) (by show ¬ (j < 0 ∨ (arrV _ _ _).slots.size ≤ _); rw [arrV_size]; exact mi_ix_vp hj) rfl rfl hd fun H1 e z oq => ?_
  refine kk H1 z oq ?_ _ rfl
  show H1[ad a]? = some (vp_cell _ _)
  rw [e]
  rw [vp_cell_i, vp_cell_i, arrV_store]
  congr 2
  funext q
  by_cases hq : q = j.toNatClampNeg
  · subst hq
    simp [updV, upd]
  · simp [updV, upd, hq]
theorem mi_r_last (C : mi_Cx p s m args meth c y D cA H0 tl) (hd : decode (mi_B y) pc = .ok (.lastore, 1)) (hk : mi_k g a = 21) (hR : mi_Rel D cA H0 tl ad ad2 g δ cp s H) {j : Int32} {v : Int64} (hj : mi_ix j (mi_len g a) = true)
    (kk : ∀ H1 : Heap, H1.size = H.size → (∀ q : Nat, q ≠ ad a → H1[q]? = H[q]?) → va_at D vwCl (ad a, .inl (cA.2.1, mi_len g a, .inr (.inl (vp_updL (δ.2.2 a) j.toNatClampNeg v)))) H1 → ∀ z : Loc, z.base = ad a → W p l e R s m args below meth c H1 (locs ++ [z]) cells slots Q (F0 m (pc + 1) ls rest)) : W p l e R s m args below meth c H locs cells slots Q (F0 m pc ls (.long v :: .int j :: .ref (ad a) :: rest)) := by
  obtain ⟨hx, hb, hown, hts, hin, hK, -⟩ := C
  have hc := (hR.2.1 a (Or.inr (Or.inr (Or.inl hk)))).1
  rw [mi_cell_21 hk] at hc
  refine W.last hx hb hc ((hK.1.2 1 _ rfl).1 (mi_len g a) (fun j => .long (δ.2.2 a j))) (fun q => by cases q) (by show ¬ (j < 0 ∨ (arrV _ _ _).slots.size ≤ _); rw [arrV_size]; exact mi_ix_vp hj) rfl rfl hd fun H1 e z oq => ?_
  refine kk H1 z oq ?_ _ rfl
  show H1[ad a]? = some (vp_cell _ _)
  rw [e]
  rw [vp_cell_l, vp_cell_l, arrV_store]
  congr 2
  funext q
  by_cases hq : q = j.toNatClampNeg
  · subst hq
    simp [updV, vp_updL]
  · simp [updV, vp_updL, hq]
theorem mi_r_zast (C : mi_Cx p s m args meth c y D cA H0 tl) (hd : decode (mi_B y) pc = .ok (.bastore, 1)) (hk : mi_k g a = 22) (hR : mi_Rel D cA H0 tl ad ad2 g δ cp s H) {j v : Int32} (hj : mi_ix j (mi_len g a) = true) (hv : v = 0 ∨ v = 1)
    (kk : ∀ H1 : Heap, H1.size = H.size → (∀ q : Nat, q ≠ ad a → H1[q]? = H[q]?) → va_at D vwCl (ad a, .inl (cA.2.2, mi_len g a, .inl (upd (δ.2.1 a) j.toNatClampNeg v))) H1 → ∀ z : Loc, z.base = ad a → W p l e R s m args below meth c H1 (locs ++ [z]) cells slots Q (F0 m (pc + 1) ls rest)) : W p l e R s m args below meth c H locs cells slots Q (F0 m pc ls (.int v :: .int j :: .ref (ad a) :: rest)) := by
  obtain ⟨hx, hb, hown, hts, hin, hK, -⟩ := C
  have hc := (hR.2.1 a (Or.inr (Or.inr (Or.inr hk)))).1
  rw [mi_cell_22 hk] at hc
  have hnv : narrow .boolean (.int v) = .int v := by rcases hv with rfl | rfl <;> rfl
  refine W.zast hx hb hc ((hK.1.2 2 _ rfl).1 (mi_len g a) (fun j => .int (δ.2.1 a j))) (fun q => by cases q) (by show ¬ (j < 0 ∨ (arrV _ _ _).slots.size ≤ _); rw [arrV_size]; exact mi_ix_vp hj) rfl rfl hd fun H1 e z oq => ?_
  refine kk H1 z oq ?_ _ rfl
  show H1[ad a]? = some (vp_cell _ _)
  rw [e, hnv]
  rw [vp_cell_i, vp_cell_i, arrV_store]
  congr 2
  funext q
  by_cases hq : q = j.toNatClampNeg
  · subst hq
    simp [updV, upd]
  · simp [updV, upd, hq]
theorem mi_r_gets (C : mi_Cx p s m args meth c y D cA H0 tl) (hd : decode (mi_B y) pc = .ok (.getstatic i, 3)) (hi : (mi_O y, i) = mi_let) (hR : mi_Rel D cA H0 tl ad ad2 g δ cp s H)
    (kk : W p l e R s m args below meth c H locs cells slots Q (F0 m (pc + 3) ls (.ref (ad 1) :: rest))) : W p l e R s m args below meth c H locs cells slots Q (F0 m pc ls rest) := by
  obtain ⟨hx, hb, hown, hts, hin, hK, -⟩ := C
  obtain ⟨cf, kf, fi, f, a', cell, h1, h2, h3, h4, h5, h6, h7, h8⟩ := hK.2.2
  have ho : mi_O y = mi_let.1 := congrArg Prod.fst hi
  have hi' : i = mi_let.2 := congrArg Prod.snd hi
  rw [hR.2.2.2.2.2.2.2.2.2.2] at kk
  refine W.gets (own := mi_RX (mi_O y)) (ref := "LedgerTwice$Sheet") hx hb hown ?_ h1 h2 h3 h4 (cell₁ := cell) (by rw [hR.1.2 a' (Nat.not_le.mp h8)]; exact h5) (fun e => by rw [e] at h6; cases h6) h7 rfl hd kk
  rw [ho, hi']
  exact hts _ mi_let_word
end MIH
