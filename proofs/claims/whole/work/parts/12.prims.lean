theorem mi_Q_spec {o i k : Nat} (h : mi_Q o i = some k) : Cond.methodLink (mi_RX o) i (mi_QN k) ∈ mi_ws := by
  unfold mi_Q at h
  cases hf : mi_tQ.find? (fun e => e.1 == o && e.2.1 == i) with
  | none => rw [hf] at h; cases h
  | some e =>
    rw [hf] at h
    obtain ⟨e1, e2, e3, e4⟩ := e
    cases h
    obtain ⟨h1, h2⟩ := mi_find _ _ hf
    simp only [Bool.and_eq_true, beq_iff_eq] at h2
    have h3 := mi_tQ_ok _ h1
    unfold mi_PQ at h3
    have q1 := h3.1
    dsimp only at q1
    rw [h2.1, h2.2] at q1
    exact mi_ws_of _ q1 rfl
theorem mi_cat_map (ad : Nat → Nat) (st : List Value) : ((st.map (mi_rv ad)).map fun v => v.category).sum = mi_cat st := by
  unfold mi_cat
  rw [List.map_map]
  congr 1
  exact List.map_congr_left (fun v _ => mi_rv_cat ad v)
theorem mi_cat_cons (v : Value) (st : List Value) : mi_cat (v :: st) = v.category + mi_cat st := by
  unfold mi_cat
  simp
theorem mi_at_two {D : va_G} {q1 q2 : Nat × va_E} {H : Heap} (h1 : va_at D vwCl q1 H) (h2 : va_at D vwCl q2 H) : va_P D vwCl [q1, q2] H := by
  intro k x hx
  have hk := (List.getElem?_eq_some_iff.mp hx).1
  simp at hk
  rcases (show k = 0 ∨ k = 1 by omega) with rfl | rfl
  · cases hx; exact h1
  · cases hx; exact h2
theorem mi_cell_r0 {cA : mi_cA} {ad ad2 : Nat → Nat} {g : mi_G} {δ : mi_D} {a k : Nat} (hk : mi_k g a = k) (h : k = 3 ∨ k = 6) (hl : mi_len g a = 0) : mi_cell cA ad ad2 g δ a = .inr (k, [.int 0, .null]) := by
  unfold mi_cell
  rw [hk, if_pos h, if_pos hl]
theorem mi_cell_r1 {cA : mi_cA} {ad ad2 : Nat → Nat} {g : mi_G} {δ : mi_D} {a k : Nat} (hk : mi_k g a = k) (h : k = 3 ∨ k = 6) (hl : mi_len g a ≠ 0) : mi_cell cA ad ad2 g δ a = .inr (k, [.int (nI (mi_len g a - 1)), .ref (ad2 a)]) := by
  unfold mi_cell
  rw [hk, if_pos h, if_neg hl]
theorem mi_cell2_3 {cA : mi_cA} {g : mi_G} {δ : mi_D} {cp : Nat → Nat} {a : Nat} (hk : mi_k g a = 3) : mi_cell2 cA g δ cp a = .inl (cA.1, cp a, .inl (δ.2.1 a)) := by
  unfold mi_cell2
  rw [if_pos hk]
theorem mi_cell2_6 {cA : mi_cA} {g : mi_G} {δ : mi_D} {cp : Nat → Nat} {a : Nat} (hk : mi_k g a = 6) : mi_cell2 cA g δ cp a = .inl (cA.2.1, cp a, .inr (.inl (δ.2.2 a))) := by
  unfold mi_cell2
  rw [if_neg (by omega)]
theorem mi_setk {g : mi_G} {a : Nat} {q : Nat × Nat × List Nat} (ha : a < g.length) : mi_k (g.set a q) a = q.1 ∧ mi_len (g.set a q) a = q.2.1 ∧ mi_rs (g.set a q) a = q.2.2 := by
  unfold mi_k mi_len mi_rs
  rw [List.getElem?_set_self ha]
  exact ⟨rfl, rfl, rfl⟩
section MIPR
variable {p : Program} {l : Launch} {e : Env} {R : Room} {s : State} {m : MethodId} {args : Array Value} {below : List Frame} {meth : Method} {c : Code} {H : Heap} {locs : List Loc} {cells slots : Nat} {Q : State → Prop}
variable {y pc i k sl a : Nat} {ls : Array Slot} {rest : List Value} {D : va_G} {cA : mi_cA} {H0 : Heap} {tl : Nat} {ad ad2 : Nat → Nat} {g : mi_G} {δ : mi_D} {cp : Nat → Nat}
theorem mi_r_abs (C : mi_Cx p s m args meth c y D cA H0 tl) (hd : decode (mi_B y) pc = .ok (.invokestatic i, 3)) (hq : mi_Q (mi_O y) i = some 8) (hsz : ls.size = mi_L y) (hF : 5 ≤ R.frames ∧ 300 ≤ R.locals) (hcat : (rest.map fun v => v.category).sum ≤ 8) (hc1 : cells ≤ R.cells) (hc2 : slots ≤ R.slots) {x : Int64}
    (kk : W p l e R s m args below meth c H locs cells slots Q (F0 m (pc + 3) ls (.long (if 0 < x then x else -x) :: rest))) : W p l e R s m args below meth c H locs cells slots Q (F0 m pc ls (.long x :: rest)) := by
  obtain ⟨hx, hb, hown, hts, hin, hK, hml⟩ := C
  exact va_mabs_long hx hb (hml.trans hsz.symm) hown (hts _ (mi_Q_spec hq)) (hts _ mi_wd_stAbs) (hts _ mi_wd_iniMath) (hts _ mi_wd_cdAbs) (by omega) (by omega) hc1 hc2 hd kk
theorem mi_r_min (C : mi_Cx p s m args meth c y D cA H0 tl) (hd : decode (mi_B y) pc = .ok (.invokestatic i, 3)) (hq : mi_Q (mi_O y) i = some 9) (hsz : ls.size = mi_L y) (hF : 5 ≤ R.frames ∧ 300 ≤ R.locals) (hcat : (rest.map fun v => v.category).sum ≤ 8) (hc1 : cells ≤ R.cells) (hc2 : slots ≤ R.slots) {x z : Int32}
    (kk : W p l e R s m args below meth c H locs cells slots Q (F0 m (pc + 3) ls (.int (if z < x then z else x) :: rest))) : W p l e R s m args below meth c H locs cells slots Q (F0 m pc ls (.int z :: .int x :: rest)) := by
  obtain ⟨hx, hb, hown, hts, hin, hK, hml⟩ := C
  exact va_mmin hx hb (hml.trans hsz.symm) hown (hts _ (mi_Q_spec hq)) (hts _ mi_wd_stMin) (hts _ mi_wd_iniMath) (hts _ mi_wd_cdMin) (by omega) (by omega) hc1 hc2 hd kk
theorem mi_r_max (C : mi_Cx p s m args meth c y D cA H0 tl) (hd : decode (mi_B y) pc = .ok (.invokestatic i, 3)) (hq : mi_Q (mi_O y) i = some 10) (hsz : ls.size = mi_L y) (hF : 5 ≤ R.frames ∧ 300 ≤ R.locals) (hcat : (rest.map fun v => v.category).sum ≤ 8) (hc1 : cells ≤ R.cells) (hc2 : slots ≤ R.slots) {x z : Int32}
    (kk : W p l e R s m args below meth c H locs cells slots Q (F0 m (pc + 3) ls (.int (if x < z then z else x) :: rest))) : W p l e R s m args below meth c H locs cells slots Q (F0 m pc ls (.int z :: .int x :: rest)) := by
  obtain ⟨hx, hb, hown, hts, hin, hK, hml⟩ := C
  exact va_mmax hx hb (hml.trans hsz.symm) hown (hts _ (mi_Q_spec hq)) (hts _ mi_wd_stMax) (hts _ mi_wd_iniMath) (hts _ mi_wd_cdMax) (by omega) (by omega) hc1 hc2 hd kk
theorem mi_r_obj (C : mi_Cx p s m args meth c y D cA H0 tl) (hd : decode (mi_B y) pc = .ok (.invokespecial i, 3)) (hq : mi_Q (mi_O y) i = some 11) (hsz : ls.size = mi_L y) (hF : 5 ≤ R.frames ∧ 300 ≤ R.locals) (hcat : (rest.map fun v => v.category).sum ≤ 8) {x : Nat}
    (kk : W p l e R s m args below meth c H locs cells slots Q (F0 m (pc + 3) ls rest)) : W p l e R s m args below meth c H locs cells slots Q (F0 m pc ls (.ref x :: rest)) := by
  obtain ⟨hx, hb, hown, hts, hin, hK, hml⟩ := C
  exact W.objInit hx hb hown (hts _ (mi_Q_spec hq)) (hts _ mi_wd_inObj) (hts _ mi_wd_cdObj) rfl (by rw [hml]; exact hsz) rfl hd (by omega) (by show 2 * 0 + _ + 12 ≤ _; omega) kk


theorem mi_r_at3 (C : mi_Cx p s m args meth c y D cA H0 tl) (hd : decode (mi_B y) pc = .ok (.invokevirtual i, 3)) (hq : mi_Q (mi_O y) i = some 1) (hsz : ls.size = mi_L y) (hF : 5 ≤ R.frames ∧ 300 ≤ R.locals) (hcat : (rest.map fun v => v.category).sum ≤ 8) (hc1 : cells ≤ R.cells) (hc2 : slots ≤ R.slots)
    (hk : mi_k g a = 3) (hl : mi_len g a ≠ 0) (hR : mi_Rel D cA H0 tl ad ad2 g δ cp s H) {j : Int32}
    (kk : W p l e R s m args below meth c H locs cells slots Q (F0 m (pc + 3) ls (.int (if j < 0 then 0 else δ.2.1 a j.toNatClampNeg) :: rest))) : W p l e R s m args below meth c H locs cells slots Q (F0 m pc ls (.int j :: .ref (ad a) :: rest)) := by
  obtain ⟨hx, hb, hown, hts, hin, hK, hml⟩ := C
  have hv1 : mi_v1 g a := Or.inl (by omega)
  have hv2 : mi_v2 g a := ⟨by omega, hl⟩
  have e1 := (hR.2.1 a hv1).1
  obtain ⟨e2, -, h1, h2, h3, h4, h5⟩ := hR.2.2.1 a hv2
  rw [mi_cell_r1 hk (by decide) hl] at e1
  rw [mi_cell2_3 hk] at e2
  have hP := mi_at_two e1 e2
  refine mi_callG (va_runV (As := [.int j]) (rest := rest) (b := ad a) ⟨hx, hb, hml, hown, hts⟩ (mi_c_at3 l D cA (ad a) (ad2 a) (cp a) (nI (mi_len g a - 1)) (δ.2.1 a) j (by omega)) (cwV 1 hts (mi_goodV (mi_Q_spec hq) mi_wd_in_at3 mi_wd_se_at3 mi_wd_ini3 mi_wd_cd_at3) rfl rfl rfl ⟨rfl, by decide, by decide, by decide +kernel⟩ ⟨by show 0 + 1 ≤ _; omega, by show 8 + (2 + 11) + 0 ≤ _; omega⟩)
    ⟨fun a' U g' mk h => ⟨h.1, h.2.1, va_K.moved (u := U) (U := U.calling g' mk a') (Vm.Alike.refl U.vm) h.2.2⟩, va_recv hK.1 hP (ci := 3) (q0 := 0) rfl rfl, fun U hU hW => ⟨rfl, by rw [hU]; exact hP, va_K.moved hW.alike hK.1⟩⟩ rfl rfl hsz rfl (lv_room hcat) hd ⟨hc1, hc2⟩) (fun vv st t L hst hQ hL hW => ?_)
  obtain ⟨hv, ht⟩ := hQ
  cases hv
  rw [ht, hst]
  have hLn : L = [] := by
    cases L with
    | nil => rfl
    | cons z L => exact absurd (hL z List.mem_cons_self) (fun q => q)
  rw [hLn, List.append_nil]
  rw [show (if j < 0 then (0 : Int32) else if cp a ≤ j.toNatClampNeg then 0 else δ.2.1 a j.toNatClampNeg) = if j < 0 then 0 else δ.2.1 a j.toNatClampNeg by
    by_cases hj : j < 0
    · rw [if_pos hj, if_pos hj]
    · rw [if_neg hj, if_neg hj]
      by_cases hc : cp a ≤ j.toNatClampNeg
      · rw [if_pos hc, h4 hk _ hc]
      · rw [if_neg hc]]
  exact kk
theorem mi_r_putA3 (C : mi_Cx p s m args meth c y D cA H0 tl) (hd : decode (mi_B y) pc = .ok (.invokevirtual i, 3)) (hq : mi_Q (mi_O y) i = some 2) (hsz : ls.size = mi_L y) (hF : 5 ≤ R.frames ∧ 300 ≤ R.locals) (hcat : (rest.map fun v => v.category).sum ≤ 8) (hc1 : cells ≤ R.cells) (hc2 : slots ≤ R.slots)
    (hk : mi_k g a = 3) (hl : mi_len g a ≠ 0) (hR : mi_Rel D cA H0 tl ad ad2 g δ cp s H) {j : Int32} {v : Int32} (hj : j < 0 ∨ mi_len g a ≤ j.toNatClampNeg + 1)
    (kk : W p l e R s m args below meth c H locs cells slots Q (F0 m (pc + 3) ls rest)) : W p l e R s m args below meth c H locs cells slots Q (F0 m pc ls (.int v :: .int j :: .ref (ad a) :: rest)) := by
  obtain ⟨hx, hb, hown, hts, hin, hK, hml⟩ := C
  have hv1 : mi_v1 g a := Or.inl (by omega)
  have e1 := (hR.2.1 a hv1).1
  obtain ⟨e2, -, h1, h2, h3, h4, h5⟩ := hR.2.2.1 a ⟨by omega, hl⟩
  rw [mi_cell_r1 hk (by decide) hl] at e1
  have hP := mi_at_one e1
  refine mi_callG (va_runV (As := [.int j, .int v]) (rest := rest) (b := ad a) ⟨hx, hb, hml, hown, hts⟩ (mi_c_putA3 l D cA (ad a) (ad2 a) (mi_len g a - 1) j v (by omega) (hj.imp id (fun q => by omega))) (cwV 2 hts (mi_goodV (mi_Q_spec hq) mi_wd_in_put3 mi_wd_se_put3 mi_wd_ini3 mi_wd_cd_put3) rfl rfl rfl ⟨rfl, by decide, by decide, by decide +kernel⟩ ⟨by show 0 + 1 ≤ _; omega, by show 8 + (3 + 11) + 0 ≤ _; omega⟩)
    ⟨fun a' U g' mk h => ⟨h.1, h.2.1, va_K.moved (u := U) (U := U.calling g' mk a') (Vm.Alike.refl U.vm) h.2.2⟩, va_recv hK.1 hP (ci := 3) (q0 := 0) rfl rfl, fun U hU hW => ⟨rfl, by rw [hU]; exact hP, va_K.moved hW.alike hK.1⟩⟩ rfl rfl hsz rfl (lv_room hcat) hd ⟨hc1, hc2⟩) (fun vv st t L hst hQ hL hW => ?_)
  obtain ⟨hv, ht⟩ := hQ
  cases hv
  rw [ht, hst]
  have hLn : L = [] := by
    cases L with
    | nil => rfl
    | cons z L => exact absurd (hL z List.mem_cons_self) (fun q => q)
  rw [hLn, List.append_nil]
  exact kk
theorem mi_r_putB3 (C : mi_Cx p s m args meth c y D cA H0 tl) (hd : decode (mi_B y) pc = .ok (.invokevirtual i, 3)) (hq : mi_Q (mi_O y) i = some 2) (hsz : ls.size = mi_L y) (hF : 5 ≤ R.frames ∧ 300 ≤ R.locals) (hcat : (rest.map fun v => v.category).sum ≤ 8) (hc1 : cells ≤ R.cells) (hc2 : slots ≤ R.slots) (hlo : ∀ z ∈ locs, H0.size ≤ z.base)
    (hk : mi_k g a = 3) (hl : mi_len g a ≠ 0) (hR : mi_Rel D cA H0 tl ad ad2 g δ cp s H) {j : Int32} {v : Int32} (hj0 : ¬ j < 0) (hj : j.toNatClampNeg < mi_len g a - 1) (hjc : j.toNatClampNeg < cp a)
    (kk : ∀ (H1 : Heap) (locs1 : List Loc), mi_Rel D cA H0 tl ad ad2 g (mi_setA δ a j.toNatClampNeg v) cp s H1 → (∀ z ∈ locs1, H0.size ≤ z.base) → W p l e R s m args below meth c H1 locs1 cells slots Q (F0 m (pc + 3) ls rest)) : W p l e R s m args below meth c H locs cells slots Q (F0 m pc ls (.int v :: .int j :: .ref (ad a) :: rest)) := by
  obtain ⟨hx, hb, hown, hts, hin, hK, hml⟩ := C
  have hv1 : mi_v1 g a := Or.inl (by omega)
  have hv2 : mi_v2 g a := ⟨by omega, hl⟩
  have e1 := (hR.2.1 a hv1).1
  obtain ⟨e2, e3, h1, h2, h3, h4, h5⟩ := hR.2.2.1 a hv2
  rw [mi_cell_r1 hk (by decide) hl] at e1
  rw [mi_cell2_3 hk] at e2
  have hP := mi_at_two e1 e2
  have hne : ad a ≠ ad2 a := hR.2.2.2.2.1 a a hv1 hv2
  refine mi_callG (va_runV (As := [.int j, .int v]) (rest := rest) (b := ad a) ⟨hx, hb, hml, hown, hts⟩ (mi_c_putB3 l D cA (ad a) (ad2 a) (cp a) (mi_len g a - 1) (δ.2.1 a) j v (by omega) (by omega) hj0 hj hjc) (cwV 2 hts (mi_goodV (mi_Q_spec hq) mi_wd_in_put3 mi_wd_se_put3 mi_wd_ini3 mi_wd_cd_put3) rfl rfl rfl ⟨rfl, by decide, by decide, by decide +kernel⟩ ⟨by show 0 + 1 ≤ _; omega, by show 8 + (3 + 11) + 0 ≤ _; omega⟩)
    ⟨fun a' U g' mk h => ⟨h.1, h.2.1, va_K.moved (u := U) (U := U.calling g' mk a') (Vm.Alike.refl U.vm) h.2.2⟩, va_recv hK.1 hP (ci := 3) (q0 := 0) rfl rfl, fun U hU hW => ⟨rfl, by rw [hU]; exact hP, va_K.moved hW.alike hK.1⟩⟩ rfl rfl hsz rfl (lv_room hcat) hd ⟨hc1, hc2⟩) (fun vv st t L hst hQ hL hW => ?_)
  obtain ⟨hv, q1, q2, q3⟩ := hQ
  cases hv
  rw [hst] at q1 q2
  refine kk t.heap (locs ++ L) (hR.step a hv1 (Nat.le_of_eq q1.symm) (fun q _ _ h => q2 q (h hv2)) (fun _ _ => rfl) (Or.inl ⟨hv2, rfl⟩) rfl (fun _ _ => rfl) (fun b hb => ⟨fun _ => rfl, funext fun x => ?_, funext fun x => ?_⟩) (fun _ _ => rfl) rfl (fun r hr => hR.2.2.2.2.2.2.2.2.1 a r hr) ?_ (fun _ => ⟨?_, e3, h1, h2, h3, ?_, ?_⟩)) (fun z hz => ?_)
  · first | rfl | exact if_neg (fun q => hb q.1)
  · first | rfl | exact if_neg (fun q => hb q.1)
  · rw [mi_cell_r1 hk (by decide) hl]
    exact e1.kept (q2 _ hne)
  · rw [mi_cell2_3 hk, mi_updA]
    exact q3
  · first
    | exact fun hk3 x hx => by omega
    | exact fun hk3 x hx => by
        show (mi_setA δ a j.toNatClampNeg v).2.1 a x = 0
        rw [mi_updA]
        unfold upd
        rw [if_neg (by omega)]
        exact h4 hk3 x hx
  · first
    | exact fun hk3 x hx => by omega
    | exact fun hk3 x hx => by
        show (mi_setA δ a j.toNatClampNeg v).2.1 a x = 0
        rw [mi_updA]
        unfold upd
        rw [if_neg (by omega)]
        exact h5 hk3 x hx
  · rcases List.mem_append.mp hz with h | h
    · exact hlo z h
    · rw [hL z h]; exact e3
theorem mi_r_putC3 (C : mi_Cx p s m args meth c y D cA H0 tl) (hd : decode (mi_B y) pc = .ok (.invokevirtual i, 3)) (hq : mi_Q (mi_O y) i = some 2) (hsz : ls.size = mi_L y) (hF : 5 ≤ R.frames ∧ 300 ≤ R.locals) (hcat : (rest.map fun v => v.category).sum ≤ 8) (hlo : ∀ z ∈ locs, H0.size ≤ z.base)
    (hk : mi_k g a = 3) (hl : mi_len g a ≠ 0) (hR : mi_Rel D cA H0 tl ad ad2 g δ cp s H) {j : Int32} {v : Int32} (hj0 : ¬ j < 0) (hj : j.toNatClampNeg < mi_len g a - 1) (hjc : cp a ≤ j.toNatClampNeg)
    (hc1 : cells + 1 ≤ R.cells) (hc2 : slots + mi_grow (mi_len g a - 1) (cp a) j.toNatClampNeg ≤ R.slots)
    (kk : ∀ (H1 : Heap) (locs1 : List Loc) (ad2' : Nat → Nat), mi_Rel D cA H0 tl ad ad2' g (mi_setA δ a j.toNatClampNeg v) (fun x => if x = a then mi_grow (mi_len g a - 1) (cp a) j.toNatClampNeg else cp x) s H1 → (∀ z ∈ locs1, H0.size ≤ z.base) → W p l e R s m args below meth c H1 locs1 (cells + 1) (slots + mi_grow (mi_len g a - 1) (cp a) j.toNatClampNeg) Q (F0 m (pc + 3) ls rest)) : W p l e R s m args below meth c H locs cells slots Q (F0 m pc ls (.int v :: .int j :: .ref (ad a) :: rest)) := by
  obtain ⟨hx, hb, hown, hts, hin, hK, hml⟩ := C
  have hv1 : mi_v1 g a := Or.inl (by omega)
  have hv2 : mi_v2 g a := ⟨by omega, hl⟩
  have e1 := (hR.2.1 a hv1).1
  have e0 := (hR.2.1 a hv1).2
  obtain ⟨e2, e3, h1, h2, h3, h4, h5⟩ := hR.2.2.1 a hv2
  rw [mi_cell_r1 hk (by decide) hl] at e1
  rw [mi_cell2_3 hk] at e2
  have hP := mi_at_two e1 e2
  have hne : ad a ≠ ad2 a := hR.2.2.2.2.1 a a hv1 hv2
  refine mi_callG (va_runV (As := [.int j, .int v]) (rest := rest) (b := ad a) ⟨hx, hb, hml, hown, hts⟩ (mi_c_putC3 l D cA (ad a) (ad2 a) (cp a) (mi_len g a - 1) H.size (δ.2.1 a) j v (by omega) (by omega) hj0 hj hjc (h4 hk)) (cwV 2 hts (mi_goodV (mi_Q_spec hq) mi_wd_in_put3 mi_wd_se_put3 mi_wd_ini3 mi_wd_cd_put3) rfl rfl rfl ⟨rfl, by decide, by decide, by decide +kernel⟩ ⟨by show 2 + 1 ≤ _; omega, by show 8 + (3 + 11) + 70 ≤ _; omega⟩)
    ⟨fun a' U g' mk h => ⟨h.1, h.2.1, va_K.moved (u := U) (U := U.calling g' mk a') (Vm.Alike.refl U.vm) h.2.2.1, h.2.2.2⟩, va_recv hK.1 hP (ci := 3) (q0 := 0) rfl rfl, fun U hU hW => ⟨rfl, by rw [hU]; exact hP, va_K.moved hW.alike hK.1, by rw [hU], hne⟩⟩ rfl rfl hsz rfl (lv_room hcat) hd ⟨hc1, hc2⟩) (fun vv st t L hst hQ hL hW => ?_)
  obtain ⟨hv, q1, q2, b', q3, q4⟩ := hQ
  cases hv
  rw [hst] at q2
  have hgr : cp a < mi_grow (mi_len g a - 1) (cp a) j.toNatClampNeg ∧ j.toNatClampNeg < mi_grow (mi_len g a - 1) (cp a) j.toNatClampNeg ∧ mi_grow (mi_len g a - 1) (cp a) j.toNatClampNeg ≤ max 16 (mi_len g a - 1) := by
    unfold mi_grow
    rw [if_neg (by omega)]
    omega
  have hH0 : H0.size ≤ H.size := hR.1.1
  refine kk t.heap (locs ++ L) (fun x => if x = a then b' else ad2 x) (hR.step a hv1 q1 (fun q hq h6 h7 => q2 q hq h6 (h7 hv2)) (fun b hb => if_neg hb) (Or.inr (Or.inl (by rw [if_pos rfl]; exact q3))) rfl (fun _ _ => rfl) (fun b hb => ⟨fun _ => rfl, funext fun x => ?_, funext fun x => ?_⟩) (fun b hb => if_neg hb) rfl (fun r hr => hR.2.2.2.2.2.2.2.2.1 a r hr) ?_ (fun _ => ⟨?_, ?_, ?_, ?_, h3, ?_, ?_⟩)) (fun z hz => ?_)
  · first | rfl | exact if_neg (fun q => hb q.1)
  · first | rfl | exact if_neg (fun q => hb q.1)
  · rw [mi_cell_r1 hk (by decide) hl]
    show va_at D vwCl (ad a, .inr (3, [.int (nI (mi_len g a - 1)), .ref (if a = a then b' else ad2 a)])) t.heap
    rw [if_pos rfl]
    exact q4 0 _ rfl
  · rw [mi_cell2_3 hk, mi_updA]
    simp only [if_true]
    exact q4 1 _ rfl
  · simp only [if_true]
    omega
  · simp only [if_true]
    omega
  · simp only [if_true]
    omega
  · first
    | exact fun hk3 x hx => by omega
    | exact fun hk3 x hx => by
        simp only [if_true] at hx
        show (mi_setA δ a j.toNatClampNeg v).2.1 a x = 0
        rw [mi_updA]
        unfold upd
        rw [if_neg (by omega)]
        exact h4 hk3 x (by omega)
  · first
    | exact fun hk3 x hx => by omega
    | exact fun hk3 x hx => by
        simp only [if_true] at hx
        show (mi_setA δ a j.toNatClampNeg v).2.1 a x = 0
        rw [mi_updA]
        unfold upd
        rw [if_neg (by omega)]
        exact h5 hk3 x (by omega)
  · rcases List.mem_append.mp hz with h | h
    · exact hlo z h
    · rcases hL z h with h | h | h
      · rw [h]; exact e0
      · rw [h]; exact e3
      · omega
theorem mi_r_init3 (C : mi_Cx p s m args meth c y D cA H0 tl) (hd : decode (mi_B y) pc = .ok (.invokespecial i, 3)) (hq : mi_Q (mi_O y) i = some 0) (hsz : ls.size = mi_L y) (hF : 5 ≤ R.frames ∧ 300 ≤ R.locals) (hcat : (rest.map fun v => v.category).sum ≤ 8) (hlo : ∀ z ∈ locs, H0.size ≤ z.base)
    (hk : mi_k g a = 3) (hl : mi_len g a = 0) (hR : mi_Rel D cA H0 tl ad ad2 g δ cp s H) {n : Int32} (hn0 : ¬ n < 0) (hn1 : n.toNatClampNeg < 1000000)
    (hc1 : cells + 1 ≤ R.cells) (hc2 : slots + 16 ≤ R.slots)
    (kk : ∀ (H1 : Heap) (locs1 : List Loc) (ad2' : Nat → Nat), mi_Rel D cA H0 tl ad ad2' (g.set a (3, n.toNatClampNeg + 1, [])) (mi_zero δ a) (fun x => if x = a then 16 else cp x) s H1 → (∀ z ∈ locs1, H0.size ≤ z.base) → W p l e R s m args below meth c H1 locs1 (cells + 1) (slots + 16) Q (F0 m (pc + 3) ls rest)) : W p l e R s m args below meth c H locs cells slots Q (F0 m pc ls (.int n :: .ref (ad a) :: rest)) := by
  obtain ⟨hx, hb, hown, hts, hin, hK, hml⟩ := C
  have hv1 : mi_v1 g a := Or.inl (by omega)
  have hnv2 : ¬ mi_v2 g a := fun h => h.2 hl
  have e1 := (hR.2.1 a hv1).1
  have e0 := (hR.2.1 a hv1).2
  rw [mi_cell_r0 hk (by decide) hl] at e1
  have hP := mi_at_one e1
  have hag : a < g.length := mi_v1_lt hv1
  refine mi_callG (va_runI (As := [.int n]) (rest := rest) (b := ad a) ⟨hx, hb, hml, hown, hts⟩ (mi_c_init3 l D cA (ad a) H.size n) (cwI 1 hts (mi_good _ _ _ _ mi_wd_cd_init3) rfl rfl rfl (hts _ mi_wd_ini3) (hts _ (mi_Q_spec hq)) (hts _ mi_wd_in_init3) rfl ⟨by decide, by decide, by decide +kernel⟩ ⟨by show 1 + 1 ≤ _; omega, by show 8 + (2 + 11) + 40 ≤ _; omega⟩)
    ⟨fun a' U g' mk h => ⟨h.1, h.2.1, va_K.moved (u := U) (U := U.calling g' mk a') (Vm.Alike.refl U.vm) h.2.2.1, h.2.2.2⟩, fun U hU hW => ⟨rfl, by rw [hU]; exact hP, va_K.moved hW.alike hK.1, by rw [hU]⟩⟩ rfl rfl hsz rfl (lv_room hcat) hd ⟨hc1, hc2⟩) (fun vv st t L hst hQ hL hW => ?_)
  obtain ⟨hv, q1, q2, b', q3, q4⟩ := hQ
  cases hv
  rw [hst] at q2
  have hH0 : H0.size ≤ H.size := hR.1.1
  obtain ⟨k1, k2, k3⟩ := mi_setk (q := (3, n.toNatClampNeg + 1, [])) hag
  dsimp only at k1 k2 k3
  refine kk t.heap (locs ++ L) (fun x => if x = a then b' else ad2 x) (hR.step a hv1 q1 (fun q hq h6 h7 => q2 q hq h6) (fun b hb => if_neg hb) (Or.inr (Or.inl (by rw [if_pos rfl]; exact q3))) (by simp) (fun b hb => List.getElem?_set_ne (Ne.symm hb)) (fun b hb => ⟨fun _ => if_neg hb, funext fun x => if_neg hb, funext fun x => if_neg hb⟩) (fun b hb => if_neg hb) (by rw [k1, hk]) (fun r hr => by rw [k3] at hr; cases hr) ?_ (fun _ => ⟨?_, ?_, ?_, ?_, ?_, ?_, ?_⟩)) (fun z hz => ?_)
  · rw [mi_cell_r1 k1 (by decide) (by omega), k2]
    show va_at D vwCl (ad a, .inr (3, [.int (nI (n.toNatClampNeg + 1 - 1)), .ref (if a = a then b' else ad2 a)])) t.heap
    rw [if_pos rfl, Nat.add_sub_cancel]
    obtain ⟨jn, hjn, rfl⟩ := nI_of hn0
    rw [nI_clamp hjn]
    exact q4 0 _ rfl
  · rw [mi_cell2_3 k1, show (mi_zero δ a).2.1 a = fun _ => 0 from funext fun x => if_pos rfl]
    simp only [if_true]
    exact q4 1 _ rfl
  · simp only [if_true]
    omega
  · simp only [if_true]
    omega
  · simp only [if_true]
    omega
  · omega
  · intro hk3 x hx
    first | (exfalso; omega) | exact if_pos rfl
  · intro hk3 x hx
    first | (exfalso; omega) | exact if_pos rfl
  · rcases List.mem_append.mp hz with h | h
    · exact hlo z h
    · rcases hL z h with h | h
      · rw [h]; exact e0
      · omega

theorem mi_r_at6 (C : mi_Cx p s m args meth c y D cA H0 tl) (hd : decode (mi_B y) pc = .ok (.invokevirtual i, 3)) (hq : mi_Q (mi_O y) i = some 4) (hsz : ls.size = mi_L y) (hF : 5 ≤ R.frames ∧ 300 ≤ R.locals) (hcat : (rest.map fun v => v.category).sum ≤ 8) (hc1 : cells ≤ R.cells) (hc2 : slots ≤ R.slots)
    (hk : mi_k g a = 6) (hl : mi_len g a ≠ 0) (hR : mi_Rel D cA H0 tl ad ad2 g δ cp s H) {j : Int32}
    (kk : W p l e R s m args below meth c H locs cells slots Q (F0 m (pc + 3) ls (.long (if j < 0 then 0 else δ.2.2 a j.toNatClampNeg) :: rest))) : W p l e R s m args below meth c H locs cells slots Q (F0 m pc ls (.int j :: .ref (ad a) :: rest)) := by
  obtain ⟨hx, hb, hown, hts, hin, hK, hml⟩ := C
  have hv1 : mi_v1 g a := Or.inl (by omega)
  have hv2 : mi_v2 g a := ⟨by omega, hl⟩
  have e1 := (hR.2.1 a hv1).1
  obtain ⟨e2, -, h1, h2, h3, h4, h5⟩ := hR.2.2.1 a hv2
  rw [mi_cell_r1 hk (by decide) hl] at e1
  rw [mi_cell2_6 hk] at e2
  have hP := mi_at_two e1 e2
  refine mi_callG (va_runV (As := [.int j]) (rest := rest) (b := ad a) ⟨hx, hb, hml, hown, hts⟩ (mi_c_at6 l D cA (ad a) (ad2 a) (cp a) (nI (mi_len g a - 1)) (δ.2.2 a) j (by omega)) (cwV 1 hts (mi_goodV (mi_Q_spec hq) mi_wd_in_at6 mi_wd_se_at6 mi_wd_ini6 mi_wd_cd_at6) rfl rfl rfl ⟨rfl, by decide, by decide, by decide +kernel⟩ ⟨by show 0 + 1 ≤ _; omega, by show 8 + (2 + 11) + 0 ≤ _; omega⟩)
    ⟨fun a' U g' mk h => ⟨h.1, h.2.1, va_K.moved (u := U) (U := U.calling g' mk a') (Vm.Alike.refl U.vm) h.2.2⟩, va_recv hK.1 hP (ci := 6) (q0 := 0) rfl rfl, fun U hU hW => ⟨rfl, by rw [hU]; exact hP, va_K.moved hW.alike hK.1⟩⟩ rfl rfl hsz rfl (lv_room hcat) hd ⟨hc1, hc2⟩) (fun vv st t L hst hQ hL hW => ?_)
  obtain ⟨hv, ht⟩ := hQ
  cases hv
  rw [ht, hst]
  have hLn : L = [] := by
    cases L with
    | nil => rfl
    | cons z L => exact absurd (hL z List.mem_cons_self) (fun q => q)
  rw [hLn, List.append_nil]
  rw [show (if j < 0 then (0 : Int64) else if cp a ≤ j.toNatClampNeg then 0 else δ.2.2 a j.toNatClampNeg) = if j < 0 then 0 else δ.2.2 a j.toNatClampNeg by
    by_cases hj : j < 0
    · rw [if_pos hj, if_pos hj]
    · rw [if_neg hj, if_neg hj]
      by_cases hc : cp a ≤ j.toNatClampNeg
      · rw [if_pos hc, h5 hk _ hc]
      · rw [if_neg hc]]
  exact kk
theorem mi_r_putA6 (C : mi_Cx p s m args meth c y D cA H0 tl) (hd : decode (mi_B y) pc = .ok (.invokevirtual i, 3)) (hq : mi_Q (mi_O y) i = some 5) (hsz : ls.size = mi_L y) (hF : 5 ≤ R.frames ∧ 300 ≤ R.locals) (hcat : (rest.map fun v => v.category).sum ≤ 8) (hc1 : cells ≤ R.cells) (hc2 : slots ≤ R.slots)
    (hk : mi_k g a = 6) (hl : mi_len g a ≠ 0) (hR : mi_Rel D cA H0 tl ad ad2 g δ cp s H) {j : Int32} {v : Int64} (hj : j < 0 ∨ mi_len g a ≤ j.toNatClampNeg + 1)
    (kk : W p l e R s m args below meth c H locs cells slots Q (F0 m (pc + 3) ls rest)) : W p l e R s m args below meth c H locs cells slots Q (F0 m pc ls (.long v :: .int j :: .ref (ad a) :: rest)) := by
  obtain ⟨hx, hb, hown, hts, hin, hK, hml⟩ := C
  have hv1 : mi_v1 g a := Or.inl (by omega)
  have e1 := (hR.2.1 a hv1).1
  obtain ⟨e2, -, h1, h2, h3, h4, h5⟩ := hR.2.2.1 a ⟨by omega, hl⟩
  rw [mi_cell_r1 hk (by decide) hl] at e1
  have hP := mi_at_one e1
  refine mi_callG (va_runV (As := [.int j, .long v]) (rest := rest) (b := ad a) ⟨hx, hb, hml, hown, hts⟩ (mi_c_putA6 l D cA (ad a) (ad2 a) (mi_len g a - 1) j v (by omega) (hj.imp id (fun q => by omega))) (cwV 2 hts (mi_goodV (mi_Q_spec hq) mi_wd_in_put6 mi_wd_se_put6 mi_wd_ini6 mi_wd_cd_put6) rfl rfl rfl ⟨rfl, by decide, by decide, by decide +kernel⟩ ⟨by show 0 + 1 ≤ _; omega, by show 8 + (4 + 11) + 0 ≤ _; omega⟩)
    ⟨fun a' U g' mk h => ⟨h.1, h.2.1, va_K.moved (u := U) (U := U.calling g' mk a') (Vm.Alike.refl U.vm) h.2.2⟩, va_recv hK.1 hP (ci := 6) (q0 := 0) rfl rfl, fun U hU hW => ⟨rfl, by rw [hU]; exact hP, va_K.moved hW.alike hK.1⟩⟩ rfl rfl hsz rfl (lv_room hcat) hd ⟨hc1, hc2⟩) (fun vv st t L hst hQ hL hW => ?_)
  obtain ⟨hv, ht⟩ := hQ
  cases hv
  rw [ht, hst]
  have hLn : L = [] := by
    cases L with
    | nil => rfl
    | cons z L => exact absurd (hL z List.mem_cons_self) (fun q => q)
  rw [hLn, List.append_nil]
  exact kk
theorem mi_r_putB6 (C : mi_Cx p s m args meth c y D cA H0 tl) (hd : decode (mi_B y) pc = .ok (.invokevirtual i, 3)) (hq : mi_Q (mi_O y) i = some 5) (hsz : ls.size = mi_L y) (hF : 5 ≤ R.frames ∧ 300 ≤ R.locals) (hcat : (rest.map fun v => v.category).sum ≤ 8) (hc1 : cells ≤ R.cells) (hc2 : slots ≤ R.slots) (hlo : ∀ z ∈ locs, H0.size ≤ z.base)
    (hk : mi_k g a = 6) (hl : mi_len g a ≠ 0) (hR : mi_Rel D cA H0 tl ad ad2 g δ cp s H) {j : Int32} {v : Int64} (hj0 : ¬ j < 0) (hj : j.toNatClampNeg < mi_len g a - 1) (hjc : j.toNatClampNeg < cp a)
    (kk : ∀ (H1 : Heap) (locs1 : List Loc), mi_Rel D cA H0 tl ad ad2 g (mi_setL δ a j.toNatClampNeg v) cp s H1 → (∀ z ∈ locs1, H0.size ≤ z.base) → W p l e R s m args below meth c H1 locs1 cells slots Q (F0 m (pc + 3) ls rest)) : W p l e R s m args below meth c H locs cells slots Q (F0 m pc ls (.long v :: .int j :: .ref (ad a) :: rest)) := by
  obtain ⟨hx, hb, hown, hts, hin, hK, hml⟩ := C
  have hv1 : mi_v1 g a := Or.inl (by omega)
  have hv2 : mi_v2 g a := ⟨by omega, hl⟩
  have e1 := (hR.2.1 a hv1).1
  obtain ⟨e2, e3, h1, h2, h3, h4, h5⟩ := hR.2.2.1 a hv2
  rw [mi_cell_r1 hk (by decide) hl] at e1
  rw [mi_cell2_6 hk] at e2
  have hP := mi_at_two e1 e2
  have hne : ad a ≠ ad2 a := hR.2.2.2.2.1 a a hv1 hv2
  refine mi_callG (va_runV (As := [.int j, .long v]) (rest := rest) (b := ad a) ⟨hx, hb, hml, hown, hts⟩ (mi_c_putB6 l D cA (ad a) (ad2 a) (cp a) (mi_len g a - 1) (δ.2.2 a) j v (by omega) (by omega) hj0 hj hjc) (cwV 2 hts (mi_goodV (mi_Q_spec hq) mi_wd_in_put6 mi_wd_se_put6 mi_wd_ini6 mi_wd_cd_put6) rfl rfl rfl ⟨rfl, by decide, by decide, by decide +kernel⟩ ⟨by show 0 + 1 ≤ _; omega, by show 8 + (4 + 11) + 0 ≤ _; omega⟩)
    ⟨fun a' U g' mk h => ⟨h.1, h.2.1, va_K.moved (u := U) (U := U.calling g' mk a') (Vm.Alike.refl U.vm) h.2.2⟩, va_recv hK.1 hP (ci := 6) (q0 := 0) rfl rfl, fun U hU hW => ⟨rfl, by rw [hU]; exact hP, va_K.moved hW.alike hK.1⟩⟩ rfl rfl hsz rfl (lv_room hcat) hd ⟨hc1, hc2⟩) (fun vv st t L hst hQ hL hW => ?_)
  obtain ⟨hv, q1, q2, q3⟩ := hQ
  cases hv
  rw [hst] at q1 q2
  refine kk t.heap (locs ++ L) (hR.step a hv1 (Nat.le_of_eq q1.symm) (fun q _ _ h => q2 q (h hv2)) (fun _ _ => rfl) (Or.inl ⟨hv2, rfl⟩) rfl (fun _ _ => rfl) (fun b hb => ⟨fun _ => rfl, funext fun x => ?_, funext fun x => ?_⟩) (fun _ _ => rfl) rfl (fun r hr => hR.2.2.2.2.2.2.2.2.1 a r hr) ?_ (fun _ => ⟨?_, e3, h1, h2, h3, ?_, ?_⟩)) (fun z hz => ?_)
  · first | rfl | exact if_neg (fun q => hb q.1)
  · first | rfl | exact if_neg (fun q => hb q.1)
  · rw [mi_cell_r1 hk (by decide) hl]
    exact e1.kept (q2 _ hne)
  · rw [mi_cell2_6 hk, mi_updL]
    exact q3
  · first
    | exact fun hk3 x hx => by omega
    | exact fun hk3 x hx => by
        show (mi_setL δ a j.toNatClampNeg v).2.2 a x = 0
        rw [mi_updL]
        unfold vp_updL
        rw [if_neg (by omega)]
        exact h4 hk3 x hx
  · first
    | exact fun hk3 x hx => by omega
    | exact fun hk3 x hx => by
        show (mi_setL δ a j.toNatClampNeg v).2.2 a x = 0
        rw [mi_updL]
        unfold vp_updL
        rw [if_neg (by omega)]
        exact h5 hk3 x hx
  · rcases List.mem_append.mp hz with h | h
    · exact hlo z h
    · rw [hL z h]; exact e3
theorem mi_r_putC6 (C : mi_Cx p s m args meth c y D cA H0 tl) (hd : decode (mi_B y) pc = .ok (.invokevirtual i, 3)) (hq : mi_Q (mi_O y) i = some 5) (hsz : ls.size = mi_L y) (hF : 5 ≤ R.frames ∧ 300 ≤ R.locals) (hcat : (rest.map fun v => v.category).sum ≤ 8) (hlo : ∀ z ∈ locs, H0.size ≤ z.base)
    (hk : mi_k g a = 6) (hl : mi_len g a ≠ 0) (hR : mi_Rel D cA H0 tl ad ad2 g δ cp s H) {j : Int32} {v : Int64} (hj0 : ¬ j < 0) (hj : j.toNatClampNeg < mi_len g a - 1) (hjc : cp a ≤ j.toNatClampNeg)
    (hc1 : cells + 1 ≤ R.cells) (hc2 : slots + mi_grow (mi_len g a - 1) (cp a) j.toNatClampNeg ≤ R.slots)
    (kk : ∀ (H1 : Heap) (locs1 : List Loc) (ad2' : Nat → Nat), mi_Rel D cA H0 tl ad ad2' g (mi_setL δ a j.toNatClampNeg v) (fun x => if x = a then mi_grow (mi_len g a - 1) (cp a) j.toNatClampNeg else cp x) s H1 → (∀ z ∈ locs1, H0.size ≤ z.base) → W p l e R s m args below meth c H1 locs1 (cells + 1) (slots + mi_grow (mi_len g a - 1) (cp a) j.toNatClampNeg) Q (F0 m (pc + 3) ls rest)) : W p l e R s m args below meth c H locs cells slots Q (F0 m pc ls (.long v :: .int j :: .ref (ad a) :: rest)) := by
  obtain ⟨hx, hb, hown, hts, hin, hK, hml⟩ := C
  have hv1 : mi_v1 g a := Or.inl (by omega)
  have hv2 : mi_v2 g a := ⟨by omega, hl⟩
  have e1 := (hR.2.1 a hv1).1
  have e0 := (hR.2.1 a hv1).2
  obtain ⟨e2, e3, h1, h2, h3, h4, h5⟩ := hR.2.2.1 a hv2
  rw [mi_cell_r1 hk (by decide) hl] at e1
  rw [mi_cell2_6 hk] at e2
  have hP := mi_at_two e1 e2
  have hne : ad a ≠ ad2 a := hR.2.2.2.2.1 a a hv1 hv2
  refine mi_callG (va_runV (As := [.int j, .long v]) (rest := rest) (b := ad a) ⟨hx, hb, hml, hown, hts⟩ (mi_c_putC6 l D cA (ad a) (ad2 a) (cp a) (mi_len g a - 1) H.size (δ.2.2 a) j v (by omega) (by omega) hj0 hj hjc (h5 hk)) (cwV 2 hts (mi_goodV (mi_Q_spec hq) mi_wd_in_put6 mi_wd_se_put6 mi_wd_ini6 mi_wd_cd_put6) rfl rfl rfl ⟨rfl, by decide, by decide, by decide +kernel⟩ ⟨by show 2 + 1 ≤ _; omega, by show 8 + (4 + 11) + 70 ≤ _; omega⟩)
    ⟨fun a' U g' mk h => ⟨h.1, h.2.1, va_K.moved (u := U) (U := U.calling g' mk a') (Vm.Alike.refl U.vm) h.2.2.1, h.2.2.2⟩, va_recv hK.1 hP (ci := 6) (q0 := 0) rfl rfl, fun U hU hW => ⟨rfl, by rw [hU]; exact hP, va_K.moved hW.alike hK.1, by rw [hU], hne⟩⟩ rfl rfl hsz rfl (lv_room hcat) hd ⟨hc1, hc2⟩) (fun vv st t L hst hQ hL hW => ?_)
  obtain ⟨hv, q1, q2, b', q3, q4⟩ := hQ
  cases hv
  rw [hst] at q2
  have hgr : cp a < mi_grow (mi_len g a - 1) (cp a) j.toNatClampNeg ∧ j.toNatClampNeg < mi_grow (mi_len g a - 1) (cp a) j.toNatClampNeg ∧ mi_grow (mi_len g a - 1) (cp a) j.toNatClampNeg ≤ max 16 (mi_len g a - 1) := by
    unfold mi_grow
    rw [if_neg (by omega)]
    omega
  have hH0 : H0.size ≤ H.size := hR.1.1
  refine kk t.heap (locs ++ L) (fun x => if x = a then b' else ad2 x) (hR.step a hv1 q1 (fun q hq h6 h7 => q2 q hq h6 (h7 hv2)) (fun b hb => if_neg hb) (Or.inr (Or.inl (by rw [if_pos rfl]; exact q3))) rfl (fun _ _ => rfl) (fun b hb => ⟨fun _ => rfl, funext fun x => ?_, funext fun x => ?_⟩) (fun b hb => if_neg hb) rfl (fun r hr => hR.2.2.2.2.2.2.2.2.1 a r hr) ?_ (fun _ => ⟨?_, ?_, ?_, ?_, h3, ?_, ?_⟩)) (fun z hz => ?_)
  · first | rfl | exact if_neg (fun q => hb q.1)
  · first | rfl | exact if_neg (fun q => hb q.1)
  · rw [mi_cell_r1 hk (by decide) hl]
    show va_at D vwCl (ad a, .inr (6, [.int (nI (mi_len g a - 1)), .ref (if a = a then b' else ad2 a)])) t.heap
    rw [if_pos rfl]
    exact q4 0 _ rfl
  · rw [mi_cell2_6 hk, mi_updL]
    simp only [if_true]
    exact q4 1 _ rfl
  · simp only [if_true]
    omega
  · simp only [if_true]
    omega
  · simp only [if_true]
    omega
  · first
    | exact fun hk3 x hx => by omega
    | exact fun hk3 x hx => by
        simp only [if_true] at hx
        show (mi_setL δ a j.toNatClampNeg v).2.2 a x = 0
        rw [mi_updL]
        unfold vp_updL
        rw [if_neg (by omega)]
        exact h4 hk3 x (by omega)
  · first
    | exact fun hk3 x hx => by omega
    | exact fun hk3 x hx => by
        simp only [if_true] at hx
        show (mi_setL δ a j.toNatClampNeg v).2.2 a x = 0
        rw [mi_updL]
        unfold vp_updL
        rw [if_neg (by omega)]
        exact h5 hk3 x (by omega)
  · rcases List.mem_append.mp hz with h | h
    · exact hlo z h
    · rcases hL z h with h | h | h
      · rw [h]; exact e0
      · rw [h]; exact e3
      · omega
theorem mi_r_init6 (C : mi_Cx p s m args meth c y D cA H0 tl) (hd : decode (mi_B y) pc = .ok (.invokespecial i, 3)) (hq : mi_Q (mi_O y) i = some 3) (hsz : ls.size = mi_L y) (hF : 5 ≤ R.frames ∧ 300 ≤ R.locals) (hcat : (rest.map fun v => v.category).sum ≤ 8) (hlo : ∀ z ∈ locs, H0.size ≤ z.base)
    (hk : mi_k g a = 6) (hl : mi_len g a = 0) (hR : mi_Rel D cA H0 tl ad ad2 g δ cp s H) {n : Int32} (hn0 : ¬ n < 0) (hn1 : n.toNatClampNeg < 1000000)
    (hc1 : cells + 1 ≤ R.cells) (hc2 : slots + 16 ≤ R.slots)
    (kk : ∀ (H1 : Heap) (locs1 : List Loc) (ad2' : Nat → Nat), mi_Rel D cA H0 tl ad ad2' (g.set a (6, n.toNatClampNeg + 1, [])) (mi_zero δ a) (fun x => if x = a then 16 else cp x) s H1 → (∀ z ∈ locs1, H0.size ≤ z.base) → W p l e R s m args below meth c H1 locs1 (cells + 1) (slots + 16) Q (F0 m (pc + 3) ls rest)) : W p l e R s m args below meth c H locs cells slots Q (F0 m pc ls (.int n :: .ref (ad a) :: rest)) := by
  obtain ⟨hx, hb, hown, hts, hin, hK, hml⟩ := C
  have hv1 : mi_v1 g a := Or.inl (by omega)
  have hnv2 : ¬ mi_v2 g a := fun h => h.2 hl
  have e1 := (hR.2.1 a hv1).1
  have e0 := (hR.2.1 a hv1).2
  rw [mi_cell_r0 hk (by decide) hl] at e1
  have hP := mi_at_one e1
  have hag : a < g.length := mi_v1_lt hv1
  refine mi_callG (va_runI (As := [.int n]) (rest := rest) (b := ad a) ⟨hx, hb, hml, hown, hts⟩ (mi_c_init6 l D cA (ad a) H.size n) (cwI 1 hts (mi_good _ _ _ _ mi_wd_cd_init6) rfl rfl rfl (hts _ mi_wd_ini6) (hts _ (mi_Q_spec hq)) (hts _ mi_wd_in_init6) rfl ⟨by decide, by decide, by decide +kernel⟩ ⟨by show 1 + 1 ≤ _; omega, by show 8 + (2 + 11) + 40 ≤ _; omega⟩)
    ⟨fun a' U g' mk h => ⟨h.1, h.2.1, va_K.moved (u := U) (U := U.calling g' mk a') (Vm.Alike.refl U.vm) h.2.2.1, h.2.2.2⟩, fun U hU hW => ⟨rfl, by rw [hU]; exact hP, va_K.moved hW.alike hK.1, by rw [hU]⟩⟩ rfl rfl hsz rfl (lv_room hcat) hd ⟨hc1, hc2⟩) (fun vv st t L hst hQ hL hW => ?_)
  obtain ⟨hv, q1, q2, b', q3, q4⟩ := hQ
  cases hv
  rw [hst] at q2
  have hH0 : H0.size ≤ H.size := hR.1.1
  obtain ⟨k1, k2, k3⟩ := mi_setk (q := (6, n.toNatClampNeg + 1, [])) hag
  dsimp only at k1 k2 k3
  refine kk t.heap (locs ++ L) (fun x => if x = a then b' else ad2 x) (hR.step a hv1 q1 (fun q hq h6 h7 => q2 q hq h6) (fun b hb => if_neg hb) (Or.inr (Or.inl (by rw [if_pos rfl]; exact q3))) (by simp) (fun b hb => List.getElem?_set_ne (Ne.symm hb)) (fun b hb => ⟨fun _ => if_neg hb, funext fun x => if_neg hb, funext fun x => if_neg hb⟩) (fun b hb => if_neg hb) (by rw [k1, hk]) (fun r hr => by rw [k3] at hr; cases hr) ?_ (fun _ => ⟨?_, ?_, ?_, ?_, ?_, ?_, ?_⟩)) (fun z hz => ?_)
  · rw [mi_cell_r1 k1 (by decide) (by omega), k2]
    show va_at D vwCl (ad a, .inr (6, [.int (nI (n.toNatClampNeg + 1 - 1)), .ref (if a = a then b' else ad2 a)])) t.heap
    rw [if_pos rfl, Nat.add_sub_cancel]
    obtain ⟨jn, hjn, rfl⟩ := nI_of hn0
    rw [nI_clamp hjn]
    exact q4 0 _ rfl
  · rw [mi_cell2_6 k1, show (mi_zero δ a).2.2 a = fun _ => 0 from funext fun x => if_pos rfl]
    simp only [if_true]
    exact q4 1 _ rfl
  · simp only [if_true]
    omega
  · simp only [if_true]
    omega
  · simp only [if_true]
    omega
  · omega
  · intro hk3 x hx
    first | (exfalso; omega) | exact if_pos rfl
  · intro hk3 x hx
    first | (exfalso; omega) | exact if_pos rfl
  · rcases List.mem_append.mp hz with h | h
    · exact hlo z h
    · rcases hL z h with h | h
      · rw [h]; exact e0
      · omega

theorem mi_clrL_a (δ : mi_D) (a : Nat) : (mi_clrL δ a).2.2 a = fun _ => 0 := by
  funext j
  unfold mi_clrL
  exact if_pos rfl
theorem mi_r_clear (C : mi_Cx p s m args meth c y D cA H0 tl) (hd : decode (mi_B y) pc = .ok (.invokevirtual i, 3)) (hq : mi_Q (mi_O y) i = some 7) (hsz : ls.size = mi_L y) (hF : 5 ≤ R.frames ∧ 300 ≤ R.locals) (hcat : (rest.map fun v => v.category).sum ≤ 8) (hc1 : cells ≤ R.cells) (hc2 : slots ≤ R.slots) (hlo : ∀ z ∈ locs, H0.size ≤ z.base)
    (hk : mi_k g a = 6) (hl : mi_len g a ≠ 0) (hR : mi_Rel D cA H0 tl ad ad2 g δ cp s H)
    (kk : ∀ (H1 : Heap) (locs1 : List Loc), mi_Rel D cA H0 tl ad ad2 g (mi_clrL δ a) cp s H1 → (∀ z ∈ locs1, H0.size ≤ z.base) → W p l e R s m args below meth c H1 locs1 cells slots Q (F0 m (pc + 3) ls rest)) : W p l e R s m args below meth c H locs cells slots Q (F0 m pc ls (.ref (ad a) :: rest)) := by
  obtain ⟨hx, hb, hown, hts, hin, hK, hml⟩ := C
  have hv1 : mi_v1 g a := Or.inl (by omega)
  have hv2 : mi_v2 g a := ⟨by omega, hl⟩
  have e1 := (hR.2.1 a hv1).1
  obtain ⟨e2, e3, h1, h2, h3, h4, h5⟩ := hR.2.2.1 a hv2
  rw [mi_cell_r1 hk (by decide) hl] at e1
  rw [mi_cell2_6 hk] at e2
  have hP := mi_at_two e1 e2
  have hne : ad a ≠ ad2 a := hR.2.2.2.2.1 a a hv1 hv2
  refine mi_callG (va_runV (As := []) (rest := rest) (b := ad a) ⟨hx, hb, hml, hown, hts⟩ (mi_c_clear l D cA (ad a) (ad2 a) (cp a) (nI (mi_len g a - 1)) (δ.2.2 a) (by omega)) (cwV 0 hts (mi_goodV (mi_Q_spec hq) mi_wd_in_clear6 mi_wd_se_clear6 mi_wd_ini6 mi_wd_cd_clear6) rfl rfl rfl ⟨rfl, by decide, by decide, by decide +kernel⟩ ⟨by show 1 + 1 ≤ _; omega, by show 8 + (1 + 11) + 40 ≤ _; omega⟩)
    ⟨fun a' U g' mk h => ⟨h.1, h.2.1, va_K.moved (u := U) (U := U.calling g' mk a') (Vm.Alike.refl U.vm) h.2.2⟩, va_recv hK.1 hP (ci := 6) (q0 := 0) rfl rfl, fun U hU hW => ⟨rfl, by rw [hU]; exact hP, va_K.moved hW.alike hK.1⟩⟩ rfl rfl hsz rfl (lv_room hcat) hd ⟨hc1, hc2⟩) (fun vv st t L hst hQ hL hW => ?_)
  obtain ⟨hv, q1, q2, q3⟩ := hQ
  cases hv
  rw [hst] at q1 q2
  refine kk t.heap (locs ++ L) (hR.step a hv1 (Nat.le_of_eq q1.symm) (fun q _ _ h => q2 q (h hv2)) (fun _ _ => rfl) (Or.inl ⟨hv2, rfl⟩) rfl (fun _ _ => rfl) (fun b hb => ⟨fun _ => rfl, rfl, funext fun x => if_neg hb⟩) (fun _ _ => rfl) rfl (fun r hr => hR.2.2.2.2.2.2.2.2.1 a r hr) ?_ (fun _ => ⟨?_, e3, h1, h2, h3, fun hk3 => by omega, fun hk3 x hx => by rw [mi_clrL_a]⟩)) (fun z hz => ?_)
  · rw [mi_cell_r1 hk (by decide) hl]
    exact e1.kept (q2 _ hne)
  · rw [mi_cell2_6 hk, mi_clrL_a]
    rw [show (fun j => if j < cp a then (0 : Int64) else δ.2.2 a j) = fun _ => 0 by
      funext j
      by_cases hj : j < cp a
      · rw [if_pos hj]
      · rw [if_neg hj, h5 hk j (by omega)]] at q3
    exact q3
  · rcases List.mem_append.mp hz with h | h
    · exact hlo z h
    · rw [hL z h]; exact e3
end MIPR
