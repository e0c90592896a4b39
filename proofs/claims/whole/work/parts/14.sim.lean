/-! THE JVM DOES WHAT THE SMALL MACHINE DOES: calls, returns, whole runs -/
theorem mi_run_up : ∀ (n d y pc : Nat) (L st : List Value) (σ : mi_S) (v : Option Value) (σ' : mi_S), mi_run n d y pc L st σ = some (v, σ') → mi_up σ σ' ∧ ∀ a, v ≠ some (.ref a) := by
  intro n
  induction n with
  | zero => intro d y pc L st σ v σ' h; simp [mi_run] at h
  | succ n ih =>
    intro d y pc L st σ v σ' h
    rw [mi_run] at h
    cases hd : decode (mi_B y) pc with
    | error e => rw [hd] at h; cases h
    | ok q =>
      obtain ⟨ins, len⟩ := q
      rw [hd] at h
      dsimp only at h
      cases hp : mi_pure (mi_O y) ins len pc L st with
      | some q =>
        obtain ⟨pc', L', st'⟩ := q
        rw [hp] at h
        exact ih _ _ _ _ _ _ _ _ h
      | none =>
        rw [hp] at h
        dsimp only at h
        cases hh : mi_heap (mi_O y) (mi_ini y) d ins len st σ with
        | some q =>
          obtain ⟨st', σ1⟩ := q
          rw [hh] at h
          obtain ⟨h1, h2⟩ := ih _ _ _ _ _ _ _ _ h
          exact ⟨mi_up_trans (mi_heap_up hh) h1, h2⟩
        | none =>
          rw [hh] at h
          dsimp only at h
          cases hc : mi_call (mi_O y) ins len st σ.1 with
          | some q =>
            obtain ⟨z, as, r'⟩ := q
            rw [hc] at h
            cases d with
            | zero => cases h
            | succ d' =>
              dsimp only at h
              cases hv : mi_run n d' z 0 (mi_entry as (mi_L z)) [] σ with
              | some q =>
                obtain ⟨v1, σ1⟩ := q
                rw [hv] at h
                obtain ⟨h1, h2⟩ := ih _ _ _ _ _ _ _ _ h
                exact ⟨mi_up_trans (ih _ _ _ _ _ _ _ _ hv).1 h1, h2⟩
              | none => rw [hv] at h; cases h
          | none =>
            rw [hc] at h
            dsimp only at h
            cases hr : mi_ret y ins len st with
            | none => rw [hr] at h; cases h
            | some w =>
              rw [hr] at h
              cases h
              refine ⟨mi_up_rfl _, fun a e => ?_⟩
              subst e
              unfold mi_ret at hr
              repeat' (first | (cases hr; done) | split at hr)
theorem mi_nr {v : Option Value} (h : ∀ a, v ≠ some (.ref a)) (ad : Nat → Nat) : v.toList.map (mi_rv ad) = v.toList := by
  cases v with
  | none => rfl
  | some w =>
    cases w with
    | ref a => exact absurd rfl (h a)
    | _ => rfl
theorem mi_sl_map (ad : Nat → Nat) (vs : List Value) : lg_sl (vs.map (mi_rv ad)) = (lg_sl vs).map (fun z => match z with | .val v => .val (mi_rv ad v) | z => z) := by
  induction vs with
  | nil => rfl
  | cons v vs ih =>
    show lg_sl (mi_rv ad v :: vs.map (mi_rv ad)) = _
    unfold lg_sl at ih ⊢
    rw [List.flatMap_cons, List.flatMap_cons, ih, List.map_append, mi_rv_cat]
    congr 1
    split <;> rfl
theorem mi_LR_entry (ad : Nat → Nat) (vs : List Value) (n : Nat) (h : (lg_sl vs).length ≤ n) : mi_LR ad n ((lg_sl (vs.map (mi_rv ad)) ++ List.replicate (n - (lg_sl (vs.map (mi_rv ad))).length) Slot.unset).toArray) (mi_entry vs n) := by
  have hlen : (lg_sl (vs.map (mi_rv ad))).length = (lg_sl vs).length := by rw [mi_sl_map, List.length_map]
  obtain ⟨h1, h2, -⟩ := lv_entry (vs.map (mi_rv ad)) (n := n) (by rw [hlen]; exact h)
  refine ⟨by unfold mi_entry; simp; omega, h1, h2, fun i v hi hv => ?_⟩
  unfold mi_entry at hi
  rw [List.getElem?_map] at hi
  rw [List.getElem?_toArray, hlen]
  by_cases hil : i < (lg_sl vs).length
  · rw [List.getElem?_append_left hil] at hi
    rw [List.getElem?_append_left (by rw [hlen]; exact hil), mi_sl_map, List.getElem?_map]
    cases hq : (lg_sl vs)[i]? with
    | none => rw [hq] at hi; cases hi
    | some z =>
      rw [hq] at hi
      cases z with
      | val w => cases hi; rfl
      | _ => cases hi; exact absurd rfl hv
  · rw [List.getElem?_append_right (by omega), List.getElem?_replicate] at hi
    split at hi
    · cases hi; exact absurd rfl hv
    · cases hi
theorem mi_bd_entry {N n : Nat} {vs : List Value} (h : mi_bd N vs) : mi_bd N (mi_entry vs n) := by
  intro a ha
  unfold mi_entry at ha
  obtain ⟨z, hz, he⟩ := List.mem_map.mp ha
  rcases List.mem_append.mp hz with hz | hz
  · unfold lg_sl at hz
    obtain ⟨v, hv, hz⟩ := List.mem_flatMap.mp hz
    split at hz
    · rcases List.mem_cons.mp hz with rfl | hz
      · exact h a (by rw [← show v = .ref a from he]; exact hv)
      · rcases List.mem_cons.mp hz with rfl | hz
        · cases he
        · cases hz
    · rcases List.mem_cons.mp hz with rfl | hz
      · exact h a (by rw [← show v = .ref a from he]; exact hv)
      · cases hz
  · rw [(List.mem_replicate.mp hz).2] at he
    cases he
theorem mi_C_spec {o i z n kd : Nat} (h : mi_C o i = some (z, n, kd)) :
    (kd < 3 → Cond.methodLink (mi_RX o) i (mi_N z) ∈ mi_ws) ∧ (¬ kd < 3 → Cond.methodLinkNest (mi_RX o) i (mi_N z) "LedgerTwice" ∈ mi_nest)
    ∧ (kd = 1 ∨ kd = 4 → Cond.static (mi_N z) ∈ mi_ws) ∧ (¬ (kd = 1 ∨ kd = 4) → Cond.instanceMethod (mi_N z) ∈ mi_ws) ∧ (kd = 0 → Cond.selects (mi_RX (mi_O z)) (mi_N z) (mi_N z) ∈ mi_ws)
    ∧ Cond.initialized (mi_RX (mi_O z)) ∈ mi_ws ∧ Cond.code (mi_N z) (mi_B z) (mi_L z) (mi_R z) ∈ mi_ws ∧ (mi_N z).cls = mi_RX (mi_O z)
    ∧ (parseMethodDescriptor (mi_N z).desc).map (fun d => d.parameters.length) = some (if kd = 1 ∨ kd = 4 then n else n - 1)
    ∧ mi_L z ≤ 40 ∧ (1 ≤ n ∨ kd = 1 ∨ kd = 4) ∧ kd < 5 ∧ (kd = 2 ∨ kd = 3 → (mi_N z).name = "<init>" ∧ mi_R z = none) := by
  unfold mi_C at h
  cases hf : mi_tC.find? (fun e => e.1 == o && e.2.1 == i) with
  | none => rw [hf] at h; cases h
  | some e =>
    rw [hf] at h
    obtain ⟨e1, e2, e3, e4, e5, p1, p2, p3, p4, p5⟩ := e
    cases h
    obtain ⟨h1, h2⟩ := mi_find _ _ hf
    simp only [Bool.and_eq_true, beq_iff_eq] at h2
    have h3 := mi_tC_ok _ h1
    unfold mi_PC at h3
    obtain ⟨q1, q2, q3, q4, q5, q6, q7, q8, q9, q10, q11, q12, q13⟩ := h3
    rw [h2.1, h2.2] at q1
    refine ⟨fun k => mi_ws_of _ (q1 k) rfl, fun k => ?_, fun k => mi_ws_of _ (q3 k) rfl, fun k => mi_ws_of _ (q4 k) rfl, fun k => mi_ws_of _ (q5 k) rfl, mi_ws_of _ q6 rfl, mi_ws_of _ q7 rfl, q8, q9, Nat.le_of_ble_eq_true q10, q11, q12, q13⟩
    unfold mi_nest
    refine List.mem_map.mpr ⟨_, List.mem_filter.mpr ⟨h1, ?_⟩, ?_⟩
    · exact decide_eq_true (Nat.le_of_not_lt k)
    · dsimp only
      rw [h2.1, h2.2]
theorem mi_C_13 {o i z n kd : Nat} (h : mi_C o i = some (z, n, kd)) : mi_O z < 13 := by
  unfold mi_C at h
  cases hf : mi_tC.find? (fun e => e.1 == o && e.2.1 == i) with
  | none => rw [hf] at h; cases h
  | some e =>
    rw [hf] at h
    obtain ⟨e1, e2, e3, e4, e5, p1⟩ := e
    cases h
    have h1 := (mi_find _ _ hf).1
    have h2 : ∀ e ∈ mi_tC, mi_O e.2.2.1 < 13 := by decide +kernel
    exact h2 _ h1
theorem mi_X_ok (y : Nat) (h : mi_X y = true) : (mi_N y).name = "<init>" := by
  unfold mi_X mi_m at h
  unfold mi_N mi_m
  rw [List.getD_eq_getElem?_getD] at h ⊢
  cases hq : mi_M[y]? with
  | none => rw [hq] at h; cases h
  | some q =>
    rw [hq] at h
    have h2 : ∀ q ∈ mi_M, q.2.2.2.2.2 = true → q.1.name = "<init>" := by decide +kernel
    exact h2 q (List.mem_of_getElem? hq) h
theorem mi_plain : ∀ k, k < 13 → plainName (mi_RX k) = true ∧ mi_RX k ≠ "java/lang/invoke/MethodHandle" ∧ mi_RX k ≠ "java/lang/invoke/VarHandle" := by decide +kernel
theorem mi_pop_eq {n : Nat} {st as r : List Value} (h : mi_pop n st = some (as, r)) : st = as.reverse ++ r ∧ as.length = n := by
  unfold mi_pop at h
  split at h
  · next hn =>
    cases h
    refine ⟨by rw [List.reverse_reverse, List.take_append_drop], ?_⟩
    rw [List.length_reverse, List.length_take]
    omega
  · cases h
theorem mi_K.warm {D : va_G} {cA : mi_cA} {H0 : Heap} {tl : Nat} {s U : State} (hW : s.WarmedH U.vm) (h : mi_K D cA H0 tl s) : mi_K D cA H0 tl U := by
  obtain ⟨h1, h2, h3⟩ := h
  refine ⟨va_K.moved hW.alike h1, fun w hw => ?_, h3.moved hW.alike⟩
  have hn := h2 w hw
  unfold mi_nest at hw
  obtain ⟨e, -, rfl⟩ := List.mem_map.mp hw
  exact va_Nw.warmM hW hn
theorem mi_K.same {D : va_G} {cA : mi_cA} {H0 : Heap} {tl : Nat} {s U : State} (hv : s.vm = U.vm) (h : mi_K D cA H0 tl s) : mi_K D cA H0 tl U := by
  obtain ⟨h1, h2, h3⟩ := h
  refine ⟨va_K.moved (by rw [hv]; exact Vm.Alike.refl U.vm) h1, fun w hw => ?_, h3.moved (by rw [hv]; exact Vm.Alike.refl U.vm)⟩
  have hn := h2 w hw
  unfold mi_nest at hw
  obtain ⟨e, -, rfl⟩ := List.mem_map.mp hw
  exact va_Nw.same rfl hv hn
/-- what a call of method z asks and gives -/
def mi_PcM (D : va_G) (cA : mi_cA) (H0 : Heap) (tl : Nat) (ad ad2 : Nat → Nat) (as : List Value) (g : mi_G) (δ : mi_D) (h : mi_H) : Array Value → State → Prop := fun w U => w = (as.map (mi_rv ad)).toArray ∧ mi_Rel D cA H0 tl ad ad2 g δ h.1 U U.heap ∧ mi_K D cA H0 tl U
def mi_QcM (D : va_G) (cA : mi_cA) (H0 : Heap) (tl : Nat) (ad : Nat → Nat) (N : Nat) (v : Option Value) (g' : mi_G) (δ' : mi_D) (h' : mi_H) : Array Value → State → Outcome → State → Prop := fun _ _ o t => o = .returned v ∧ ∃ ad' ad2' : Nat → Nat, (∀ b, b < N → ad' b = ad b) ∧ mi_Rel D cA H0 tl ad' ad2' g' δ' h'.1 t t.heap
theorem mi_PcM_blind {D : va_G} {cA : mi_cA} {H0 : Heap} {tl : Nat} {ad ad2 : Nat → Nat} {as : List Value} {g : mi_G} {δ : mi_D} {h : mi_H} : FrameBlind (mi_PcM D cA H0 tl ad ad2 as g δ h) := by
  intro a U gg mk hh
  exact ⟨hh.1, hh.2.1.moved (u := U) (U := U.calling gg mk a) (Vm.Alike.refl U.vm), mi_K.same (s := U) (U := U.calling gg mk a) rfl hh.2.2⟩
def mi_SimP (l : Launch) (D : va_G) (cA : mi_cA) (H0 : Heap) (tl : Nat) (n : Nat) : Prop := ∀ (d y pc : Nat) (L st : List Value) (g : mi_G) (δ : mi_D) (h : mi_H) (v : Option Value) (g' : mi_G) (δ' : mi_D) (h' : mi_H), mi_run n d y pc L st (g, δ, h) = some (v, (g', δ', h')) →
  ∀ {p : Program} {e : Env} {R : Room} {s : State} {m : MethodId} {args : Array Value} {below : List Frame} {meth : Method} {c : Code} {H : Heap} {locs : List Loc} {cells slots : Nat} {Q : State → Prop} {ls : Array Slot} {ad ad2 : Nat → Nat},
  mi_Cx p s m args meth c y D cA H0 tl → mi_LR ad (mi_L y) ls L → mi_bd g.length L → mi_bd g.length st → mi_Rel D cA H0 tl ad ad2 g δ h.1 s H → (∀ z ∈ locs, H0.size ≤ z.base) → (d ≤ R.frames ∧ 60 * d ≤ R.locals) → cells + (h'.2.1 - h.2.1) ≤ R.cells → slots + (h'.2.2 - h.2.2) ≤ R.slots →
  (∀ (ins : Instr) (pcr len : Nat) (str : List Value) (lsr : Array Slot) (H1 : Heap) (locs1 : List Loc) (ad' ad2' : Nat → Nat), decode (mi_B y) pcr = .ok (ins, len) → mi_ret y ins len str = some v → (∀ b, b < g.length → ad' b = ad b) → mi_Rel D cA H0 tl ad' ad2' g' δ' h'.1 s H1 → (∀ z ∈ locs1, H0.size ≤ z.base) → W p l e R s m args below meth c H1 locs1 (cells + (h'.2.1 - h.2.1)) (slots + (h'.2.2 - h.2.2)) Q (F0 m pcr lsr (str.map (mi_rv ad')))) →
  W p l e R s m args below meth c H locs cells slots Q (F0 m pc ls (st.map (mi_rv ad)))
set_option maxHeartbeats 4000000 in
/-- a whole method, out of its run -/
theorem mi_met {l : Launch} {D : va_G} {cA : mi_cA} {H0 : Heap} {tl n : Nat} (IH : mi_SimP l D cA H0 tl n) {d z : Nat} {as : List Value} {g g' : mi_G} {δ δ' : mi_D} {h h' : mi_H} {v : Option Value} (hrun : mi_run n d z 0 (mi_entry as (mi_L z)) [] (g, δ, h) = some (v, (g', δ', h')))
    (h13 : mi_O z < 13) (hcls : (mi_N z).cls = mi_RX (mi_O z)) (hbd : mi_bd g.length as) (hlen : (lg_sl as).length ≤ mi_L z) (ad ad2 : Nat → Nat) :
    Met l (mi_N z) (.code (mi_N z) (mi_B z) (mi_L z) (mi_R z) :: mi_ws) { frames := d, cells := h'.2.1 - h.2.1, slots := h'.2.2 - h.2.2, locals := 60 * d } (mi_PcM D cA H0 tl ad ad2 as g δ h) (mi_QcM D cA H0 tl ad g.length v g' δ' h') (h'.2.1 - h.2.1) (h'.2.2 - h.2.2) (fun x => H0.size ≤ x) := by
  refine Met.ofW (cc := mi_B z) (maxL := mi_L z) (ret := mi_R z) (by rw [hcls]; exact (mi_plain _ h13).1) rfl ?_
  intro p e s m args below meth c s₁ B hml hv
  obtain ⟨rfl, hR, hK⟩ := hv
  have hx := B.exec
  have hb := B.bytes
  have hr := B.returns
  have hts0 := atoms_spec (ws := .code (mi_N z) (mi_B z) (mi_L z) (mi_R z) :: mi_ws) B.pre
  have hts : ∀ w ∈ mi_ws, w.before (as.map (mi_rv ad)).toArray s = true := fun w hw => hts0 w (List.mem_cons_of_mem _ hw)
  have hown : s.vm.findClass (mi_RX (mi_O z)) = some m.cls := by rw [← hcls]; exact findClass_of_methodNamed B.named
  have hlocks := B.notSynchronized
  have hname := (name_of_methodNamed B.named B.method).1
  rw [lg_entry_eq]
  refine IH d z 0 _ [] g δ h v g' δ' h' hrun (ad := ad) (ad2 := ad2) ⟨hx, hb, hown, hts, fun q => hname.trans (mi_X_ok z q), hK, hml⟩ (mi_LR_entry ad as _ hlen) (mi_bd_entry hbd) (mi_bd_nil _) hR (fun z hz => by cases hz) ⟨Nat.le_refl _, Nat.le_refl _⟩ (by show 0 + (h'.2.1 - h.2.1) ≤ h'.2.1 - h.2.1; omega) (by show 0 + (h'.2.2 - h.2.2) ≤ h'.2.2 - h.2.2; omega) (fun ins pcr len str lsr H1 locs1 ad' ad2' hd hret hads hR1 hl1 => ?_)
  refine W.cs (cells' := h'.2.1 - h.2.1) (slots' := h'.2.2 - h.2.2) (by omega) (by omega) ?_
  have post : ∀ t : State, t.heap = H1 → s.WarmedH t.vm → mi_QcM D cA H0 tl ad g.length v g' δ' h' (as.map (mi_rv ad)).toArray s (.returned v) t := fun t ht hW => ⟨rfl, ad', ad2', hads, by rw [ht]; exact hR1.moved hW.alike⟩
  unfold mi_ret at hret
  split at hret
  · split at hret
    · next h1 =>
      subst h1
      split at hret
      · next x hy =>
        cases hret
        exact W.iret hx hb (hr.trans hy) post hl1 hd
      · next x hy =>
        split at hret
        · next h01 =>
          cases hret
          exact W.zret hx hb (hr.trans hy) (by rcases h01 with rfl | rfl <;> rfl) post hl1 hd
        · cases hret
      · cases hret
    · cases hret
  · split at hret
    · next h1 =>
      subst h1
      split at hret
      · next x hy =>
        cases hret
        exact W.lret hx hb (hr.trans hy) post hl1 hd
      · cases hret
    · cases hret
  · split at hret
    · next h1 =>
      subst h1
      split at hret
      · next hy =>
        cases hret
        exact W.vret hx hb (hr.trans hy) post hl1 hd
      · cases hret
    · cases hret
  · cases hret
theorem mi_recv {D : va_G} {cA : mi_cA} {H0 H : Heap} {tl : Nat} {ad ad2 : Nat → Nat} {g : mi_G} {δ : mi_D} {cp : Nat → Nat} {s : State} {a k : Nat} (hK : mi_K D cA H0 tl s) (hR : mi_Rel D cA H0 tl ad ad2 g δ cp s H) (hk : mi_k g a = k) (h13 : k < 13) : ∃ cell : Cell, H[ad a]? = some cell ∧ cell.vm.isStatics = false ∧ s.vm.findClass (mi_RX k) = some cell.cls := by
  have hc := (hR.2.1 a (Or.inl (by omega))).1
  by_cases h36 : k = 3 ∨ k = 6
  · by_cases hl : mi_len g a = 0
    · rw [mi_cell_r0 hk h36 hl] at hc
      exact va_recv hK.1 (mi_at_one hc) (ci := k) (q0 := 0) (mi_cl k h13) rfl
    · rw [mi_cell_r1 hk h36 hl] at hc
      exact va_recv hK.1 (mi_at_one hc) (ci := k) (q0 := 0) (mi_cl k h13) rfl
  · rw [mi_cell_obj hk h13 (fun q => h36 (Or.inl q)) (fun q => h36 (Or.inr q))] at hc
    exact va_recv hK.1 (mi_at_one hc) (ci := k) (q0 := 0) (mi_cl k h13) rfl
theorem mi_goodI {own : String} {idx : Nat} {y : MethodName} {cc : ByteArray} {n : Nat} {r : Option FieldType} (h : Cond.code y cc n r ∈ mi_ws) : GoodIn mi_ws (Cond.code y cc n r :: mi_ws) := mi_good y cc n r h
section MISIM
variable {p : Program} {l : Launch} {e : Env} {R : Room} {s : State} {m : MethodId} {args : Array Value} {below : List Frame} {meth : Method} {c : Code} {H : Heap} {locs : List Loc} {cells slots : Nat} {Q : State → Prop}
variable {y pc d len n z : Nat} {ins : Instr} {ls : Array Slot} {st as r : List Value} {D : va_G} {cA : mi_cA} {H0 : Heap} {tl : Nat} {ad ad2 : Nat → Nat} {g g' : mi_G} {δ δ' : mi_D} {h h' : mi_H} {v : Option Value}
set_option maxHeartbeats 4000000 in
/-- a call -/
theorem mi_sim_call (IH : mi_SimP l D cA H0 tl n) (C : mi_Cx p s m args meth c y D cA H0 tl) (hc : mi_call (mi_O y) ins len st g = some (z, as, r)) (hd : decode (mi_B y) pc = .ok (ins, len)) (hrun : mi_run n d z 0 (mi_entry as (mi_L z)) [] (g, δ, h) = some (v, (g', δ', h')))
    (hsz : ls.size = mi_L y) (hs : mi_bd g.length st) (hR : mi_Rel D cA H0 tl ad ad2 g δ h.1 s H) (hlo : ∀ z ∈ locs, H0.size ≤ z.base) (hF : d + 1 ≤ R.frames ∧ 60 * (d + 1) ≤ R.locals) (hc1 : cells + (h'.2.1 - h.2.1) ≤ R.cells) (hc2 : slots + (h'.2.2 - h.2.2) ≤ R.slots)
    (kk : ∀ (ad' ad2' : Nat → Nat) (H1 : Heap) (locs1 : List Loc), (∀ b, b < g.length → ad' b = ad b) → mi_Rel D cA H0 tl ad' ad2' g' δ' h'.1 s H1 → (∀ z ∈ locs1, H0.size ≤ z.base) → mi_bd g.length r → W p l e R s m args below meth c H1 locs1 (cells + (h'.2.1 - h.2.1)) (slots + (h'.2.2 - h.2.2)) Q (F0 m (pc + 3) ls (v.toList ++ r.map (mi_rv ad)))) : W p l e R s m args below meth c H locs cells slots Q (F0 m pc ls (st.map (mi_rv ad))) := by
  obtain ⟨hx, hb, hown, hts, hin, hK, hml⟩ := C
  cases ins with
  | invokevirtual i =>
    unfold mi_call at hc
    dsimp only at hc
    split at hc
    · next h1 =>
      subst h1
      split at hc
      · cases hc
      · next z' n' kd hC =>
        split at hc
        · next hkd =>
          split at hc
          · cases hc
          · next as' r' hpop =>
            split at hc
            · next hcond =>
              cases hc
              obtain ⟨hcat, hlen, hrec⟩ := hcond
              obtain ⟨q1, q2, q3, q4, q5, q6, q7, q8, q9, q10, q11, q12, q13⟩ := mi_C_spec hC
              have h13 := mi_C_13 hC
              obtain ⟨hst, hasn⟩ := mi_pop_eq hpop
              have hbas : mi_bd g.length as := fun a ha => hs a (by rw [hst]; exact List.mem_append_left _ (List.mem_reverse.mpr ha))
              have hbr : mi_bd g.length r := fun a ha => hs a (by rw [hst]; exact List.mem_append_right _ ha)
              have hMet := mi_met IH hrun h13 q8 hbas hlen ad ad2 (l := l)
              have hcr : ((r.map (mi_rv ad)).map fun v => v.category).sum ≤ 8 := by rw [mi_cat_map]; exact hcat
              have hcode := mi_good _ _ _ _ q7
              have hfr : d + 1 ≤ R.frames ∧ 8 + (mi_L z + 11) + 60 * d ≤ R.locals := ⟨hF.1, by omega⟩
              have hpl := mi_plain _ h13
              have hplz : (mi_N z).cls ≠ "java/lang/invoke/MethodHandle" ∧ (mi_N z).cls ≠ "java/lang/invoke/VarHandle" := by rw [q8]; exact hpl.2
              have fin : ∀ (vv : Option Value) (st0 t : State) (L : List Loc), mi_QcM D cA H0 tl ad g.length v g' δ' h' (as.map (mi_rv ad)).toArray st0 (.returned vv) t → (∀ q ∈ L, H0.size ≤ q.base) → s.WarmedH t.vm → W p l e R s m args below meth c t.heap (locs ++ L) (cells + (h'.2.1 - h.2.1)) (slots + (h'.2.2 - h.2.2)) Q (F0 m (pc + 3) ls (vv.toList ++ r.map (mi_rv ad))) := by
                intro vv st0 t L hQ hL hW
                obtain ⟨hv, ad', ad2', hads, hR1⟩ := hQ
                cases hv
                exact kk ad' ad2' t.heap (locs ++ L) hads (hR1.moved hW.alike.symm) (fun w hw => by
                  rcases List.mem_append.mp hw with h | h
                  · exact hlo w h
                  · exact hL w h) hbr
              have hk0 : kd = 0 := by
                rcases hkd with h | h | h
                · exact h.1
                · exact absurd h.2 (by decide)
                · exact absurd h.2 (by decide)
              subst hk0
              cases as with
              | nil => simp [mi_rok] at hrec
              | cons a0 as =>
                cases a0 with
                | ref a =>
                  have hka : mi_k g a = mi_O z := by simpa [mi_rok] using hrec
                  rw [hst, List.map_append, List.map_reverse]
                  rw [if_neg (by omega)] at q9
                  refine mi_callG (va_runV (As := as.map (mi_rv ad)) (rest := r.map (mi_rv ad)) (b := ad a) ⟨hx, hb, hml, hown, hts⟩ hMet (cwV (n' - 1) hts (mi_goodV (q1 (by omega)) (q4 (by omega)) (q5 rfl) q6 q7) rfl rfl rfl ⟨q8, hplz.1, hplz.2, q9⟩ hfr) ⟨mi_PcM_blind, mi_recv hK hR hka h13, fun U hU hW => ⟨rfl, by rw [hU]; exact hR.moved hW.alike, hK.warm hW⟩⟩ rfl (by simp at hasn ⊢; omega) hsz (by simp [mi_rv]) (lv_room hcr) hd ⟨hc1, hc2⟩) (fun vv st0 t L hst0 hQ hL hW => fin vv st0 t L hQ hL hW)
                | _ => simp [mi_rok] at hrec
            · cases hc
        · cases hc
    · cases hc
  | invokestatic i =>
    unfold mi_call at hc
    dsimp only at hc
    split at hc
    · next h1 =>
      subst h1
      split at hc
      · cases hc
      · next z' n' kd hC =>
        split at hc
        · next hkd =>
          split at hc
          · cases hc
          · next as' r' hpop =>
            split at hc
            · next hcond =>
              cases hc
              obtain ⟨hcat, hlen, hrec⟩ := hcond
              obtain ⟨q1, q2, q3, q4, q5, q6, q7, q8, q9, q10, q11, q12, q13⟩ := mi_C_spec hC
              have h13 := mi_C_13 hC
              obtain ⟨hst, hasn⟩ := mi_pop_eq hpop
              have hbas : mi_bd g.length as := fun a ha => hs a (by rw [hst]; exact List.mem_append_left _ (List.mem_reverse.mpr ha))
              have hbr : mi_bd g.length r := fun a ha => hs a (by rw [hst]; exact List.mem_append_right _ ha)
              have hMet := mi_met IH hrun h13 q8 hbas hlen ad ad2 (l := l)
              have hcr : ((r.map (mi_rv ad)).map fun v => v.category).sum ≤ 8 := by rw [mi_cat_map]; exact hcat
              have hcode := mi_good _ _ _ _ q7
              have hfr : d + 1 ≤ R.frames ∧ 8 + (mi_L z + 11) + 60 * d ≤ R.locals := ⟨hF.1, by omega⟩
              have hpl := mi_plain _ h13
              have hplz : (mi_N z).cls ≠ "java/lang/invoke/MethodHandle" ∧ (mi_N z).cls ≠ "java/lang/invoke/VarHandle" := by rw [q8]; exact hpl.2
              have fin : ∀ (vv : Option Value) (st0 t : State) (L : List Loc), mi_QcM D cA H0 tl ad g.length v g' δ' h' (as.map (mi_rv ad)).toArray st0 (.returned vv) t → (∀ q ∈ L, H0.size ≤ q.base) → s.WarmedH t.vm → W p l e R s m args below meth c t.heap (locs ++ L) (cells + (h'.2.1 - h.2.1)) (slots + (h'.2.2 - h.2.2)) Q (F0 m (pc + 3) ls (vv.toList ++ r.map (mi_rv ad))) := by
                intro vv st0 t L hQ hL hW
                obtain ⟨hv, ad', ad2', hads, hR1⟩ := hQ
                cases hv
                exact kk ad' ad2' t.heap (locs ++ L) hads (hR1.moved hW.alike.symm) (fun w hw => by
                  rcases List.mem_append.mp hw with h | h
                  · exact hlo w h
                  · exact hL w h) hbr
              have hk1 : kd = 1 ∨ kd = 4 := by
                rcases hkd with h | h | h
                · exact absurd h.2 (by decide)
                · exact h.1
                · exact absurd h.2 (by decide)
              rw [hst, List.map_append, List.map_reverse]
              rw [if_pos hk1] at q9
              rcases hk1 with rfl | rfl
              · refine mi_callG (va_runS (As := as.map (mi_rv ad)) (rest := r.map (mi_rv ad)) ⟨hx, hb, hml, hown, hts⟩ hMet (va_cwS n' hts (mi_goodS (q1 (by omega)) (q3 (Or.inl rfl)) (by rw [q8]; exact q6) q7) rfl rfl rfl ⟨hplz.1, hplz.2, q9⟩ hfr) ⟨mi_PcM_blind, fun U hU hW => ⟨rfl, by rw [hU]; exact hR.moved hW.alike, hK.warm hW⟩⟩ rfl (by simp [hasn]) hsz (by simp) (lv_room hcr) hd ⟨hc1, hc2⟩) (fun vv st0 t L hst0 hQ hL hW => fin vv st0 t L hQ hL hW)
              · refine mi_callG (va_runSN (As := as.map (mi_rv ad)) (rest := r.map (mi_rv ad)) ⟨hx, hb, hml, hown, hts⟩ hMet ⟨va_cnB n' hts hcode rfl rfl rfl (hK.2.1 _ (q2 (by omega))) (by rw [q8]; exact hts _ q6) ⟨hplz.1, hplz.2, q9⟩ hfr, hts _ (q3 (Or.inr rfl)), trivial⟩ ⟨mi_PcM_blind, fun U hU hW => ⟨rfl, by rw [hU]; exact hR.moved hW.alike, hK.warm hW⟩⟩ rfl (by simp [hasn]) hsz (by simp) (lv_room hcr) hd ⟨hc1, hc2⟩) (fun vv st0 t L hst0 hQ hL hW => fin vv st0 t L hQ hL hW)
            · cases hc
        · cases hc
    · cases hc
  | invokespecial i =>
    unfold mi_call at hc
    dsimp only at hc
    split at hc
    · next h1 =>
      subst h1
      split at hc
      · cases hc
      · next z' n' kd hC =>
        split at hc
        · next hkd =>
          split at hc
          · cases hc
          · next as' r' hpop =>
            split at hc
            · next hcond =>
              cases hc
              obtain ⟨hcat, hlen, hrec⟩ := hcond
              obtain ⟨q1, q2, q3, q4, q5, q6, q7, q8, q9, q10, q11, q12, q13⟩ := mi_C_spec hC
              have h13 := mi_C_13 hC
              obtain ⟨hst, hasn⟩ := mi_pop_eq hpop
              have hbas : mi_bd g.length as := fun a ha => hs a (by rw [hst]; exact List.mem_append_left _ (List.mem_reverse.mpr ha))
              have hbr : mi_bd g.length r := fun a ha => hs a (by rw [hst]; exact List.mem_append_right _ ha)
              have hMet := mi_met IH hrun h13 q8 hbas hlen ad ad2 (l := l)
              have hcr : ((r.map (mi_rv ad)).map fun v => v.category).sum ≤ 8 := by rw [mi_cat_map]; exact hcat
              have hcode := mi_good _ _ _ _ q7
              have hfr : d + 1 ≤ R.frames ∧ 8 + (mi_L z + 11) + 60 * d ≤ R.locals := ⟨hF.1, by omega⟩
              have hpl := mi_plain _ h13
              have hplz : (mi_N z).cls ≠ "java/lang/invoke/MethodHandle" ∧ (mi_N z).cls ≠ "java/lang/invoke/VarHandle" := by rw [q8]; exact hpl.2
              have fin : ∀ (vv : Option Value) (st0 t : State) (L : List Loc), mi_QcM D cA H0 tl ad g.length v g' δ' h' (as.map (mi_rv ad)).toArray st0 (.returned vv) t → (∀ q ∈ L, H0.size ≤ q.base) → s.WarmedH t.vm → W p l e R s m args below meth c t.heap (locs ++ L) (cells + (h'.2.1 - h.2.1)) (slots + (h'.2.2 - h.2.2)) Q (F0 m (pc + 3) ls (vv.toList ++ r.map (mi_rv ad))) := by
                intro vv st0 t L hQ hL hW
                obtain ⟨hv, ad', ad2', hads, hR1⟩ := hQ
                cases hv
                exact kk ad' ad2' t.heap (locs ++ L) hads (hR1.moved hW.alike.symm) (fun w hw => by
                  rcases List.mem_append.mp hw with h | h
                  · exact hlo w h
                  · exact hL w h) hbr
              have hk2 : kd = 2 ∨ kd = 3 := by
                rcases hkd with h | h | h
                · exact absurd h.2 (by decide)
                · exact absurd h.2 (by decide)
                · exact h.1
              obtain ⟨hni, hRz⟩ := q13 hk2
              rw [hRz] at hMet q7 hcode
              have hrec : mi_rok g (mi_O z) as = true := by
                rcases hrec with h | h | h
                · omega
                · omega
                · exact h
              cases as with
              | nil => simp [mi_rok] at hrec
              | cons a0 as =>
                cases a0 with
                | ref a =>
                  rw [hst, List.map_append, List.map_reverse]
                  rw [if_neg (by omega)] at q9
                  rcases hk2 with rfl | rfl
                  · refine mi_callG (va_runI (As := as.map (mi_rv ad)) (rest := r.map (mi_rv ad)) (b := ad a) ⟨hx, hb, hml, hown, hts⟩ hMet (cwI (n' - 1) hts hcode rfl rfl rfl (by rw [q8]; exact hts _ q6) (hts _ (q1 (by omega))) (hts _ (q4 (by omega))) hni ⟨hplz.1, hplz.2, q9⟩ hfr) ⟨mi_PcM_blind, fun U hU hW => ⟨rfl, by rw [hU]; exact hR.moved hW.alike, hK.warm hW⟩⟩ rfl (by simp at hasn ⊢; omega) hsz (by simp [mi_rv]) (lv_room hcr) hd ⟨hc1, hc2⟩) (fun vv st0 t L hst0 hQ hL hW => fin vv st0 t L hQ hL hW)
                  · refine mi_callG (va_runIN (As := as.map (mi_rv ad)) (rest := r.map (mi_rv ad)) (b := ad a) ⟨hx, hb, hml, hown, hts⟩ hMet ⟨va_cnB (n' - 1) hts hcode rfl rfl rfl (hK.2.1 _ (q2 (by omega))) (by rw [q8]; exact hts _ q6) ⟨hplz.1, hplz.2, q9⟩ hfr, hni, hts _ (q4 (by omega))⟩ ⟨mi_PcM_blind, fun U hU hW => ⟨rfl, by rw [hU]; exact hR.moved hW.alike, hK.warm hW⟩⟩ rfl (by simp at hasn ⊢; omega) hsz (by simp [mi_rv]) (lv_room hcr) hd ⟨hc1, hc2⟩) (fun vv st0 t L hst0 hQ hL hW => fin vv st0 t L hQ hL hW)
                | _ => simp [mi_rok] at hrec
            · cases hc
        · cases hc
    · cases hc
  | _ => exact absurd (show (none : Option (Nat × List Value × List Value)) = some _ from hc) (fun h => by cases h)
end MISIM
set_option maxHeartbeats 4000000 in
/-- WHAT THE SMALL MACHINE RUNS, THE JVM RUNS -/
theorem mi_sim (l : Launch) (D : va_G) (cA : mi_cA) (H0 : Heap) (tl : Nat) : ∀ n, mi_SimP l D cA H0 tl n := by
  intro n
  induction n with
  | zero => intro d y pc L st g δ h v g' δ' h' hrun; simp [mi_run] at hrun
  | succ n IH =>
    intro d y pc L st g δ h v g' δ' h' hrun p e R s m args below meth c H locs cells slots Q ls ad ad2 C hL hbL hbs hR hlo hF hc1 hc2 ret
    have hup0 := (mi_run_up _ _ _ _ _ _ _ _ _ hrun).1
    rw [mi_run] at hrun
    cases hd : decode (mi_B y) pc with
    | error e => rw [hd] at hrun; cases hrun
    | ok q =>
      obtain ⟨ins, len⟩ := q
      rw [hd] at hrun
      dsimp only at hrun
      cases hp : mi_pure (mi_O y) ins len pc L st with
      | some q =>
        obtain ⟨pc', L', st'⟩ := q
        rw [hp] at hrun
        obtain ⟨b1, b2⟩ := mi_pure_bd hp hbL hbs
        exact mi_sim_pure C.1 C.2.1 C.2.2.1 C.2.2.2.1 hp hd hL (fun ls' hL' => IH _ _ _ _ _ _ _ _ _ _ _ _ hrun C hL' b1 b2 hR hlo hF hc1 hc2 ret)
      | none =>
        rw [hp] at hrun
        dsimp only at hrun
        cases hh : mi_heap (mi_O y) (mi_ini y) d ins len st (g, δ, h) with
        | some q =>
          obtain ⟨st', g1, δ1, h1⟩ := q
          rw [hh] at hrun
          dsimp only at hrun
          have u1 := mi_heap_up hh
          have u2 := (mi_run_up _ _ _ _ _ _ _ _ _ hrun).1
          obtain ⟨u11, u12, u13⟩ := u1
          obtain ⟨u21, u22, u23⟩ := u2
          dsimp only at u11 u12 u13 u21 u22 u23
          refine mi_sim_heap C hh hd hL.2.1 hbs hR hlo hF (by omega) (by omega) (fun ad' ad2' H1 locs1 hads hR1 hl1 hb1 => ?_)
          refine IH _ _ _ _ _ _ _ _ _ _ _ _ hrun C (hL.ext hbL hads) (mi_bd_mono hbL u11) hb1 hR1 hl1 hF (by omega) (by omega) (fun i2 pcr l2 str lsr H2 locs2 ad3 ad4 hd2 hr2 ha2 hR2 hl2 => ?_)
          exact W.cs (by omega) (by omega) (ret i2 pcr l2 str lsr H2 locs2 ad3 ad4 hd2 hr2 (fun b hb => (ha2 b (by omega)).trans (hads b hb)) hR2 hl2)
        | none =>
          rw [hh] at hrun
          dsimp only at hrun
          cases hc : mi_call (mi_O y) ins len st g with
          | some q =>
            obtain ⟨z, as, r⟩ := q
            rw [hc] at hrun
            cases d with
            | zero => cases hrun
            | succ d =>
              dsimp only at hrun
              cases hv : mi_run n d z 0 (mi_entry as (mi_L z)) [] (g, δ, h) with
              | some q =>
                obtain ⟨v1, g1, δ1, h1⟩ := q
                rw [hv] at hrun
                dsimp only at hrun
                obtain ⟨⟨u11, u12, u13⟩, hnr⟩ := mi_run_up _ _ _ _ _ _ _ _ _ hv
                have u2 := (mi_run_up _ _ _ _ _ _ _ _ _ hrun).1
                obtain ⟨u21, u22, u23⟩ := u2
                dsimp only at u11 u12 u13 u21 u22 u23
                refine mi_sim_call IH C hc hd hv hL.2.1 hbs hR hlo hF (by omega) (by omega) (fun ad' ad2' H1 locs1 hads hR1 hl1 hbr => ?_)
                have hbr1 : mi_bd g1.length (v1.toList ++ r) := by
                  intro a ha
                  rcases List.mem_append.mp ha with q | q
                  · cases v1 with
                    | none => cases q
                    | some w =>
                      rcases List.mem_cons.mp q with q | q
                      · exact absurd (by rw [← q]) (hnr a)
                      · cases q
                  · exact Nat.lt_of_lt_of_le (hbr a q) u11
                have e1 : (v1.toList ++ r).map (mi_rv ad') = v1.toList ++ r.map (mi_rv ad) := by
                  rw [List.map_append, mi_nr hnr, mi_rv_map hbr hads]
                rw [← e1]
                refine IH _ _ _ _ _ _ _ _ _ _ _ _ hrun C (hL.ext hbL hads) (mi_bd_mono hbL u11) hbr1 hR1 hl1 hF (by omega) (by omega) (fun i2 pcr l2 str lsr H2 locs2 ad3 ad4 hd2 hr2 ha2 hR2 hl2 => ?_)
                exact W.cs (by omega) (by omega) (ret i2 pcr l2 str lsr H2 locs2 ad3 ad4 hd2 hr2 (fun b hb => (ha2 b (by omega)).trans (hads b hb)) hR2 hl2)
              | none => rw [hv] at hrun; cases hrun
          | none =>
            rw [hc] at hrun
            dsimp only at hrun
            cases hr : mi_ret y ins len st with
            | none => rw [hr] at hrun; cases hrun
            | some w =>
              rw [hr] at hrun
              cases hrun
              exact mi_cs0 (ret ins pc len st ls H locs ad ad2 hd hr (fun _ _ => rfl) hR hlo)
