/-! THE CLAIM OUT OF ONE WALK OF THE LAW'S BODY. Your part is whole_start (and what it stands on); all else here is the same for every law, but numbers. -/
def R_law : String := "LedgerTwiceLaw"
def lw_P (b : Addr) (xs : List Int32) (args : Array Value) (s : State) : Prop := args = #[.ref b] ∧ s.IntsAt b xs ∧ xs.length ≤ 4096 ∧ (Jvm.Cond.and given_1 narrow_1).before args s = true
def lw_Q (_ : Array Value) (s : State) (o : Outcome) (t : State) : Prop := o = .returned (some (.int 1)) ∧ Framed s o t [] room_1.cells room_1.slots
def lw_Z (below : List Frame) (a : Array Value) (s : State) : State → Prop := fun t => ∃ o, t.status = .running ∧ Ended t below o ∧ lw_Q a s o t
/-- the law's own end, with 1 on the stack, nothing written that was there before, its room as the claim has it -/
theorem lw_ret {p : Program} {l : Launch} {e : Env} {s : State} {m : MethodId} {below : List Frame} {meth : Method} {c : Code} {b : Nat} (hx : p.tables.exec = Jvm.exec) (hb : c.code = code) (hr : meth.sig.returnType = ret) (hlocks : meth.locks = false) {pc : Nat} {H : Heap} {ls : Array Slot} (hdg : decode code pc = .ok (.ireturn, 1)) : W p l e room_1 s m #[Value.ref b] below meth c H [] room_1.cells room_1.slots (lw_Z below #[Value.ref b] s) (F0 m pc ls [.int 1]) := by
  intro T hT X
  obtain ⟨fs, hret, hrun, hended, hW, hframe⟩ := X.leave (v := some (.int 1)) (hlocks := hlocks) (fun h => by rw [hr] at h; cases h)
  have hmeth' : T.vm.method? m = some meth := X.method'
  refine ⟨T.setFrames fs, ?_, .returned (some (.int 1)), hrun, hended, rfl, ⟨_, rfl⟩, hW, hframe⟩
  jvm_step X.here [X.here.top, hx, hb, hdg, hmeth', hr, ret, narrow_b1]
  (try refine ⟨rfl, ?_⟩); (try refine ⟨rfl, ?_⟩)
  first | (intro acts; rw [hret _ acts rfl rfl rfl]) | rw [hret _ _ rfl rfl rfl]
  exact Steps.refl _
/-- what holds at the law's entry: the machine, the code, the tables' words (any of lw_tbl by 'hts w (by decide +kernel)'), the script of L ints xs at the cell b, what the Statement gives of the start (any of its parts by flat_of_before) -/
def lw_At (p : Program) (s : State) (m : MethodId) (meth : Method) (c : Code) (b L : Nat) (xs : Nat → Int32) : Prop :=
  p.tables.exec = Jvm.exec ∧ c.code = code ∧ meth.sig.returnType = ret ∧ c.maxLocals = 4 ∧ s.vm.findClass R_law = some m.cls ∧ (∀ w ∈ lw_tbl, w.before #[Value.ref b] s = true) ∧ va_X b L xs s s.heap ∧ b < s.heap.size ∧ meth.locks = false ∧ (Jvm.Cond.and given_1 narrow_1).before #[Value.ref b] s = true
/-! THE LAW, OUT OF A RUN OF THE SMALL MACHINE -/
set_option maxRecDepth 100000 in
theorem mi_w_ls : lw_tbl[1065]? = some (Cond.laysStatic "LedgerTwice$Sheet" "LETTERS" "[C") := rfl
set_option maxRecDepth 100000 in
theorem mi_w_is : lw_tbl[80]? = some (Cond.initialized "LedgerTwice$Sheet") := rfl
set_option maxRecDepth 100000 in
theorem mi_w_k0 : lw_tbl[100]? = some (Cond.instantiable (mi_RX 0) (mi_n 0)) := rfl
set_option maxRecDepth 100000 in
theorem mi_w_k1 : lw_tbl[94]? = some (Cond.instantiable (mi_RX 1) (mi_n 1)) := rfl
set_option maxRecDepth 100000 in
theorem mi_w_k2 : lw_tbl[204]? = some (Cond.instantiable (mi_RX 2) (mi_n 2)) := rfl
set_option maxRecDepth 100000 in
theorem mi_w_k3 : lw_tbl[106]? = some (Cond.instantiable (mi_RX 3) (mi_n 3)) := rfl
set_option maxRecDepth 100000 in
theorem mi_w_k4 : lw_tbl[278]? = some (Cond.instantiable (mi_RX 4) (mi_n 4)) := rfl
set_option maxRecDepth 100000 in
theorem mi_w_k5 : lw_tbl[319]? = some (Cond.instantiable (mi_RX 5) (mi_n 5)) := rfl
set_option maxRecDepth 100000 in
theorem mi_w_k6 : lw_tbl[120]? = some (Cond.instantiable (mi_RX 6) (mi_n 6)) := rfl
set_option maxRecDepth 100000 in
theorem mi_w_k7 : lw_tbl[179]? = some (Cond.instantiable (mi_RX 7) (mi_n 7)) := rfl
set_option maxRecDepth 100000 in
theorem mi_w_k8 : lw_tbl[313]? = some (Cond.instantiable (mi_RX 8) (mi_n 8)) := rfl
set_option maxRecDepth 100000 in
theorem mi_w_k9 : lw_tbl[369]? = some (Cond.instantiable (mi_RX 9) (mi_n 9)) := rfl
set_option maxRecDepth 100000 in
theorem mi_w_k10 : lw_tbl[393]? = some (Cond.instantiable (mi_RX 10) (mi_n 10)) := rfl
set_option maxRecDepth 100000 in
theorem mi_w_k11 : lw_tbl[86]? = some (Cond.instantiable (mi_RX 11) (mi_n 11)) := rfl
set_option maxRecDepth 100000 in
theorem mi_w_k12 : lw_tbl[1090]? = some (Cond.instantiable (mi_RX 12) (mi_n 12)) := rfl
theorem mi_w_k (k : Nat) (h : k < 13) : Cond.instantiable (mi_RX k) (mi_n k) ∈ lw_tbl := by
  rcases (show k = 0 ∨ k = 1 ∨ k = 2 ∨ k = 3 ∨ k = 4 ∨ k = 5 ∨ k = 6 ∨ k = 7 ∨ k = 8 ∨ k = 9 ∨ k = 10 ∨ k = 11 ∨ k = 12 by omega) with rfl | rfl | rfl | rfl | rfl | rfl | rfl | rfl | rfl | rfl | rfl | rfl | rfl
  · exact List.mem_of_getElem? mi_w_k0
  · exact List.mem_of_getElem? mi_w_k1
  · exact List.mem_of_getElem? mi_w_k2
  · exact List.mem_of_getElem? mi_w_k3
  · exact List.mem_of_getElem? mi_w_k4
  · exact List.mem_of_getElem? mi_w_k5
  · exact List.mem_of_getElem? mi_w_k6
  · exact List.mem_of_getElem? mi_w_k7
  · exact List.mem_of_getElem? mi_w_k8
  · exact List.mem_of_getElem? mi_w_k9
  · exact List.mem_of_getElem? mi_w_k10
  · exact List.mem_of_getElem? mi_w_k11
  · exact List.mem_of_getElem? mi_w_k12
theorem mi_arr {s : State} {args : Array Value} {ty : FieldType} (h : (Cond.arrayClass ty).before args s = true) (hr : ∀ C, ty ≠ .object C) : ∃ cA : ClassId, ArrOfT s cA ty ∧ va_RA s cA ty := by
  obtain ⟨cA, kA, comp, hfind, hk, hkind⟩ := Cond.arrayClass_spec h
  refine ⟨cA, fun n z => ⟨fun k h => (by cases h), kA, hk, comp, hkind⟩, ?_⟩
  cases ty <;> first | exact absurd rfl (hr _) | exact hfind
def mi_g0 (L : Nat) : mi_G := [(24, L, []), (25, 5, [])]
def mi_lets (j : Nat) : Int32 := match j with
  | 0 => 65
  | 1 => 68
  | 2 => 79
  | 3 => 73
  | _ => 67
def mi_d0 (xs : Nat → Int32) : mi_D := (fun _ _ => 0, fun a j => if a = 0 then xs j else if a = 1 then mi_lets j else 0, fun _ _ => 0)
def mi_h0 : mi_H := (fun _ => 0, 0, 0)
theorem mi_k0 (L a : Nat) : mi_k (mi_g0 L) a = if a = 0 then 24 else if a = 1 then 25 else 99 := by
  match a with
  | 0 => rfl
  | 1 => rfl
  | n + 2 => rfl
set_option maxHeartbeats 4000000 in
set_option maxRecDepth 100000 in
theorem mi_start {p : Program} {e : Env} {s : State} {m : MethodId} {below : List Frame} {meth : Method} {c : Code} (l : Launch) {b L : Nat} {xs : Nat → Int32} (C0 : lw_At p s m meth c b L xs)
    (hrun : ∃ (n : Nat) (g' : mi_G) (δ' : mi_D) (h' : mi_H), mi_run n 60 mi_law 0 (mi_entry [.ref 0] 4) [] (mi_g0 L, mi_d0 xs, mi_h0) = some (some (.int 1), (g', δ', h')) ∧ h'.2.1 ≤ 600000 ∧ h'.2.2 ≤ 7000000) :
    W p l e room_1 s m #[Value.ref b] below meth c s.heap [] 0 0 (lw_Z below #[Value.ref b] s) (entryFrame m ([Value.ref b] : List Value).toArray 4) := by
  obtain ⟨n, g', δ', h', hrun, hc1, hc2⟩ := hrun
  have hrm : (600000 : Nat) ≤ room_1.cells ∧ (7000000 : Nat) ≤ room_1.slots := ⟨Nat.le_of_ble_eq_true rfl, Nat.le_of_ble_eq_true rfl⟩
  obtain ⟨hx, hb, hr, hml, hown, hts, hX, hbl, hlocks, hgv⟩ := id C0
  have hts2 : ∀ w ∈ mi_ws, w.before #[Value.ref b] s = true := fun w hw => hts w (mi_ws_tbl hw)
  have hfl := flat_of_before _ hgv
  -- the classes
  have hcls : ∀ k, ∃ (cC : ClassId) (iS : Nat → Nat), k < 13 → u_Kn s (mi_RX k) (mi_T k) (mi_n k) cC iS := by
    intro k
    by_cases hk : k < 13
    · obtain ⟨cC, iS, h⟩ := u_known (C := mi_RX k) (T := mi_T k) (N := mi_n k) (n := mi_n k) hts (mi_in k hk) (hts _ (mi_w_k k hk))
      exact ⟨cC, iS, fun _ => h⟩
    · exact ⟨0, fun _ => 0, fun h => absurd h hk⟩
  obtain ⟨D, hD⟩ : ∃ D : va_G, ∀ k, k < 13 → u_Kn s (mi_RX k) (mi_T k) (mi_n k) (D.1 k) (D.2 k) :=
    ⟨(fun k => Classical.choose (hcls k), fun k => Classical.choose (Classical.choose_spec (hcls k))), fun k hk => Classical.choose_spec (Classical.choose_spec (hcls k)) hk⟩
  obtain ⟨cI, hI⟩ := mi_arr (hts2 _ mi_word_ai) (fun C h => by cases h)
  obtain ⟨cJ, hJ⟩ := mi_arr (hts2 _ mi_word_aj) (fun C h => by cases h)
  obtain ⟨cZ, hZ⟩ := mi_arr (hts2 _ mi_word_az) (fun C h => by cases h)
  have hA : ∀ a : Nat, a < s.heap.size → ¬ (fun q : Nat => s.heap.size ≤ q) a := fun a h => Nat.not_le.mpr h
  obtain ⟨tl, htl, hT⟩ := va_Tof (args := #[Value.ref b]) (s := s) (tm := .static "LedgerTwice$Sheet" "LETTERS" "[C") (ty := .char) (N := 5) (f := fun j => .int (mi_lets j)) (A := fun q : Nat => s.heap.size ≤ q) (by decide) (hfl _ (by decide +kernel))
    (va_eqt (z := Int32.ofNat 5) (hfl _ (by decide +kernel)))
    (fun j hj => by
      rcases (show j = 0 ∨ j = 1 ∨ j = 2 ∨ j = 3 ∨ j = 4 by omega) with rfl | rfl | rfl | rfl | rfl
      · exact va_eqt (z := 65) (hfl _ (by decide +kernel))
      · exact va_eqt (z := 68) (hfl _ (by decide +kernel))
      · exact va_eqt (z := 79) (hfl _ (by decide +kernel))
      · exact va_eqt (z := 73) (hfl _ (by decide +kernel))
      · exact va_eqt (z := 67) (hfl _ (by decide +kernel))) hA
  have hZs := va_Zref (hts _ (List.mem_of_getElem? mi_w_ls)) (hts _ (List.mem_of_getElem? mi_w_is)) htl hA
  have hK : mi_K D (cI, cJ, cZ) s.heap tl s := by
    refine ⟨⟨fun k q hq => ?_, fun k q hq => ?_⟩, fun w hw => ?_, hZs⟩
    · have hk : k < 13 := (List.getElem?_eq_some_iff.mp hq).1
      have := mi_cl k hk
      cases hq.symm.trans this
      exact hD k hk
    · have hk : k < 3 := (List.getElem?_eq_some_iff.mp hq).1
      rcases (show k = 0 ∨ k = 1 ∨ k = 2 by omega) with rfl | rfl | rfl
      · cases hq; exact hI
      · cases hq; exact hJ
      · cases hq; exact hZ
    · unfold mi_nest at hw
      obtain ⟨e1, he, rfl⟩ := List.mem_map.mp hw
      obtain ⟨he1, he2⟩ := List.mem_filter.mp he
      have h3 := mi_tC_ok e1 he1
      obtain ⟨o, i, z, n', kd, p1, p2, p3, p4, p5⟩ := e1
      have h4 : 3 ≤ kd := of_decide_eq_true he2
      exact va_Nw.of rfl (hts _ (List.mem_of_getElem? (h3.2.1 (by omega))))
  have hR : mi_Rel D (cI, cJ, cZ) s.heap tl (fun x => if x = 0 then b else tl) (fun _ => 0) (mi_g0 L) (mi_d0 xs) (fun _ => 0) s s.heap := by
    have nv1 : ∀ a, ¬ mi_v1 (mi_g0 L) a := by
      intro a h
      unfold mi_v1 at h
      rw [mi_k0] at h
      split at h
      · omega
      · split at h <;> omega
    refine ⟨⟨Nat.le_refl _, fun _ _ => rfl⟩, fun a h => absurd h (nv1 a), fun a h => absurd (mi_v2_v1 h) (nv1 a), fun a _ h => absurd h (nv1 a), fun a _ h => absurd h (nv1 a), fun a _ h => absurd (mi_v2_v1 h) (nv1 a), fun a h => ?_, fun a h => ?_, fun a r hr => ?_, ⟨Nat.le_refl _, rfl⟩⟩
    · rw [mi_k0] at h
      have ha : a = 0 := by
        split at h
        · assumption
        · split at h <;> omega
      subst ha
      obtain ⟨scr, h1, h2, h3, h4, h5⟩ := hX
      exact ⟨hbl, scr, h1, h2, h3, ⟨Nat.le_of_eq h4.symm, by rw [h4]; rfl⟩, h5⟩
    · rw [mi_k0] at h
      have ha : a = 1 := by
        split at h
        · omega
        · split at h
          · assumption
          · omega
      subst ha
      obtain ⟨cell, h1, h2, h3, h4, h5, h6, h7⟩ := hT
      exact ⟨Nat.lt_of_not_le h7, cell, h1, h2, h3, ⟨h4, h5⟩, h6⟩
    · match a, hr with
      | 0, hr => cases hr
      | 1, hr => cases hr
      | a + 2, hr => cases hr
  have hX0 : mi_X mi_law = true → meth.name = "<init>" := fun q => absurd q (by decide)
  rw [lg_entry_eq]
  have key := mi_sim l D (cI, cJ, cZ) s.heap tl n 60 mi_law 0 (mi_entry [.ref 0] 4) [] (mi_g0 L) (mi_d0 xs) mi_h0 (some (.int 1)) g' δ' h' hrun (p := p) (e := e) (R := room_1) (s := s) (m := m) (args := #[Value.ref b]) (below := below) (meth := meth) (c := c) (H := s.heap) (locs := []) (cells := 0) (slots := 0) (Q := lw_Z below #[Value.ref b] s) (ad := fun x => if x = 0 then b else tl) (ad2 := fun _ => 0)
    ⟨hx, hb, hown, hts2, hX0, hK, hml⟩ (mi_LR_entry _ [.ref 0] 4 (by decide)) (mi_bd_entry (mi_bd_cons.mpr ⟨fun a h => by cases h; exact Nat.zero_lt_succ _, mi_bd_nil _⟩)) (mi_bd_nil _) hR (fun z hz => by cases hz) ⟨by decide, by decide⟩ (by show 0 + (h'.2.1 - 0) ≤ room_1.cells; omega) (by show 0 + (h'.2.2 - 0) ≤ room_1.slots; omega)
    (fun ins pcr len str lsr H1 locs1 ad' ad2' hd hret hads hR1 hl1 => by
      refine va_forget hl1 (W.widen (k := room_1.cells) (n := room_1.slots) (by show 0 + (h'.2.1 - 0) ≤ room_1.cells; omega) (by show 0 + (h'.2.2 - 0) ≤ room_1.slots; omega) ?_)
      unfold mi_ret at hret
      split at hret
      · split at hret
        · next h1 =>
          subst h1
          split at hret
          · next x hy => exact absurd hy (by decide)
          · next x hy =>
            split at hret
            · cases hret
              exact lw_ret hx hb hr hlocks hd
            · cases hret
          · cases hret
        · cases hret
      · split at hret
        · split at hret <;> cases hret
        · cases hret
      · split at hret
        · split at hret <;> cases hret
        · cases hret
      · cases hret)
  exact key
