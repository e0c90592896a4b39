/-! Ints and Longs, and what they call of the JDK -/
set_option maxRecDepth 100000 in
theorem mi_wd_iniMath : Cond.initialized "java/lang/Math" ∈ mi_ws := mi_ws_of 82 rfl rfl
set_option maxRecDepth 100000 in
theorem mi_wd_iniArrays : Cond.initialized "java/util/Arrays" ∈ mi_ws := mi_ws_of 83 rfl rfl
set_option maxRecDepth 100000 in
theorem mi_wd_iniSystem : Cond.initialized "java/lang/System" ∈ mi_ws := mi_ws_of 84 rfl rfl
set_option maxRecDepth 100000 in
theorem mi_wd_stMin : Cond.static Lib.Math.min.name ∈ mi_ws := mi_ws_of 478 rfl rfl
set_option maxRecDepth 100000 in
theorem mi_wd_stMax : Cond.static Lib.Math.max.name ∈ mi_ws := mi_ws_of 481 rfl rfl
set_option maxRecDepth 100000 in
theorem mi_wd_stAbs : Cond.static Lib.MathLoose.abs_long.x ∈ mi_ws := mi_ws_of 808 rfl rfl
set_option maxRecDepth 100000 in
theorem mi_wd_cdMin : Cond.code Lib.Math.min.name Lib.Math.min.code 2 (some .int) ∈ mi_ws := mi_ws_of 479 rfl rfl
set_option maxRecDepth 100000 in
theorem mi_wd_cdMax : Cond.code Lib.Math.max.name Lib.Math.max.code 2 (some .int) ∈ mi_ws := mi_ws_of 482 rfl rfl
set_option maxRecDepth 100000 in
theorem mi_wd_cdAbs : Cond.code Lib.MathLoose.abs_long.x Lib.MathLoose.abs_long.code 2 (some .long) ∈ mi_ws := mi_ws_of 809 rfl rfl
set_option maxRecDepth 100000 in
theorem mi_wd_stCopy : Cond.static arraycopyName ∈ mi_ws := mi_ws_of 495 rfl rfl
set_option maxRecDepth 100000 in
theorem mi_wd_naCopy : Cond.native arraycopyName ∈ mi_ws := mi_ws_of 496 rfl rfl
set_option maxRecDepth 100000 in
theorem mi_wd_lkCopy : Cond.methodLink "java/util/Arrays" 150 arraycopyName ∈ mi_ws := mi_ws_of 494 rfl rfl
set_option maxRecDepth 100000 in
theorem mi_wd_lkMinA : Cond.methodLink "java/util/Arrays" 304 Lib.Math.min.name ∈ mi_ws := mi_ws_of 493 rfl rfl
set_option maxRecDepth 100000 in
theorem mi_wd_inObj : Cond.instanceMethod Lib.objectInit ∈ mi_ws := mi_ws_of 91 rfl rfl
set_option maxRecDepth 100000 in
theorem mi_wd_cdObj : Cond.code Lib.objectInit ⟨#[0xb1]⟩ 1 none ∈ mi_ws := mi_ws_of 92 rfl rfl
set_option maxRecDepth 100000 in
theorem mi_wd_lkFill : Cond.methodLink RX6 32 yJ7_fill_d0a16 ∈ mi_ws := mi_ws_of 736 rfl rfl
set_option maxRecDepth 100000 in
theorem mi_wd_stFill : Cond.static yJ7_fill_d0a16 ∈ mi_ws := mi_ws_of 737 rfl rfl
set_option maxRecDepth 100000 in
theorem mi_wd_cdFill : Cond.code yJ7_fill_d0a16 cJ7_fill_d0a16 5 none ∈ mi_ws := mi_ws_of 738 rfl rfl
set_option maxRecDepth 100000 in
theorem mi_wd_ini3 : Cond.initialized RX3 ∈ mi_ws := mi_ws_of 72 rfl rfl
set_option maxRecDepth 100000 in
theorem mi_wd_fl3 : Cond.fieldLink RX3 7 "LedgerTwice$Ints" "limit" "I" ∈ mi_ws := mi_ws_of 111 rfl rfl
set_option maxRecDepth 100000 in
theorem mi_wd_fc3 : Cond.fieldLink RX3 13 "LedgerTwice$Ints" "cells" "[I" ∈ mi_ws := mi_ws_of 112 rfl rfl
set_option maxRecDepth 100000 in
theorem mi_wd_ob3 : Cond.methodLink RX3 1 Lib.objectInit ∈ mi_ws := mi_ws_of 110 rfl rfl
set_option maxRecDepth 100000 in
theorem mi_wd_mi3 : Cond.methodLink RX3 17 Lib.Math.min.name ∈ mi_ws := mi_ws_of 477 rfl rfl
set_option maxRecDepth 100000 in
theorem mi_wd_ma3 : Cond.methodLink RX3 23 Lib.Math.max.name ∈ mi_ws := mi_ws_of 480 rfl rfl
set_option maxRecDepth 100000 in
theorem mi_wd_lkCo3 : Cond.methodLink RX3 26 yJ7_copyOf_59c91 ∈ mi_ws := mi_ws_of 483 rfl rfl
set_option maxRecDepth 100000 in
theorem mi_wd_stCo3 : Cond.static yJ7_copyOf_59c91 ∈ mi_ws := mi_ws_of 484 rfl rfl
set_option maxRecDepth 100000 in
theorem mi_wd_cdCo3 : Cond.code yJ7_copyOf_59c91 cJ7_copyOf_59c91 3 (some (.array .int)) ∈ mi_ws := mi_ws_of 485 rfl rfl
set_option maxRecDepth 100000 in
theorem mi_wd_in_init3 : Cond.instanceMethod yX3_init ∈ mi_ws := mi_ws_of 108 rfl rfl
set_option maxRecDepth 100000 in
theorem mi_wd_cd_init3 : Cond.code yX3_init cX3_init 2 none ∈ mi_ws := mi_ws_of 109 rfl rfl
set_option maxRecDepth 100000 in
theorem mi_wd_in_at3 : Cond.instanceMethod yX3_at ∈ mi_ws := mi_ws_of 457 rfl rfl
set_option maxRecDepth 100000 in
theorem mi_wd_cd_at3 : Cond.code yX3_at cX3_at 2 (some .int) ∈ mi_ws := mi_ws_of 459 rfl rfl
set_option maxRecDepth 100000 in
theorem mi_wd_se_at3 : Cond.selects RX3 yX3_at yX3_at ∈ mi_ws := mi_ws_of 458 rfl rfl
set_option maxRecDepth 100000 in
theorem mi_wd_in_put3 : Cond.instanceMethod yX3_put ∈ mi_ws := mi_ws_of 474 rfl rfl
set_option maxRecDepth 100000 in
theorem mi_wd_cd_put3 : Cond.code yX3_put cX3_put 3 none ∈ mi_ws := mi_ws_of 476 rfl rfl
set_option maxRecDepth 100000 in
theorem mi_wd_se_put3 : Cond.selects RX3 yX3_put yX3_put ∈ mi_ws := mi_ws_of 475 rfl rfl
set_option maxRecDepth 100000 in
theorem mi_wd_ini6 : Cond.initialized RX6 ∈ mi_ws := mi_ws_of 73 rfl rfl
set_option maxRecDepth 100000 in
theorem mi_wd_fl6 : Cond.fieldLink RX6 7 "LedgerTwice$Longs" "limit" "I" ∈ mi_ws := mi_ws_of 125 rfl rfl
set_option maxRecDepth 100000 in
theorem mi_wd_fc6 : Cond.fieldLink RX6 13 "LedgerTwice$Longs" "cells" "[J" ∈ mi_ws := mi_ws_of 126 rfl rfl
set_option maxRecDepth 100000 in
theorem mi_wd_ob6 : Cond.methodLink RX6 1 Lib.objectInit ∈ mi_ws := mi_ws_of 124 rfl rfl
set_option maxRecDepth 100000 in
theorem mi_wd_mi6 : Cond.methodLink RX6 17 Lib.Math.min.name ∈ mi_ws := mi_ws_of 521 rfl rfl
set_option maxRecDepth 100000 in
theorem mi_wd_ma6 : Cond.methodLink RX6 23 Lib.Math.max.name ∈ mi_ws := mi_ws_of 522 rfl rfl
set_option maxRecDepth 100000 in
theorem mi_wd_lkCo6 : Cond.methodLink RX6 26 yJ7_copyOf_c38d5 ∈ mi_ws := mi_ws_of 523 rfl rfl
set_option maxRecDepth 100000 in
theorem mi_wd_stCo6 : Cond.static yJ7_copyOf_c38d5 ∈ mi_ws := mi_ws_of 524 rfl rfl
set_option maxRecDepth 100000 in
theorem mi_wd_cdCo6 : Cond.code yJ7_copyOf_c38d5 cJ7_copyOf_c38d5 3 (some (.array .long)) ∈ mi_ws := mi_ws_of 525 rfl rfl
set_option maxRecDepth 100000 in
theorem mi_wd_in_init6 : Cond.instanceMethod yX6_init ∈ mi_ws := mi_ws_of 122 rfl rfl
set_option maxRecDepth 100000 in
theorem mi_wd_cd_init6 : Cond.code yX6_init cX6_init 2 none ∈ mi_ws := mi_ws_of 123 rfl rfl
set_option maxRecDepth 100000 in
theorem mi_wd_in_at6 : Cond.instanceMethod yX6_at ∈ mi_ws := mi_ws_of 637 rfl rfl
set_option maxRecDepth 100000 in
theorem mi_wd_cd_at6 : Cond.code yX6_at cX6_at 2 (some .long) ∈ mi_ws := mi_ws_of 639 rfl rfl
set_option maxRecDepth 100000 in
theorem mi_wd_se_at6 : Cond.selects RX6 yX6_at yX6_at ∈ mi_ws := mi_ws_of 638 rfl rfl
set_option maxRecDepth 100000 in
theorem mi_wd_in_put6 : Cond.instanceMethod yX6_put ∈ mi_ws := mi_ws_of 518 rfl rfl
set_option maxRecDepth 100000 in
theorem mi_wd_cd_put6 : Cond.code yX6_put cX6_put 4 none ∈ mi_ws := mi_ws_of 520 rfl rfl
set_option maxRecDepth 100000 in
theorem mi_wd_se_put6 : Cond.selects RX6 yX6_put yX6_put ∈ mi_ws := mi_ws_of 519 rfl rfl
set_option maxRecDepth 100000 in
theorem mi_wd_in_clear6 : Cond.instanceMethod yX6_clear ∈ mi_ws := mi_ws_of 733 rfl rfl
set_option maxRecDepth 100000 in
theorem mi_wd_cd_clear6 : Cond.code yX6_clear cX6_clear 1 none ∈ mi_ws := mi_ws_of 735 rfl rfl
set_option maxRecDepth 100000 in
theorem mi_wd_se_clear6 : Cond.selects RX6 yX6_clear yX6_clear ∈ mi_ws := mi_ws_of 734 rfl rfl
theorem mi_ge {i : Int32} {n : Nat} (h : ¬ i < 0) (hn : n < 2 ^ 31) : nI n ≤ i ↔ n ≤ i.toNatClampNeg := by
  obtain ⟨j, hj, rfl⟩ := nI_of h
  rw [nI_clamp hj]
  exact nI_leI hn hj
theorem mi_lt {i : Int32} {n : Nat} (h : ¬ i < 0) (hn : n < 2 ^ 31) : i < nI n ↔ i.toNatClampNeg < n := by
  obtain ⟨j, hj, rfl⟩ := nI_of h
  rw [nI_clamp hj]
  exact nI_ltI hj hn
theorem mi_callG {p : Program} {l : Launch} {e : Env} {R : Room} {s : State} {m : MethodId} {args : Array Value} {below : List Frame} {meth : Method} {c : Code} {H : Heap} {locs : List Loc} {cells slots : Nat} {Q : State → Prop} {pc mc ms : Nat} {ls : Array Slot} {st0 rest : List Value} {Qa : State → Outcome → State → Prop} {free : Addr → Prop}
    (hr : va_Run p l e R s m args below meth c H locs cells slots mc ms (F0 m pc ls st0) rest Qa free)
    (kk : ∀ (v : Option Value) (st t : State) (L : List Loc), st.heap = H → Qa st (.returned v) t → (∀ q ∈ L, free q.base) → s.WarmedH t.vm → W p l e R s m args below meth c t.heap (locs ++ L) (cells + mc) (slots + ms) Q (F0 m (pc + 3) ls (v.toList ++ rest))) : W p l e R s m args below meth c H locs cells slots Q (F0 m pc ls st0) := by
  intro T hT X
  obtain ⟨v, st₀, t, T', L, h0, X', hL, e1, e2, hq, st⟩ := hr T hT X
  obtain ⟨t2, a1, b1⟩ := kk v st₀ t L h0 hq hL (by rw [← e2]; exact X'.warmed) T' e1 X'
  exact ⟨t2, st t2 a1, b1⟩
theorem mi_good (y : MethodName) (cc : ByteArray) (n : Nat) (r : Option FieldType) (h : Cond.code y cc n r ∈ mi_ws) : GoodIn mi_ws (Cond.code y cc n r :: mi_ws) := by
  intro w hw
  rcases List.mem_cons.mp hw with rfl | hw
  · exact ⟨h, mi_ws_good h⟩
  · exact ⟨hw, mi_ws_good hw⟩
theorem mi_goodV {own C : String} {idx : Nat} {y : MethodName} {cc : ByteArray} {n : Nat} {r : Option FieldType} (h1 : Cond.methodLink own idx y ∈ mi_ws) (h2 : Cond.instanceMethod y ∈ mi_ws) (h3 : Cond.selects C y y ∈ mi_ws) (h4 : Cond.initialized C ∈ mi_ws) (h : Cond.code y cc n r ∈ mi_ws) : GoodIn mi_ws (wsV own idx C y (Cond.code y cc n r :: mi_ws)) := by
  intro w hw
  unfold wsV at hw
  simp only [List.cons_append, List.nil_append, List.mem_cons] at hw
  rcases hw with rfl | rfl | rfl | rfl | rfl | hw
  · exact ⟨h1, mi_ws_good h1⟩
  · exact ⟨h2, mi_ws_good h2⟩
  · exact ⟨h3, mi_ws_good h3⟩
  · exact ⟨h4, mi_ws_good h4⟩
  · exact ⟨h, mi_ws_good h⟩
  · exact ⟨hw, mi_ws_good hw⟩
theorem mi_goodS {own : String} {idx : Nat} {y : MethodName} {cc : ByteArray} {n : Nat} {r : Option FieldType} (h1 : Cond.methodLink own idx y ∈ mi_ws) (h2 : Cond.static y ∈ mi_ws) (h3 : Cond.initialized y.cls ∈ mi_ws) (h : Cond.code y cc n r ∈ mi_ws) : GoodIn mi_ws (va_wsS own idx y (Cond.code y cc n r :: mi_ws)) := by
  intro w hw
  unfold va_wsS at hw
  simp only [List.cons_append, List.nil_append, List.mem_cons] at hw
  rcases hw with rfl | rfl | rfl | rfl | hw
  · exact ⟨h1, mi_ws_good h1⟩
  · exact ⟨h2, mi_ws_good h2⟩
  · exact ⟨h3, mi_ws_good h3⟩
  · exact ⟨h, mi_ws_good h⟩
  · exact ⟨hw, mi_ws_good hw⟩

set_option maxHeartbeats 4000000 in
set_option maxRecDepth 100000 in
theorem mi_c_at3 (l : Launch) (D : va_G) (cA : mi_cA) (a b n : Nat) (lim : Int32) (f : Nat → Int32) (i : Int32) (hn : n < 2 ^ 31) : Met l yX3_at (.code yX3_at cX3_at 2 (some .int) :: mi_ws) { frames := 0, cells := 0, slots := 0, locals := 0 }
    (fun v U => v = ([.ref a, .int i] : List Value).toArray ∧ va_P D vwCl [(a, .inr (3, [.int lim, .ref b])), (b, .inl (cA.1, n, (.inl f)))] U.heap ∧ va_K D vwCl (mi_tys cA) U)
    (fun _ st o t => o = .returned (some (.int (if i < 0 then 0 else if n ≤ i.toNatClampNeg then 0 else f i.toNatClampNeg))) ∧ t.heap = st.heap) 0 0 (fun _ => False) := by
  refine Met.ofW (cc := cX3_at) (maxL := 2) (ret := (some .int)) (by decide) rfl ?_
  intro p e s m args below meth c s₁ B hml hv
  have hx := B.exec
  have hb := B.bytes
  have hr := B.returns
  have hts0 := atoms_spec (ws := .code yX3_at cX3_at 2 (some .int) :: mi_ws) B.pre
  have hts : ∀ w ∈ mi_ws, w.before args s = true := fun w hw => hts0 w (List.mem_cons_of_mem _ hw)
  have hown : s.vm.findClass RX3 = some m.cls := findClass_of_methodNamed B.named
  have hlocks := B.notSynchronized
  obtain ⟨rfl, hP, hK⟩ := hv
  have hl := lv_entry ([.ref a, .int i]) (n := 2) (Nat.le_of_ble_eq_true rfl)
  rw [lg_entry_eq]
  generalize (lg_sl ([.ref a, .int i]) ++ List.replicate (2 - (lg_sl ([.ref a, .int i])).length) Slot.unset).toArray = ls at hl ⊢
  have hl : lv_has ls 2 [(0, .ref a), (1, .int i)] := hl
  refine lv_iload_n hx hb dX3_at_0 rfl (lv_at hl 1 rfl) ?_
  refine lv_if_lt (tgt := 22) hx hb dX3_at_1 (by decide) (fun h => ?_) (fun h => ?_)
  · refine lv_iconst (v := 0) hx hb dX3_at_22 (by decide) ?_
    exact W.iret hx hb hr (fun t ht hW => ⟨by rw [if_pos h], ht⟩) (fun q hq => by cases hq) dX3_at_23
  · refine lv_iload_n hx hb dX3_at_4 rfl (lv_at hl 1 rfl) ?_
    refine lv_aload_n hx hb dX3_at_5 rfl (lv_at hl 0 rfl) ?_
    refine va_get (D := D) (cl := vwCl) (tys := mi_tys cA) (ws := [(a, .inr (3, [.int lim, .ref b])), (b, .inl (cA.1, n, (.inl f)))]) (C := RX3) (T := TX3) (N := 2) (ref := mi_RX 3) (Ts := mi_ws) hx hb hts (mi_inws 3 (by decide)) hown hK hP 0 rfl rfl 1 (by decide) (hts _ mi_wd_fc3) (fun _ h => h) rfl dX3_at_6 ?_
    refine va_alen (D := D) (cl := vwCl) (ws := [(a, .inr (3, [.int lim, .ref b])), (b, .inl (cA.1, n, (.inl f)))]) hx hb hK hP 1 0 rfl (ty := .int) rfl (v := nI n) rfl dX3_at_9 ?_
    refine lv_icmp_ge (tgt := 22) hx hb dX3_at_10 (by decide) (fun h2 => ?_) (fun h2 => ?_)
    · refine lv_iconst (v := 0) hx hb dX3_at_22 (by decide) ?_
      exact W.iret hx hb hr (fun t ht hW => ⟨by rw [if_neg h, if_pos ((mi_ge h hn).mp h2)], ht⟩) (fun q hq => by cases hq) dX3_at_23
    · have h3 : ¬ n ≤ i.toNatClampNeg := fun q => h2 ((mi_ge h hn).mpr q)
      refine lv_aload_n hx hb dX3_at_13 rfl (lv_at hl 0 rfl) ?_
      refine va_get (D := D) (cl := vwCl) (tys := mi_tys cA) (ws := [(a, .inr (3, [.int lim, .ref b])), (b, .inl (cA.1, n, (.inl f)))]) (C := RX3) (T := TX3) (N := 2) (ref := mi_RX 3) (Ts := mi_ws) hx hb hts (mi_inws 3 (by decide)) hown hK hP 0 rfl rfl 1 (by decide) (hts _ mi_wd_fc3) (fun _ h => h) rfl dX3_at_14 ?_
      refine lv_iload_n hx hb dX3_at_17 rfl (lv_at hl 1 rfl) ?_
      refine va_iald (D := D) (cl := vwCl) (ws := [(a, .inr (3, [.int lim, .ref b])), (b, .inl (cA.1, n, (.inl f)))]) hx hb hK hP 1 0 rfl rfl (fun q => q.elim h h3) dX3_at_18 ?_
      refine lv_goto (tgt := 23) hx hb dX3_at_19 (by decide) ?_
      exact W.iret hx hb hr (fun t ht hW => ⟨by rw [if_neg h, if_neg h3], ht⟩) (fun q hq => by cases hq) dX3_at_23
set_option maxHeartbeats 4000000 in
set_option maxRecDepth 100000 in
theorem mi_c_copy3 (l : Launch) (D : va_G) (cA : mi_cA) (b n sz : Nat) (f : Nat → Int32) (k : Int32) (hk : ¬ k < 0) (hnk : n < k.toNatClampNeg) (hbig : k.toNatClampNeg < 2000000) : Met l yJ7_copyOf_59c91 (.code yJ7_copyOf_59c91 cJ7_copyOf_59c91 3 (some (.array .int)) :: mi_ws) { frames := 1, cells := 1, slots := k.toNatClampNeg, locals := 40 }
    (fun v U => v = ([.ref b, .int k] : List Value).toArray ∧ va_P D vwCl [(b, .inl (cA.1, n, (.inl f)))] U.heap ∧ va_K D vwCl (mi_tys cA) U ∧ U.heap.size = sz)
    (fun _ st o t => ∃ q : Nat, o = .returned (some (.ref q)) ∧ sz ≤ q ∧ sz ≤ t.heap.size ∧ (∀ x : Nat, x < sz → t.heap[x]? = st.heap[x]?) ∧ va_P D vwCl [(q, .inl (cA.1, k.toNatClampNeg, (.inl (va_cpy f (fun _ => 0) 0 0 n))))] t.heap) 1 k.toNatClampNeg (fun x => x = b ∨ sz ≤ x) := by
  refine Met.ofW (cc := cJ7_copyOf_59c91) (maxL := 3) (ret := (some (.array .int))) (by decide) rfl ?_
  intro p e s m args below meth c s₁ B hml hv
  have hx := B.exec
  have hb := B.bytes
  have hr := B.returns
  have hts0 := atoms_spec (ws := .code yJ7_copyOf_59c91 cJ7_copyOf_59c91 3 (some (.array .int)) :: mi_ws) B.pre
  have hts : ∀ w ∈ mi_ws, w.before args s = true := fun w hw => hts0 w (List.mem_cons_of_mem _ hw)
  have hown : s.vm.findClass RJ7 = some m.cls := findClass_of_methodNamed B.named
  have hlocks := B.notSynchronized
  obtain ⟨rfl, hP, hK, hsz⟩ := hv
  subst hsz
  have hbl : b < s.heap.size := (hP 0 _ rfl).lt
  have hD : va_D (fun x : Nat => x = b ∨ s.heap.size ≤ x) [(b, .inl (cA.1, n, (.inl f)))] := ⟨fun i j x y hi hj hxy => by
      have h1 := (List.getElem?_eq_some_iff.mp hi).1
      have h2 := (List.getElem?_eq_some_iff.mp hj).1
      simp at h1 h2
      omega, fun i x hi => by
      have h1 := (List.getElem?_eq_some_iff.mp hi).1
      simp at h1
      subst h1
      cases hi
      exact Or.inl rfl⟩
  have hS : va_S (fun x : Nat => x = b ∨ s.heap.size ≤ x) s.heap s.heap [] := va_S.rf
  have hAA : ∀ q : Nat, s.heap.size ≤ q → (fun x : Nat => x = b ∨ s.heap.size ≤ x) q := fun q h => Or.inr h
  obtain ⟨j, hj, rfl⟩ := nI_of hk
  rw [nI_clamp hj] at hnk hbig ⊢
  have hl := lv_entry ([.ref b, .int (nI j)]) (n := 3) (Nat.le_of_ble_eq_true rfl)
  rw [lg_entry_eq]
  generalize (lg_sl ([.ref b, .int (nI j)]) ++ List.replicate (3 - (lg_sl ([.ref b, .int (nI j)])).length) Slot.unset).toArray = ls at hl ⊢
  have hl : lv_has ls 3 [(0, .ref b), (1, .int (nI j))] := hl
  refine lv_iload_n hx hb dJ7_copyOf_59c91_0 rfl (lv_at hl 1 rfl) ?_
  refine lv_aload_n hx hb dJ7_copyOf_59c91_1 rfl (lv_at hl 0 rfl) ?_
  refine va_alen (D := D) (cl := vwCl) (ws := [(b, .inl (cA.1, n, (.inl f)))]) hx hb hK hP 0 0 rfl (ty := .int) rfl (v := nI n) rfl dJ7_copyOf_59c91_2 ?_
  refine lv_icmp_ne (tgt := 14) hx hb dJ7_copyOf_59c91_3 (by decide) (fun _ => ?_) (fun h => absurd ((nI_eq hj (by omega)).mp h) (by omega))
  refine lv_iload_n hx hb dJ7_copyOf_59c91_14 rfl (lv_at hl 1 rfl) ?_
  refine va_newa (atype := .int) (D := D) (cl := vwCl) (ws := [(b, .inl (cA.1, n, (.inl f)))]) (a0 := (j, (.inl (fun _ => 0)))) hx hb (hts _ mi_word_ai) rfl hK hP hD hS hAA (fun _ => rfl) (nI_pos hj) (nI_clamp hj) (by show _ * 4 ≤ _; omega) (by show 0 + 1 ≤ 1; omega) (by show 0 + j ≤ j; omega) dJ7_copyOf_59c91_15 (fun q c' H1 hK1 hP1 hD1 hS1 => ?_)
  refine lv_astore_n (lv' := [(2, .ref q), (0, .ref b), (1, .int (nI j))]) hx hb dJ7_copyOf_59c91_17 rfl hl (by decide) rfl (fun ls hl => ?_)
  refine lv_aload_n hx hb dJ7_copyOf_59c91_18 rfl (lv_at hl 1 rfl) ?_
  refine lv_iconst (v := 0) hx hb dJ7_copyOf_59c91_19 (by decide) ?_
  refine lv_aload_n hx hb dJ7_copyOf_59c91_20 rfl (lv_at hl 0 rfl) ?_
  refine lv_iconst (v := 0) hx hb dJ7_copyOf_59c91_21 (by decide) ?_
  refine lv_aload_n hx hb dJ7_copyOf_59c91_22 rfl (lv_at hl 1 rfl) ?_
  refine va_alen (D := D) (cl := vwCl) hx hb hK1 hP1 0 0 rfl (ty := .int) rfl (v := nI n) rfl dJ7_copyOf_59c91_23 ?_
  refine lv_iload_n hx hb dJ7_copyOf_59c91_24 rfl (lv_at hl 2 rfl) ?_
  refine va_mmin hx hb (hml.trans hl.1.symm) hown (hts _ mi_wd_lkMinA) (hts _ mi_wd_stMin) (hts _ mi_wd_iniMath) (hts _ mi_wd_cdMin) (by show 1 ≤ 1; omega) (by show _ + 13 ≤ 40; simp [Value.category]) (by show 0 + 1 ≤ 1; omega) (by show 0 + j ≤ j; omega) dJ7_copyOf_59c91_25 ?_
  rw [if_neg (show ¬ nI j < nI n by rw [nI_ltI hj (by omega)]; omega)]
  have hn31 : n < 2 ^ 31 := by omega
  refine va_copyi (D := D) (cl := vwCl) hx hb (hml.trans hl.1.symm) hown (hts _ mi_wd_lkCopy) (hts _ mi_wd_naCopy) (hts _ mi_wd_stCopy) (hts _ mi_wd_iniSystem) hK1 hP1 hD1 hS1 0 1 0 3 rfl rfl rfl rfl rfl (sp := 0) (dp := 0) (n := nI n) (by decide) (by decide) (nI_pos hn31) (by rw [nI_clamp hn31]; show 0 + n ≤ n; omega) (by rw [nI_clamp hn31]; show 0 + n ≤ j; omega) (fun i _ => rfl) (by show 1 ≤ 1; omega) (by show _ + (nativeFrameWords "java/lang/System" "arraycopy" 5 + 11) ≤ 40; simp [nativeFrameWords]) dJ7_copyOf_59c91_28 (fun H2 locs2 hP2 hD2 hS2 => ?_)
  rw [nI_clamp hn31] at hP2 hD2
  have hP2 : va_P D vwCl [(b, .inl (cA.1, n, (.inl f))), (q, .inl (c', j, (.inl (va_cpy f (fun _ => 0) 0 0 n))))] H2 := hP2
  have hD2 : va_D (fun x : Nat => x = b ∨ s.heap.size ≤ x) [(b, .inl (cA.1, n, (.inl f))), (q, .inl (c', j, (.inl (va_cpy f (fun _ => 0) 0 0 n))))] := hD2
  have hcc : c' = cA.1 := by
    have e1 := (hK1.2 3 _ rfl).2
    have e2 := (hK.2 0 _ rfl).2
    exact Option.some.inj (e1.symm.trans e2)
  subst hcc
  refine lv_aload_n hx hb dJ7_copyOf_59c91_31 rfl (lv_at hl 0 rfl) ?_
  refine W.widen (k := 1) (n := j) (by omega) (by omega) ?_
  refine W.aret (v := .ref q) hx hb hr (Or.inr ⟨_, rfl⟩) (Or.inr ⟨_, rfl⟩) (fun t ht hW => ?_) hS2.2.2 dJ7_copyOf_59c91_32
  have hqb : q ≠ b := fun e => by have h9 := hD2.1 1 0 _ _ rfl rfl e; omega
  have hq : s.heap.size ≤ q := by
    rcases hD2.2 1 _ rfl with h | h
    · exact absurd h hqb
    · exact h
  refine ⟨q, rfl, hq, by rw [ht]; exact hS2.1, fun x hxl => ?_, by rw [ht]; exact hP2.sub (ws' := [(q, .inl (cA.1, j, (.inl (va_cpy f (fun _ => 0) 0 0 n))))]) [1] rfl⟩
  rw [ht]
  by_cases hxb : x = b
  · subst hxb
    exact (hP2 0 _ rfl).trans (hP 0 _ rfl).symm
  · exact hS2.2.1 x hxl (fun h => h.elim hxb (fun h => by omega))
set_option maxHeartbeats 4000000 in
set_option maxRecDepth 100000 in
theorem mi_c_at6 (l : Launch) (D : va_G) (cA : mi_cA) (a b n : Nat) (lim : Int32) (f : Nat → Int64) (i : Int32) (hn : n < 2 ^ 31) : Met l yX6_at (.code yX6_at cX6_at 2 (some .long) :: mi_ws) { frames := 0, cells := 0, slots := 0, locals := 0 }
    (fun v U => v = ([.ref a, .int i] : List Value).toArray ∧ va_P D vwCl [(a, .inr (6, [.int lim, .ref b])), (b, .inl (cA.2.1, n, (.inr (.inl f))))] U.heap ∧ va_K D vwCl (mi_tys cA) U)
    (fun _ st o t => o = .returned (some (.long (if i < 0 then 0 else if n ≤ i.toNatClampNeg then 0 else f i.toNatClampNeg))) ∧ t.heap = st.heap) 0 0 (fun _ => False) := by
  refine Met.ofW (cc := cX6_at) (maxL := 2) (ret := (some .long)) (by decide) rfl ?_
  intro p e s m args below meth c s₁ B hml hv
  have hx := B.exec
  have hb := B.bytes
  have hr := B.returns
  have hts0 := atoms_spec (ws := .code yX6_at cX6_at 2 (some .long) :: mi_ws) B.pre
  have hts : ∀ w ∈ mi_ws, w.before args s = true := fun w hw => hts0 w (List.mem_cons_of_mem _ hw)
  have hown : s.vm.findClass RX6 = some m.cls := findClass_of_methodNamed B.named
  have hlocks := B.notSynchronized
  obtain ⟨rfl, hP, hK⟩ := hv
  have hl := lv_entry ([.ref a, .int i]) (n := 2) (Nat.le_of_ble_eq_true rfl)
  rw [lg_entry_eq]
  generalize (lg_sl ([.ref a, .int i]) ++ List.replicate (2 - (lg_sl ([.ref a, .int i])).length) Slot.unset).toArray = ls at hl ⊢
  have hl : lv_has ls 2 [(0, .ref a), (1, .int i)] := hl
  refine lv_iload_n hx hb dX6_at_0 rfl (lv_at hl 1 rfl) ?_
  refine lv_if_lt (tgt := 22) hx hb dX6_at_1 (by decide) (fun h => ?_) (fun h => ?_)
  · refine lv_lconst (v := 0) hx hb dX6_at_22 (by decide) ?_
    exact W.lret hx hb hr (fun t ht hW => ⟨by rw [if_pos h], ht⟩) (fun q hq => by cases hq) dX6_at_23
  · refine lv_iload_n hx hb dX6_at_4 rfl (lv_at hl 1 rfl) ?_
    refine lv_aload_n hx hb dX6_at_5 rfl (lv_at hl 0 rfl) ?_
    refine va_get (D := D) (cl := vwCl) (tys := mi_tys cA) (ws := [(a, .inr (6, [.int lim, .ref b])), (b, .inl (cA.2.1, n, (.inr (.inl f))))]) (C := RX6) (T := TX6) (N := 2) (ref := mi_RX 6) (Ts := mi_ws) hx hb hts (mi_inws 6 (by decide)) hown hK hP 0 rfl rfl 1 (by decide) (hts _ mi_wd_fc6) (fun _ h => h) rfl dX6_at_6 ?_
    refine va_alen (D := D) (cl := vwCl) (ws := [(a, .inr (6, [.int lim, .ref b])), (b, .inl (cA.2.1, n, (.inr (.inl f))))]) hx hb hK hP 1 1 rfl (ty := .long) rfl (v := nI n) rfl dX6_at_9 ?_
    refine lv_icmp_ge (tgt := 22) hx hb dX6_at_10 (by decide) (fun h2 => ?_) (fun h2 => ?_)
    · refine lv_lconst (v := 0) hx hb dX6_at_22 (by decide) ?_
      exact W.lret hx hb hr (fun t ht hW => ⟨by rw [if_neg h, if_pos ((mi_ge h hn).mp h2)], ht⟩) (fun q hq => by cases hq) dX6_at_23
    · have h3 : ¬ n ≤ i.toNatClampNeg := fun q => h2 ((mi_ge h hn).mpr q)
      refine lv_aload_n hx hb dX6_at_13 rfl (lv_at hl 0 rfl) ?_
      refine va_get (D := D) (cl := vwCl) (tys := mi_tys cA) (ws := [(a, .inr (6, [.int lim, .ref b])), (b, .inl (cA.2.1, n, (.inr (.inl f))))]) (C := RX6) (T := TX6) (N := 2) (ref := mi_RX 6) (Ts := mi_ws) hx hb hts (mi_inws 6 (by decide)) hown hK hP 0 rfl rfl 1 (by decide) (hts _ mi_wd_fc6) (fun _ h => h) rfl dX6_at_14 ?_
      refine lv_iload_n hx hb dX6_at_17 rfl (lv_at hl 1 rfl) ?_
      refine va_lald (D := D) (cl := vwCl) (ws := [(a, .inr (6, [.int lim, .ref b])), (b, .inl (cA.2.1, n, (.inr (.inl f))))]) hx hb hK hP 1 1 rfl rfl (fun q => q.elim h h3) dX6_at_18 ?_
      refine lv_goto (tgt := 23) hx hb dX6_at_19 (by decide) ?_
      exact W.lret hx hb hr (fun t ht hW => ⟨by rw [if_neg h, if_neg h3], ht⟩) (fun q hq => by cases hq) dX6_at_23
set_option maxHeartbeats 4000000 in
set_option maxRecDepth 100000 in
theorem mi_c_copy6 (l : Launch) (D : va_G) (cA : mi_cA) (b n sz : Nat) (f : Nat → Int64) (k : Int32) (hk : ¬ k < 0) (hnk : n < k.toNatClampNeg) (hbig : k.toNatClampNeg < 2000000) : Met l yJ7_copyOf_c38d5 (.code yJ7_copyOf_c38d5 cJ7_copyOf_c38d5 3 (some (.array .long)) :: mi_ws) { frames := 1, cells := 1, slots := k.toNatClampNeg, locals := 40 }
    (fun v U => v = ([.ref b, .int k] : List Value).toArray ∧ va_P D vwCl [(b, .inl (cA.2.1, n, (.inr (.inl f))))] U.heap ∧ va_K D vwCl (mi_tys cA) U ∧ U.heap.size = sz)
    (fun _ st o t => ∃ q : Nat, o = .returned (some (.ref q)) ∧ sz ≤ q ∧ sz ≤ t.heap.size ∧ (∀ x : Nat, x < sz → t.heap[x]? = st.heap[x]?) ∧ va_P D vwCl [(q, .inl (cA.2.1, k.toNatClampNeg, (.inr (.inl (va_cpy f (fun _ => 0) 0 0 n)))))] t.heap) 1 k.toNatClampNeg (fun x => x = b ∨ sz ≤ x) := by
  refine Met.ofW (cc := cJ7_copyOf_c38d5) (maxL := 3) (ret := (some (.array .long))) (by decide) rfl ?_
  intro p e s m args below meth c s₁ B hml hv
  have hx := B.exec
  have hb := B.bytes
  have hr := B.returns
  have hts0 := atoms_spec (ws := .code yJ7_copyOf_c38d5 cJ7_copyOf_c38d5 3 (some (.array .long)) :: mi_ws) B.pre
  have hts : ∀ w ∈ mi_ws, w.before args s = true := fun w hw => hts0 w (List.mem_cons_of_mem _ hw)
  have hown : s.vm.findClass RJ7 = some m.cls := findClass_of_methodNamed B.named
  have hlocks := B.notSynchronized
  obtain ⟨rfl, hP, hK, hsz⟩ := hv
  subst hsz
  have hbl : b < s.heap.size := (hP 0 _ rfl).lt
  have hD : va_D (fun x : Nat => x = b ∨ s.heap.size ≤ x) [(b, .inl (cA.2.1, n, (.inr (.inl f))))] := ⟨fun i j x y hi hj hxy => by
      have h1 := (List.getElem?_eq_some_iff.mp hi).1
      have h2 := (List.getElem?_eq_some_iff.mp hj).1
      simp at h1 h2
      omega, fun i x hi => by
      have h1 := (List.getElem?_eq_some_iff.mp hi).1
      simp at h1
      subst h1
      cases hi
      exact Or.inl rfl⟩
  have hS : va_S (fun x : Nat => x = b ∨ s.heap.size ≤ x) s.heap s.heap [] := va_S.rf
  have hAA : ∀ q : Nat, s.heap.size ≤ q → (fun x : Nat => x = b ∨ s.heap.size ≤ x) q := fun q h => Or.inr h
  obtain ⟨j, hj, rfl⟩ := nI_of hk
  rw [nI_clamp hj] at hnk hbig ⊢
  have hl := lv_entry ([.ref b, .int (nI j)]) (n := 3) (Nat.le_of_ble_eq_true rfl)
  rw [lg_entry_eq]
  generalize (lg_sl ([.ref b, .int (nI j)]) ++ List.replicate (3 - (lg_sl ([.ref b, .int (nI j)])).length) Slot.unset).toArray = ls at hl ⊢
  have hl : lv_has ls 3 [(0, .ref b), (1, .int (nI j))] := hl
  refine lv_iload_n hx hb dJ7_copyOf_c38d5_0 rfl (lv_at hl 1 rfl) ?_
  refine lv_aload_n hx hb dJ7_copyOf_c38d5_1 rfl (lv_at hl 0 rfl) ?_
  refine va_alen (D := D) (cl := vwCl) (ws := [(b, .inl (cA.2.1, n, (.inr (.inl f))))]) hx hb hK hP 0 1 rfl (ty := .long) rfl (v := nI n) rfl dJ7_copyOf_c38d5_2 ?_
  refine lv_icmp_ne (tgt := 14) hx hb dJ7_copyOf_c38d5_3 (by decide) (fun _ => ?_) (fun h => absurd ((nI_eq hj (by omega)).mp h) (by omega))
  refine lv_iload_n hx hb dJ7_copyOf_c38d5_14 rfl (lv_at hl 1 rfl) ?_
  refine va_newa (atype := .long) (D := D) (cl := vwCl) (ws := [(b, .inl (cA.2.1, n, (.inr (.inl f))))]) (a0 := (j, (.inr (.inl (fun _ => 0))))) hx hb (hts _ mi_word_aj) rfl hK hP hD hS hAA (fun _ => rfl) (nI_pos hj) (nI_clamp hj) (by show _ * 8 ≤ _; omega) (by show 0 + 1 ≤ 1; omega) (by show 0 + j ≤ j; omega) dJ7_copyOf_c38d5_15 (fun q c' H1 hK1 hP1 hD1 hS1 => ?_)
  refine lv_astore_n (lv' := [(2, .ref q), (0, .ref b), (1, .int (nI j))]) hx hb dJ7_copyOf_c38d5_17 rfl hl (by decide) rfl (fun ls hl => ?_)
  refine lv_aload_n hx hb dJ7_copyOf_c38d5_18 rfl (lv_at hl 1 rfl) ?_
  refine lv_iconst (v := 0) hx hb dJ7_copyOf_c38d5_19 (by decide) ?_
  refine lv_aload_n hx hb dJ7_copyOf_c38d5_20 rfl (lv_at hl 0 rfl) ?_
  refine lv_iconst (v := 0) hx hb dJ7_copyOf_c38d5_21 (by decide) ?_
  refine lv_aload_n hx hb dJ7_copyOf_c38d5_22 rfl (lv_at hl 1 rfl) ?_
  refine va_alen (D := D) (cl := vwCl) hx hb hK1 hP1 0 1 rfl (ty := .long) rfl (v := nI n) rfl dJ7_copyOf_c38d5_23 ?_
  refine lv_iload_n hx hb dJ7_copyOf_c38d5_24 rfl (lv_at hl 2 rfl) ?_
  refine va_mmin hx hb (hml.trans hl.1.symm) hown (hts _ mi_wd_lkMinA) (hts _ mi_wd_stMin) (hts _ mi_wd_iniMath) (hts _ mi_wd_cdMin) (by show 1 ≤ 1; omega) (by show _ + 13 ≤ 40; simp [Value.category]) (by show 0 + 1 ≤ 1; omega) (by show 0 + j ≤ j; omega) dJ7_copyOf_c38d5_25 ?_
  rw [if_neg (show ¬ nI j < nI n by rw [nI_ltI hj (by omega)]; omega)]
  have hn31 : n < 2 ^ 31 := by omega
  refine va_copyl (D := D) (cl := vwCl) hx hb (hml.trans hl.1.symm) hown (hts _ mi_wd_lkCopy) (hts _ mi_wd_naCopy) (hts _ mi_wd_stCopy) (hts _ mi_wd_iniSystem) hK1 hP1 hD1 hS1 0 1 1 3 rfl rfl rfl rfl rfl (sp := 0) (dp := 0) (n := nI n) (by decide) (by decide) (nI_pos hn31) (by rw [nI_clamp hn31]; show 0 + n ≤ n; omega) (by rw [nI_clamp hn31]; show 0 + n ≤ j; omega) (fun i _ => rfl) (by show 1 ≤ 1; omega) (by show _ + (nativeFrameWords "java/lang/System" "arraycopy" 5 + 11) ≤ 40; simp [nativeFrameWords]) dJ7_copyOf_c38d5_28 (fun H2 locs2 hP2 hD2 hS2 => ?_)
  rw [nI_clamp hn31] at hP2 hD2
  have hP2 : va_P D vwCl [(b, .inl (cA.2.1, n, (.inr (.inl f)))), (q, .inl (c', j, (.inr (.inl (va_cpy f (fun _ => 0) 0 0 n)))))] H2 := hP2
  have hD2 : va_D (fun x : Nat => x = b ∨ s.heap.size ≤ x) [(b, .inl (cA.2.1, n, (.inr (.inl f)))), (q, .inl (c', j, (.inr (.inl (va_cpy f (fun _ => 0) 0 0 n)))))] := hD2
  have hcc : c' = cA.2.1 := by
    have e1 := (hK1.2 3 _ rfl).2
    have e2 := (hK.2 1 _ rfl).2
    exact Option.some.inj (e1.symm.trans e2)
  subst hcc
  refine lv_aload_n hx hb dJ7_copyOf_c38d5_31 rfl (lv_at hl 0 rfl) ?_
  refine W.widen (k := 1) (n := j) (by omega) (by omega) ?_
  refine W.aret (v := .ref q) hx hb hr (Or.inr ⟨_, rfl⟩) (Or.inr ⟨_, rfl⟩) (fun t ht hW => ?_) hS2.2.2 dJ7_copyOf_c38d5_32
  have hqb : q ≠ b := fun e => by have h9 := hD2.1 1 0 _ _ rfl rfl e; omega
  have hq : s.heap.size ≤ q := by
    rcases hD2.2 1 _ rfl with h | h
    · exact absurd h hqb
    · exact h
  refine ⟨q, rfl, hq, by rw [ht]; exact hS2.1, fun x hxl => ?_, by rw [ht]; exact hP2.sub (ws' := [(q, .inl (cA.2.1, j, (.inr (.inl (va_cpy f (fun _ => 0) 0 0 n)))))]) [1] rfl⟩
  rw [ht]
  by_cases hxb : x = b
  · subst hxb
    exact (hP2 0 _ rfl).trans (hP 0 _ rfl).symm
  · exact hS2.2.1 x hxl (fun h => h.elim hxb (fun h => by omega))
