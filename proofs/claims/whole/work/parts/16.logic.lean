/-! A LOGIC FOR THE SMALL MACHINE: what a run from here comes to, whatever the counts are -/
def mi_wpG (d y pc : Nat) (L st : List Value) (g : mi_G) (δ : mi_D) (Q : Option Value → mi_G → mi_D → Prop) : Prop :=
  ∀ h : mi_H, ∃ (n : Nat) (v : Option Value) (g' : mi_G) (δ' : mi_D) (h' : mi_H), mi_run n d y pc L st (g, δ, h) = some (v, (g', δ', h')) ∧ Q v g' δ'
/-- rows that stand behind one another, each of the frame alone -/
def mi_decs (y : Nat) : Nat → List (Instr × Nat) → Prop
  | _, [] => True
  | pc, (i, l) :: r => decode (mi_B y) pc = .ok (i, l) ∧ mi_decs y (pc + l) r
def mi_seq (own : Nat) : List (Instr × Nat) → Nat → List Value → List Value → Option (Nat × List Value × List Value)
  | [], pc, L, st => some (pc, L, st)
  | (i, l) :: r, pc, L, st => match mi_pure own i l pc L st with
    | some (pc', L', st') => if pc' = pc + l then mi_seq own r pc' L' st' else none
    | none => none
section MIL
variable {d y pc : Nat} {L st r : List Value} {g : mi_G} {δ : mi_D} {Q : Option Value → mi_G → mi_D → Prop}
theorem mr_pure {ins : Instr} {len pc' : Nat} {L' st' : List Value} (hd : decode (mi_B y) pc = .ok (ins, len)) (hp : mi_pure (mi_O y) ins len pc L st = some (pc', L', st')) (k : mi_wpG d y pc' L' st' g δ Q) : mi_wpG d y pc L st g δ Q := by
  intro h
  obtain ⟨n, v, g', δ', h', e, q⟩ := k h
  exact ⟨n + 1, v, g', δ', h', by rw [mi_run, hd]; dsimp only; rw [hp]; exact e, q⟩
theorem mr_seq (own : Nat) (is : List (Instr × Nat)) {pc' : Nat} {L' st' : List Value} (ho : mi_O y = own) (hd : mi_decs y pc is) (hp : mi_seq own is pc L st = some (pc', L', st')) (k : mi_wpG d y pc' L' st' g δ Q) : mi_wpG d y pc L st g δ Q := by
  subst ho
  induction is generalizing pc L st with
  | nil => cases hp; exact k
  | cons q is ih =>
    obtain ⟨i, l⟩ := q
    obtain ⟨h1, h2⟩ := hd
    unfold mi_seq at hp
    cases hq : mi_pure (mi_O y) i l pc L st with
    | none => rw [hq] at hp; cases hp
    | some q =>
      obtain ⟨pc1, L1, st1⟩ := q
      rw [hq] at hp
      dsimp only at hp
      split at hp
      · next he =>
        subst he
        exact mr_pure h1 hq (ih h2 hp)
      · cases hp
theorem mr_heap {ins : Instr} {len : Nat} {st' : List Value} {g' : mi_G} {δ' : mi_D} {f : mi_H → mi_H} (hd : decode (mi_B y) pc = .ok (ins, len)) (hn : mi_pure (mi_O y) ins len pc L st = none) (hh : ∀ h : mi_H, mi_heap (mi_O y) (mi_ini y) d ins len st (g, δ, h) = some (st', (g', δ', f h))) (k : mi_wpG d y (pc + len) L st' g' δ' Q) : mi_wpG d y pc L st g δ Q := by
  intro h
  obtain ⟨n, v, g2, δ2, h2, e, q⟩ := k (f h)
  exact ⟨n + 1, v, g2, δ2, h2, by rw [mi_run, hd]; dsimp only; rw [hn]; dsimp only; rw [hh]; exact e, q⟩
theorem mr_call0 {ins : Instr} {z : Nat} {as : List Value} (h1 : 1 ≤ d) (hd : decode (mi_B y) pc = .ok (ins, 3)) (hn : mi_pure (mi_O y) ins 3 pc L st = none) (hh : ∀ h : mi_H, mi_heap (mi_O y) (mi_ini y) d ins 3 st (g, δ, h) = none) (hc : mi_call (mi_O y) ins 3 st g = some (z, as, r))
    (k : mi_wpG (d - 1) z 0 (mi_entry as (mi_L z)) [] g δ (fun v g' δ' => mi_wpG d y (pc + 3) L (v.toList ++ r) g' δ' Q)) : mi_wpG d y pc L st g δ Q := by
  obtain ⟨d, rfl⟩ : ∃ e, d = e + 1 := ⟨d - 1, by omega⟩
  intro h
  obtain ⟨n1, v1, g1, δ1, hh1, e1, k1⟩ := k h
  obtain ⟨n2, v2, g2, δ2, hh2, e2, q⟩ := k1 hh1
  rw [Nat.add_sub_cancel] at e1
  refine ⟨max n1 n2 + 1, v2, g2, δ2, hh2, ?_, q⟩
  rw [mi_run, hd]
  dsimp only
  rw [hn]
  dsimp only
  rw [hh]
  dsimp only
  rw [hc]
  dsimp only
  rw [mi_run_le (Nat.le_max_left n1 n2) e1]
  exact mi_run_le (Nat.le_max_right n1 n2) e2
theorem mr_ret0 {ins : Instr} {len : Nat} {v : Option Value} (hd : decode (mi_B y) pc = .ok (ins, len)) (hn : mi_pure (mi_O y) ins len pc L st = none) (hh : ∀ h : mi_H, mi_heap (mi_O y) (mi_ini y) d ins len st (g, δ, h) = none) (hc : mi_call (mi_O y) ins len st g = none) (hr : mi_ret y ins len st = some v) (q : Q v g δ) : mi_wpG d y pc L st g δ Q := by
  intro h
  refine ⟨1, v, g, δ, h, ?_, q⟩
  rw [mi_run, hd]
  dsimp only
  rw [hn]
  dsimp only
  rw [hh]
  dsimp only
  rw [hc]
  dsimp only
  rw [hr]
theorem mr_mono {Q' : Option Value → mi_G → mi_D → Prop} (k : mi_wpG d y pc L st g δ Q) (h : ∀ v g' δ', Q v g' δ' → Q' v g' δ') : mi_wpG d y pc L st g δ Q' := by
  intro h0
  obtain ⟨n, v, g', δ', h', e, q⟩ := k h0
  exact ⟨n, v, g', δ', h', e, h _ _ _ q⟩
theorem mr_iret {x : Int32} (hd : decode (mi_B y) pc = .ok (.ireturn, 1)) (hR : mi_R y = some .int) (q : Q (some (.int x)) g δ) : mi_wpG d y pc L [.int x] g δ Q :=
  mr_ret0 hd rfl (fun _ => rfl) rfl (by unfold mi_ret; rw [hR]; rfl) q
theorem mr_zret {x : Int32} (hd : decode (mi_B y) pc = .ok (.ireturn, 1)) (hR : mi_R y = some .boolean) (hx : x = 0 ∨ x = 1) (q : Q (some (.int x)) g δ) : mi_wpG d y pc L [.int x] g δ Q :=
  mr_ret0 hd rfl (fun _ => rfl) rfl (by unfold mi_ret; rw [hR]; simp only [if_true, hx]) q
theorem mr_lret {x : Int64} (hd : decode (mi_B y) pc = .ok (.lreturn, 1)) (hR : mi_R y = some .long) (q : Q (some (.long x)) g δ) : mi_wpG d y pc L [.long x] g δ Q :=
  mr_ret0 hd rfl (fun _ => rfl) rfl (by unfold mi_ret; rw [hR]; rfl) q
theorem mr_vret (hd : decode (mi_B y) pc = .ok (.return_, 1)) (hR : mi_R y = none) (q : Q none g δ) : mi_wpG d y pc L [] g δ Q :=
  mr_ret0 hd rfl (fun _ => rfl) rfl (by unfold mi_ret; rw [hR]; rfl) q
/-! names for what was computed -/
theorem mr_topi {x : Int32} (k : ∀ z : Int32, z = x → mi_wpG d y pc L (.int z :: r) g δ Q) : mi_wpG d y pc L (.int x :: r) g δ Q := k x rfl
theorem mr_topl {x : Int64} (k : ∀ z : Int64, z = x → mi_wpG d y pc L (.long z :: r) g δ Q) : mi_wpG d y pc L (.long x :: r) g δ Q := k x rfl
theorem mr_st (k : ∀ δ1 : mi_D, δ1 = δ → mi_wpG d y pc L st g δ1 Q) : mi_wpG d y pc L st g δ Q := k δ rfl
theorem mr_if {c : ClassFile.Cond} {off : Int} {t : Nat} {x : Int32} (hd : decode (mi_B y) pc = .ok (.ifCond c off, 3)) (ht : mi_tgt pc off = some t) (k1 : mi_c0 c x = true → mi_wpG d y t L r g δ Q) (k2 : mi_c0 c x = false → mi_wpG d y (pc + 3) L r g δ Q) : mi_wpG d y pc L (.int x :: r) g δ Q := by
  cases hc : mi_c0 c x with
  | true => exact mr_pure hd (by unfold mi_pure; dsimp only; rw [ht, hc]; rfl) (k1 hc)
  | false => exact mr_pure hd (by unfold mi_pure; dsimp only; rw [ht, hc]; rfl) (k2 hc)
theorem mr_icmp {c : ClassFile.Cond} {off : Int} {t : Nat} {x z : Int32} (hd : decode (mi_B y) pc = .ok (.if_icmp c off, 3)) (ht : mi_tgt pc off = some t) (k1 : mi_c2 c x z = true → mi_wpG d y t L r g δ Q) (k2 : mi_c2 c x z = false → mi_wpG d y (pc + 3) L r g δ Q) : mi_wpG d y pc L (.int z :: .int x :: r) g δ Q := by
  cases hc : mi_c2 c x z with
  | true => exact mr_pure hd (by unfold mi_pure; dsimp only; rw [ht, hc]; rfl) (k1 hc)
  | false => exact mr_pure hd (by unfold mi_pure; dsimp only; rw [ht, hc]; rfl) (k2 hc)
theorem mr_if_eq {off : Int} {t : Nat} {x : Int32} (hd : decode (mi_B y) pc = .ok (.ifCond .eq off, 3)) (ht : mi_tgt pc off = some t) (k1 : x = 0 → mi_wpG d y t L r g δ Q) (k2 : ¬ x = 0 → mi_wpG d y (pc + 3) L r g δ Q) : mi_wpG d y pc L (.int x :: r) g δ Q := mr_if hd ht (fun h => k1 (by simpa [mi_c0] using h)) (fun h => k2 (by simpa [mi_c0] using h))
theorem mr_if_ne {off : Int} {t : Nat} {x : Int32} (hd : decode (mi_B y) pc = .ok (.ifCond .ne off, 3)) (ht : mi_tgt pc off = some t) (k1 : ¬ x = 0 → mi_wpG d y t L r g δ Q) (k2 : x = 0 → mi_wpG d y (pc + 3) L r g δ Q) : mi_wpG d y pc L (.int x :: r) g δ Q := mr_if hd ht (fun h => k1 (by simpa [mi_c0] using h)) (fun h => k2 (by simpa [mi_c0] using h))
theorem mr_if_lt {off : Int} {t : Nat} {x : Int32} (hd : decode (mi_B y) pc = .ok (.ifCond .lt off, 3)) (ht : mi_tgt pc off = some t) (k1 : x < 0 → mi_wpG d y t L r g δ Q) (k2 : ¬ x < 0 → mi_wpG d y (pc + 3) L r g δ Q) : mi_wpG d y pc L (.int x :: r) g δ Q := mr_if hd ht (fun h => k1 (of_decide_eq_true h)) (fun h => k2 (of_decide_eq_false h))
theorem mi_nd {p : Prop} [Decidable p] (h : (!decide p) = true) : ¬ p := by simpa using h
theorem mi_nd2 {p : Prop} [Decidable p] (h : (!decide p) = false) : p := by simpa using h
theorem mr_if_ge {off : Int} {t : Nat} {x : Int32} (hd : decode (mi_B y) pc = .ok (.ifCond .ge off, 3)) (ht : mi_tgt pc off = some t) (k1 : ¬ x < 0 → mi_wpG d y t L r g δ Q) (k2 : x < 0 → mi_wpG d y (pc + 3) L r g δ Q) : mi_wpG d y pc L (.int x :: r) g δ Q := mr_if hd ht (fun h => k1 (mi_nd h)) (fun h => k2 (mi_nd2 h))
theorem mr_if_gt {off : Int} {t : Nat} {x : Int32} (hd : decode (mi_B y) pc = .ok (.ifCond .gt off, 3)) (ht : mi_tgt pc off = some t) (k1 : 0 < x → mi_wpG d y t L r g δ Q) (k2 : ¬ 0 < x → mi_wpG d y (pc + 3) L r g δ Q) : mi_wpG d y pc L (.int x :: r) g δ Q := mr_if hd ht (fun h => k1 (of_decide_eq_true h)) (fun h => k2 (of_decide_eq_false h))
theorem mr_if_le {off : Int} {t : Nat} {x : Int32} (hd : decode (mi_B y) pc = .ok (.ifCond .le off, 3)) (ht : mi_tgt pc off = some t) (k1 : ¬ 0 < x → mi_wpG d y t L r g δ Q) (k2 : 0 < x → mi_wpG d y (pc + 3) L r g δ Q) : mi_wpG d y pc L (.int x :: r) g δ Q := mr_if hd ht (fun h => k1 (mi_nd h)) (fun h => k2 (mi_nd2 h))
theorem mr_icmp_eq {off : Int} {t : Nat} {x z : Int32} (hd : decode (mi_B y) pc = .ok (.if_icmp .eq off, 3)) (ht : mi_tgt pc off = some t) (k1 : x = z → mi_wpG d y t L r g δ Q) (k2 : ¬ x = z → mi_wpG d y (pc + 3) L r g δ Q) : mi_wpG d y pc L (.int z :: .int x :: r) g δ Q := mr_icmp hd ht (fun h => k1 (of_decide_eq_true h)) (fun h => k2 (of_decide_eq_false h))
theorem mr_icmp_ne {off : Int} {t : Nat} {x z : Int32} (hd : decode (mi_B y) pc = .ok (.if_icmp .ne off, 3)) (ht : mi_tgt pc off = some t) (k1 : ¬ x = z → mi_wpG d y t L r g δ Q) (k2 : x = z → mi_wpG d y (pc + 3) L r g δ Q) : mi_wpG d y pc L (.int z :: .int x :: r) g δ Q := mr_icmp hd ht (fun h => k1 (mi_nd h)) (fun h => k2 (mi_nd2 h))
theorem mr_icmp_lt {off : Int} {t : Nat} {x z : Int32} (hd : decode (mi_B y) pc = .ok (.if_icmp .lt off, 3)) (ht : mi_tgt pc off = some t) (k1 : x < z → mi_wpG d y t L r g δ Q) (k2 : ¬ x < z → mi_wpG d y (pc + 3) L r g δ Q) : mi_wpG d y pc L (.int z :: .int x :: r) g δ Q := mr_icmp hd ht (fun h => k1 (of_decide_eq_true h)) (fun h => k2 (of_decide_eq_false h))
theorem mr_icmp_ge {off : Int} {t : Nat} {x z : Int32} (hd : decode (mi_B y) pc = .ok (.if_icmp .ge off, 3)) (ht : mi_tgt pc off = some t) (k1 : ¬ x < z → mi_wpG d y t L r g δ Q) (k2 : x < z → mi_wpG d y (pc + 3) L r g δ Q) : mi_wpG d y pc L (.int z :: .int x :: r) g δ Q := mr_icmp hd ht (fun h => k1 (mi_nd h)) (fun h => k2 (mi_nd2 h))
theorem mr_icmp_gt {off : Int} {t : Nat} {x z : Int32} (hd : decode (mi_B y) pc = .ok (.if_icmp .gt off, 3)) (ht : mi_tgt pc off = some t) (k1 : z < x → mi_wpG d y t L r g δ Q) (k2 : ¬ z < x → mi_wpG d y (pc + 3) L r g δ Q) : mi_wpG d y pc L (.int z :: .int x :: r) g δ Q := mr_icmp hd ht (fun h => k1 (of_decide_eq_true h)) (fun h => k2 (of_decide_eq_false h))
theorem mr_icmp_le {off : Int} {t : Nat} {x z : Int32} (hd : decode (mi_B y) pc = .ok (.if_icmp .le off, 3)) (ht : mi_tgt pc off = some t) (k1 : ¬ z < x → mi_wpG d y t L r g δ Q) (k2 : z < x → mi_wpG d y (pc + 3) L r g δ Q) : mi_wpG d y pc L (.int z :: .int x :: r) g δ Q := mr_icmp hd ht (fun h => k1 (mi_nd h)) (fun h => k2 (mi_nd2 h))
theorem mr_goto {off : Int} {t : Nat} (hd : decode (mi_B y) pc = .ok (.goto off, 3)) (ht : mi_tgt pc off = some t) (k : mi_wpG d y t L st g δ Q) : mi_wpG d y pc L st g δ Q := mr_pure hd (by unfold mi_pure; dsimp only; rw [ht]; rfl) k
/-- a switch over a row of numbers: each case, and the rest -/
theorem mr_table {dflt lo hi : Int} {offs : Array Int} {len t0 : Nat} {x : Int32} (hd : decode (mi_B y) pc = .ok (.tableswitch dflt lo hi offs, len)) (ht0 : mi_tgt pc dflt = some t0) (k0 : (x.toInt < lo ∨ hi < x.toInt) → mi_wpG d y t0 L r g δ Q)
    (k : ∀ (off : Int), ¬ (x.toInt < lo ∨ hi < x.toInt) → offs[(x.toInt - lo).toNat]? = some off → ∃ t, mi_tgt pc off = some t ∧ mi_wpG d y t L r g δ Q) (hs : (hi - lo).toNat < offs.size) : mi_wpG d y pc L (.int x :: r) g δ Q := by
  by_cases h : x.toInt < lo ∨ hi < x.toInt
  · exact mr_pure hd (by unfold mi_pure; dsimp only; rw [if_pos h, ht0]) (k0 h)
  · have hi2 : (x.toInt - lo).toNat < offs.size := by omega
    obtain ⟨t, ht, hw⟩ := k _ h (Array.getElem?_eq_getElem hi2)
    exact mr_pure hd (by unfold mi_pure; dsimp only; rw [if_neg h, Array.getElem?_eq_getElem hi2]; dsimp only; rw [ht]) hw
theorem mr_look {dflt : Int} {ps : Array (Int × Int)} {len t : Nat} {x : Int32} (hd : decode (mi_B y) pc = .ok (.lookupswitch dflt ps, len)) (hs : (ps.toList.zip (ps.toList.drop 1)).all (fun (a, next) => a.1 < next.1) = true) (ht : mi_tgt pc (Op.lookupswitch.offset ps.toList dflt x.toInt) = some t) (k : mi_wpG d y t L r g δ Q) : mi_wpG d y pc L (.int x :: r) g δ Q :=
  mr_pure hd (by unfold mi_pure; dsimp only; rw [if_pos hs, ht]) k
/-! cells -/
theorem mr_getI {i k sl a : Nat} (hd : decode (mi_B y) pc = .ok (.getfield i, 3)) (hF : mi_F (mi_O y) i = some (k, sl)) (hk : mi_k g a = k) (ht : mi_Ty k sl = .int ∨ mi_Ty k sl = .boolean) (kk : mi_wpG d y (pc + 3) L (.int (δ.1 a sl) :: r) g δ Q) : mi_wpG d y pc L (.ref a :: r) g δ Q :=
  mr_heap (f := id) hd rfl (fun h => by unfold mi_heap; simp only [if_true, hF, hk]; rcases ht with e | e <;> rw [e] <;> rfl) kk
theorem mr_getR {i k sl a b : Nat} (hd : decode (mi_B y) pc = .ok (.getfield i, 3)) (hF : mi_F (mi_O y) i = some (k, sl)) (hk : mi_k g a = k) {n : String} (ht : mi_Ty k sl = .object n) (hb : (mi_rs g a).getD sl 0 = b + 1) (kk : mi_wpG d y (pc + 3) L (.ref b :: r) g δ Q) : mi_wpG d y pc L (.ref a :: r) g δ Q :=
  mr_heap (f := id) hd rfl (fun h => by unfold mi_heap; simp only [if_true, hF, hk, ht, hb]; rfl) kk
theorem mr_getA {i k sl a b : Nat} (hd : decode (mi_B y) pc = .ok (.getfield i, 3)) (hF : mi_F (mi_O y) i = some (k, sl)) (hk : mi_k g a = k) {n : FieldType} (ht : mi_Ty k sl = .array n) (hb : (mi_rs g a).getD sl 0 = b + 1) (kk : mi_wpG d y (pc + 3) L (.ref b :: r) g δ Q) : mi_wpG d y pc L (.ref a :: r) g δ Q :=
  mr_heap (f := id) hd rfl (fun h => by unfold mi_heap; simp only [if_true, hF, hk, ht, hb]; rfl) kk
theorem mr_putI {i k sl a : Nat} {v : Int32} (hd : decode (mi_B y) pc = .ok (.putfield i, 3)) (hF : mi_F (mi_O y) i = some (k, sl)) (hk : mi_k g a = k) (ht : mi_Ty k sl = .int) (hf : (mi_T k sl).2.2.2 = false) (kk : mi_wpG d y (pc + 3) L r g (mi_setI δ a sl v) Q) : mi_wpG d y pc L (.int v :: .ref a :: r) g δ Q :=
  mr_heap (f := id) hd rfl (fun h => by unfold mi_heap; simp only [if_true, hF, hk, ht, hf]; rfl) kk
theorem mr_putZ {i k sl a : Nat} {v : Int32} (hd : decode (mi_B y) pc = .ok (.putfield i, 3)) (hF : mi_F (mi_O y) i = some (k, sl)) (hk : mi_k g a = k) (ht : mi_Ty k sl = .boolean) (hf : (mi_T k sl).2.2.2 = false) (hv : v = 0 ∨ v = 1) (kk : mi_wpG d y (pc + 3) L r g (mi_setI δ a sl v) Q) : mi_wpG d y pc L (.int v :: .ref a :: r) g δ Q :=
  mr_heap (f := id) hd rfl (fun h => by unfold mi_heap; simp only [if_true, hF, hk, ht, hf, hv]; rfl) kk
theorem mr_putR {i k sl a b : Nat} (hd : decode (mi_B y) pc = .ok (.putfield i, 3)) (hF : mi_F (mi_O y) i = some (k, sl)) (hk : mi_k g a = k) (ht : (∃ n, mi_Ty k sl = .object n) ∨ (∃ n, mi_Ty k sl = .array n)) (hf : (mi_T k sl).2.2.2 = true) (hi : mi_ini y = k) (hok : mi_O y = k) (hl : sl < (mi_rs g a).length) (kk : mi_wpG d y (pc + 3) L r (g.set a (k, mi_len g a, (mi_rs g a).set sl (b + 1))) δ Q) : mi_wpG d y pc L (.ref b :: .ref a :: r) g δ Q :=
  mr_heap (f := id) hd rfl (fun h => by unfold mi_heap; dsimp only; rw [if_pos rfl, hF]; dsimp only; rw [if_pos ⟨hk, hf, hi, hok, hl⟩]; rcases ht with ⟨n, e⟩ | ⟨n, e⟩ <;> rw [e] <;> rfl) kk
theorem mr_gets {i : Nat} (hd : decode (mi_B y) pc = .ok (.getstatic i, 3)) (hi : (mi_O y, i) = mi_let) (hk : mi_k g 1 = 25) (kk : mi_wpG d y (pc + 3) L (.ref 1 :: st) g δ Q) : mi_wpG d y pc L st g δ Q :=
  mr_heap (f := id) hd rfl (fun h => by unfold mi_heap; simp only [if_true, hi, hk, and_self]; rfl) kk
theorem mr_iald {a : Nat} {j : Int32} (hd : decode (mi_B y) pc = .ok (.iaload, 1)) (hk : mi_k g a = 20 ∨ mi_k g a = 24) (hj : mi_ix j (mi_len g a) = true) (kk : mi_wpG d y (pc + 1) L (.int (δ.2.1 a j.toNatClampNeg) :: r) g δ Q) : mi_wpG d y pc L (.int j :: .ref a :: r) g δ Q :=
  mr_heap (f := id) hd rfl (fun h => by unfold mi_heap; simp only [if_true, hk, hj, and_self]; rfl) kk
theorem mr_bald {a : Nat} {j : Int32} (hd : decode (mi_B y) pc = .ok (.baload, 1)) (hk : mi_k g a = 22) (hj : mi_ix j (mi_len g a) = true) (kk : mi_wpG d y (pc + 1) L (.int (δ.2.1 a j.toNatClampNeg) :: r) g δ Q) : mi_wpG d y pc L (.int j :: .ref a :: r) g δ Q :=
  mr_heap (f := id) hd rfl (fun h => by unfold mi_heap; simp only [if_true, hk, hj, and_self]; rfl) kk
theorem mr_cald {a : Nat} {j : Int32} (hd : decode (mi_B y) pc = .ok (.caload, 1)) (hk : mi_k g a = 25) (hj : mi_ix j (mi_len g a) = true) (kk : mi_wpG d y (pc + 1) L (.int (δ.2.1 a j.toNatClampNeg) :: r) g δ Q) : mi_wpG d y pc L (.int j :: .ref a :: r) g δ Q :=
  mr_heap (f := id) hd rfl (fun h => by unfold mi_heap; simp only [if_true, hk, hj, and_self]; rfl) kk
theorem mr_lald {a : Nat} {j : Int32} (hd : decode (mi_B y) pc = .ok (.laload, 1)) (hk : mi_k g a = 21) (hj : mi_ix j (mi_len g a) = true) (kk : mi_wpG d y (pc + 1) L (.long (δ.2.2 a j.toNatClampNeg) :: r) g δ Q) : mi_wpG d y pc L (.int j :: .ref a :: r) g δ Q :=
  mr_heap (f := id) hd rfl (fun h => by unfold mi_heap; simp only [if_true, hk, hj, and_self]; rfl) kk
theorem mr_iast {a : Nat} {j v : Int32} (hd : decode (mi_B y) pc = .ok (.iastore, 1)) (hk : mi_k g a = 20) (hj : mi_ix j (mi_len g a) = true) (kk : mi_wpG d y (pc + 1) L r g (mi_setA δ a j.toNatClampNeg v) Q) : mi_wpG d y pc L (.int v :: .int j :: .ref a :: r) g δ Q :=
  mr_heap (f := id) hd rfl (fun h => by unfold mi_heap; simp only [if_true, hk, hj, and_self]; rfl) kk
theorem mr_bast {a : Nat} {j v : Int32} (hd : decode (mi_B y) pc = .ok (.bastore, 1)) (hk : mi_k g a = 22) (hj : mi_ix j (mi_len g a) = true) (hv : v = 0 ∨ v = 1) (kk : mi_wpG d y (pc + 1) L r g (mi_setA δ a j.toNatClampNeg v) Q) : mi_wpG d y pc L (.int v :: .int j :: .ref a :: r) g δ Q :=
  mr_heap (f := id) hd rfl (fun h => by unfold mi_heap; simp only [if_true, hk, hj, hv, and_self]; rfl) kk
theorem mr_last {a : Nat} {j : Int32} {v : Int64} (hd : decode (mi_B y) pc = .ok (.lastore, 1)) (hk : mi_k g a = 21) (hj : mi_ix j (mi_len g a) = true) (kk : mi_wpG d y (pc + 1) L r g (mi_setL δ a j.toNatClampNeg v) Q) : mi_wpG d y pc L (.long v :: .int j :: .ref a :: r) g δ Q :=
  mr_heap (f := id) hd rfl (fun h => by unfold mi_heap; simp only [if_true, hk, hj, and_self]; rfl) kk
theorem mr_alen {a : Nat} (hd : decode (mi_B y) pc = .ok (.arraylength, 1)) (hk : 20 ≤ mi_k g a ∧ mi_k g a ≤ 25 ∧ mi_k g a ≠ 23) (kk : mi_wpG d y (pc + 1) L (.int (nI (mi_len g a)) :: r) g δ Q) : mi_wpG d y pc L (.ref a :: r) g δ Q :=
  mr_heap (f := id) hd rfl (fun h => by unfold mi_heap; simp only [if_true]; rw [if_pos hk]; rfl) kk
theorem mr_new {i k : Nat} (hd : decode (mi_B y) pc = .ok (.new i, 3)) (hW : mi_W (mi_O y) i = some k) (kk : mi_wpG d y (pc + 3) L (.ref g.length :: st) (g ++ [(k, 0, List.replicate (mi_n k) 0)]) (mi_zero δ g.length) Q) : mi_wpG d y pc L st g δ Q :=
  mr_heap (f := fun h => (h.1, h.2.1 + 1, h.2.2 + mi_n k)) hd rfl (fun h => by unfold mi_heap; simp only [if_true, hW]) kk
theorem mr_newI {n : Int32} (hd : decode (mi_B y) pc = .ok (.newarray .int, 2)) (hn : ¬ n < 0 ∧ n.toNatClampNeg < 1000000) (kk : mi_wpG d y (pc + 2) L (.ref g.length :: r) (g ++ [(20, n.toNatClampNeg, [])]) (mi_zero δ g.length) Q) : mi_wpG d y pc L (.int n :: r) g δ Q :=
  mr_heap (f := fun h => (h.1, h.2.1 + 1, h.2.2 + n.toNatClampNeg)) hd rfl (fun h => by unfold mi_heap; simp only [if_true]; rw [if_pos hn]) kk
theorem mr_newL {n : Int32} (hd : decode (mi_B y) pc = .ok (.newarray .long, 2)) (hn : ¬ n < 0 ∧ n.toNatClampNeg < 1000000) (kk : mi_wpG d y (pc + 2) L (.ref g.length :: r) (g ++ [(21, n.toNatClampNeg, [])]) (mi_zero δ g.length) Q) : mi_wpG d y pc L (.int n :: r) g δ Q :=
  mr_heap (f := fun h => (h.1, h.2.1 + 1, h.2.2 + n.toNatClampNeg)) hd rfl (fun h => by unfold mi_heap; simp only [if_true]; rw [if_pos hn]) kk
theorem mr_newZ {n : Int32} (hd : decode (mi_B y) pc = .ok (.newarray .boolean, 2)) (hn : ¬ n < 0 ∧ n.toNatClampNeg < 1000000) (kk : mi_wpG d y (pc + 2) L (.ref g.length :: r) (g ++ [(22, n.toNatClampNeg, [])]) (mi_zero δ g.length) Q) : mi_wpG d y pc L (.int n :: r) g δ Q :=
  mr_heap (f := fun h => (h.1, h.2.1 + 1, h.2.2 + n.toNatClampNeg)) hd rfl (fun h => by unfold mi_heap; simp only [if_true]; rw [if_pos hn]) kk
/-! what is given for whole -/
theorem mr_primV {i pk : Nat} {st' : List Value} {g' : mi_G} {δ' : mi_D} {f : mi_H → mi_H} (h5 : 5 ≤ d) (hd : decode (mi_B y) pc = .ok (.invokevirtual i, 3)) (hq : mi_Q (mi_O y) i = some pk) (hpk : ¬ (pk = 0 ∨ pk = 3 ∨ pk = 8 ∨ pk = 9 ∨ pk = 10 ∨ pk = 11)) (hcat : mi_cat st ≤ 8) (hp : ∀ h : mi_H, mi_prim pk st (g, δ, h) = some (st', (g', δ', f h))) (kk : mi_wpG d y (pc + 3) L st' g' δ' Q) : mi_wpG d y pc L st g δ Q :=
  mr_heap (f := f) hd rfl (fun h => by unfold mi_heap; dsimp only; rw [if_pos ⟨rfl, h5, hcat⟩, hq]; dsimp only; rw [if_neg hpk]; exact hp h) kk
theorem mr_primS {i pk : Nat} {st' : List Value} {g' : mi_G} {δ' : mi_D} {f : mi_H → mi_H} (h5 : 5 ≤ d) (hd : decode (mi_B y) pc = .ok (.invokestatic i, 3)) (hq : mi_Q (mi_O y) i = some pk) (hpk : pk = 8 ∨ pk = 9 ∨ pk = 10) (hcat : mi_cat st ≤ 8) (hp : ∀ h : mi_H, mi_prim pk st (g, δ, h) = some (st', (g', δ', f h))) (kk : mi_wpG d y (pc + 3) L st' g' δ' Q) : mi_wpG d y pc L st g δ Q :=
  mr_heap (f := f) hd rfl (fun h => by unfold mi_heap; dsimp only; rw [if_pos ⟨rfl, h5, hcat⟩, hq]; dsimp only; rw [if_pos hpk]; exact hp h) kk
theorem mr_primI {i pk : Nat} {st' : List Value} {g' : mi_G} {δ' : mi_D} {f : mi_H → mi_H} (h5 : 5 ≤ d) (hd : decode (mi_B y) pc = .ok (.invokespecial i, 3)) (hq : mi_Q (mi_O y) i = some pk) (hpk : pk = 0 ∨ pk = 3 ∨ pk = 11) (hcat : mi_cat st ≤ 8) (hp : ∀ h : mi_H, mi_prim pk st (g, δ, h) = some (st', (g', δ', f h))) (kk : mi_wpG d y (pc + 3) L st' g' δ' Q) : mi_wpG d y pc L st g δ Q :=
  mr_heap (f := f) hd rfl (fun h => by unfold mi_heap; dsimp only; rw [if_pos ⟨rfl, h5, hcat⟩, hq]; dsimp only; rw [if_pos hpk]; exact hp h) kk
/-- Ints.at, Longs.at: the value at a place -/
def mi_at (δ : mi_D) (a : Nat) (i : Int32) : Int32 := if i < 0 then 0 else δ.2.1 a i.toNatClampNeg
def mi_al (δ : mi_D) (a : Nat) (i : Int32) : Int64 := if i < 0 then 0 else δ.2.2 a i.toNatClampNeg
/-- Ints.put, Longs.put under a limit -/
def mi_pt (δ : mi_D) (a lim : Nat) (i v : Int32) : mi_D := if i < 0 ∨ lim ≤ i.toNatClampNeg then δ else mi_setA δ a i.toNatClampNeg v
def mi_pl (δ : mi_D) (a lim : Nat) (i : Int32) (v : Int64) : mi_D := if i < 0 ∨ lim ≤ i.toNatClampNeg then δ else mi_setL δ a i.toNatClampNeg v
theorem mr_at {i a : Nat} {j : Int32} (h5 : 5 ≤ d) (hd : decode (mi_B y) pc = .ok (.invokevirtual i, 3)) (hq : mi_Q (mi_O y) i = some 1) (hcat : mi_cat (.int j :: .ref a :: r) ≤ 8) (hk : mi_k g a = 3) (hl : mi_len g a ≠ 0) (kk : mi_wpG d y (pc + 3) L (.int (mi_at δ a j) :: r) g δ Q) : mi_wpG d y pc L (.int j :: .ref a :: r) g δ Q :=
  mr_primV (f := id) h5 hd hq (by decide) hcat (fun h => by show (if mi_k g a = 3 ∧ mi_len g a ≠ 0 then some (Value.int (if j < 0 then 0 else δ.2.1 a j.toNatClampNeg) :: r, ((g, δ, h) : mi_S)) else none) = _; rw [if_pos ⟨hk, hl⟩]; rfl) kk
theorem mr_al {i a : Nat} {j : Int32} (h5 : 5 ≤ d) (hd : decode (mi_B y) pc = .ok (.invokevirtual i, 3)) (hq : mi_Q (mi_O y) i = some 4) (hcat : mi_cat (.int j :: .ref a :: r) ≤ 8) (hk : mi_k g a = 6) (hl : mi_len g a ≠ 0) (kk : mi_wpG d y (pc + 3) L (.long (mi_al δ a j) :: r) g δ Q) : mi_wpG d y pc L (.int j :: .ref a :: r) g δ Q :=
  mr_primV (f := id) h5 hd hq (by decide) hcat (fun h => by show (if mi_k g a = 6 ∧ mi_len g a ≠ 0 then some (Value.long (if j < 0 then 0 else δ.2.2 a j.toNatClampNeg) :: r, ((g, δ, h) : mi_S)) else none) = _; rw [if_pos ⟨hk, hl⟩]; rfl) kk
theorem mr_put {i a lim : Nat} {j v : Int32} (h5 : 5 ≤ d) (hd : decode (mi_B y) pc = .ok (.invokevirtual i, 3)) (hq : mi_Q (mi_O y) i = some 2) (hcat : mi_cat (.int v :: .int j :: .ref a :: r) ≤ 8) (hk : mi_k g a = 3) (hl : mi_len g a = lim + 1) (kk : mi_wpG d y (pc + 3) L r g (mi_pt δ a lim j v) Q) : mi_wpG d y pc L (.int v :: .int j :: .ref a :: r) g δ Q := by
  by_cases hj : j < 0 ∨ lim ≤ j.toNatClampNeg
  · refine mr_primV (f := id) h5 hd hq (by decide) hcat (fun h => by show (if mi_k g a = 3 ∧ mi_len g a ≠ 0 then (if j < 0 ∨ mi_len g a ≤ j.toNatClampNeg + 1 then some (r, ((g, δ, h) : mi_S)) else some (r, ((g, mi_setA δ a j.toNatClampNeg v, mi_put h (mi_len g a - 1) a j.toNatClampNeg) : mi_S))) else none) = _; rw [if_pos ⟨hk, by omega⟩, if_pos (hj.imp id (fun q => by omega))]; rfl) ?_
    unfold mi_pt at kk
    rw [if_pos hj] at kk
    exact kk
  · refine mr_primV (f := fun h => mi_put h (mi_len g a - 1) a j.toNatClampNeg) h5 hd hq (by decide) hcat (fun h => by show (if mi_k g a = 3 ∧ mi_len g a ≠ 0 then (if j < 0 ∨ mi_len g a ≤ j.toNatClampNeg + 1 then some (r, ((g, δ, h) : mi_S)) else some (r, ((g, mi_setA δ a j.toNatClampNeg v, mi_put h (mi_len g a - 1) a j.toNatClampNeg) : mi_S))) else none) = _; rw [if_pos ⟨hk, by omega⟩, if_neg (fun q => hj (q.imp id (fun q => by omega)))]) ?_
    unfold mi_pt at kk
    rw [if_neg hj] at kk
    exact kk
theorem mr_pl {i a lim : Nat} {j : Int32} {v : Int64} (h5 : 5 ≤ d) (hd : decode (mi_B y) pc = .ok (.invokevirtual i, 3)) (hq : mi_Q (mi_O y) i = some 5) (hcat : mi_cat (.long v :: .int j :: .ref a :: r) ≤ 8) (hk : mi_k g a = 6) (hl : mi_len g a = lim + 1) (kk : mi_wpG d y (pc + 3) L r g (mi_pl δ a lim j v) Q) : mi_wpG d y pc L (.long v :: .int j :: .ref a :: r) g δ Q := by
  by_cases hj : j < 0 ∨ lim ≤ j.toNatClampNeg
  · refine mr_primV (f := id) h5 hd hq (by decide) hcat (fun h => by show (if mi_k g a = 6 ∧ mi_len g a ≠ 0 then (if j < 0 ∨ mi_len g a ≤ j.toNatClampNeg + 1 then some (r, ((g, δ, h) : mi_S)) else some (r, ((g, mi_setL δ a j.toNatClampNeg v, mi_put h (mi_len g a - 1) a j.toNatClampNeg) : mi_S))) else none) = _; rw [if_pos ⟨hk, by omega⟩, if_pos (hj.imp id (fun q => by omega))]; rfl) ?_
    unfold mi_pl at kk
    rw [if_pos hj] at kk
    exact kk
  · refine mr_primV (f := fun h => mi_put h (mi_len g a - 1) a j.toNatClampNeg) h5 hd hq (by decide) hcat (fun h => by show (if mi_k g a = 6 ∧ mi_len g a ≠ 0 then (if j < 0 ∨ mi_len g a ≤ j.toNatClampNeg + 1 then some (r, ((g, δ, h) : mi_S)) else some (r, ((g, mi_setL δ a j.toNatClampNeg v, mi_put h (mi_len g a - 1) a j.toNatClampNeg) : mi_S))) else none) = _; rw [if_pos ⟨hk, by omega⟩, if_neg (fun q => hj (q.imp id (fun q => by omega)))]) ?_
    unfold mi_pl at kk
    rw [if_neg hj] at kk
    exact kk
theorem mr_clear {i a : Nat} (h5 : 5 ≤ d) (hd : decode (mi_B y) pc = .ok (.invokevirtual i, 3)) (hq : mi_Q (mi_O y) i = some 7) (hcat : mi_cat (.ref a :: r) ≤ 8) (hk : mi_k g a = 6) (hl : mi_len g a ≠ 0) (kk : mi_wpG d y (pc + 3) L r g (mi_clrL δ a) Q) : mi_wpG d y pc L (.ref a :: r) g δ Q :=
  mr_primV (f := id) h5 hd hq (by decide) hcat (fun h => by show (if mi_k g a = 6 ∧ mi_len g a ≠ 0 then some (r, ((g, mi_clrL δ a, h) : mi_S)) else none) = _; rw [if_pos ⟨hk, hl⟩]; rfl) kk
theorem mr_abs {i : Nat} {x : Int64} (h5 : 5 ≤ d) (hd : decode (mi_B y) pc = .ok (.invokestatic i, 3)) (hq : mi_Q (mi_O y) i = some 8) (hcat : mi_cat (.long x :: r) ≤ 8) (kk : mi_wpG d y (pc + 3) L (.long (if 0 < x then x else -x) :: r) g δ Q) : mi_wpG d y pc L (.long x :: r) g δ Q :=
  mr_primS (f := id) h5 hd hq (by decide) hcat (fun h => rfl) kk
theorem mr_min {i : Nat} {x z : Int32} (h5 : 5 ≤ d) (hd : decode (mi_B y) pc = .ok (.invokestatic i, 3)) (hq : mi_Q (mi_O y) i = some 9) (hcat : mi_cat (.int z :: .int x :: r) ≤ 8) (kk : mi_wpG d y (pc + 3) L (.int (if z < x then z else x) :: r) g δ Q) : mi_wpG d y pc L (.int z :: .int x :: r) g δ Q :=
  mr_primS (f := id) h5 hd hq (by decide) hcat (fun h => rfl) kk
theorem mr_obj {i a : Nat} (h5 : 5 ≤ d) (hd : decode (mi_B y) pc = .ok (.invokespecial i, 3)) (hq : mi_Q (mi_O y) i = some 11) (hcat : mi_cat (.ref a :: r) ≤ 8) (kk : mi_wpG d y (pc + 3) L r g δ Q) : mi_wpG d y pc L (.ref a :: r) g δ Q :=
  mr_primI (f := id) h5 hd hq (by decide) hcat (fun h => rfl) kk
theorem mr_ini3 {i a : Nat} {n : Int32} (h5 : 5 ≤ d) (hd : decode (mi_B y) pc = .ok (.invokespecial i, 3)) (hq : mi_Q (mi_O y) i = some 0) (hcat : mi_cat (.int n :: .ref a :: r) ≤ 8) (hk : mi_k g a = 3) (hl : mi_len g a = 0) (hn : ¬ n < 0 ∧ n.toNatClampNeg < 1000000) (kk : mi_wpG d y (pc + 3) L r (g.set a (3, n.toNatClampNeg + 1, [])) (mi_zero δ a) Q) : mi_wpG d y pc L (.int n :: .ref a :: r) g δ Q :=
  mr_primI (f := fun h => (fun x => if x = a then 16 else h.1 x, h.2.1 + 1, h.2.2 + 16)) h5 hd hq (by decide) hcat (fun h => by show (if mi_k g a = 3 ∧ mi_len g a = 0 ∧ ¬ n < 0 ∧ n.toNatClampNeg < 1000000 then some (r, ((g.set a (3, n.toNatClampNeg + 1, []), mi_zero δ a, (fun x => if x = a then 16 else h.1 x, h.2.1 + 1, h.2.2 + 16)) : mi_S)) else none) = _; rw [if_pos ⟨hk, hl, hn.1, hn.2⟩]) kk
theorem mr_ini6 {i a : Nat} {n : Int32} (h5 : 5 ≤ d) (hd : decode (mi_B y) pc = .ok (.invokespecial i, 3)) (hq : mi_Q (mi_O y) i = some 3) (hcat : mi_cat (.int n :: .ref a :: r) ≤ 8) (hk : mi_k g a = 6) (hl : mi_len g a = 0) (hn : ¬ n < 0 ∧ n.toNatClampNeg < 1000000) (kk : mi_wpG d y (pc + 3) L r (g.set a (6, n.toNatClampNeg + 1, [])) (mi_zero δ a) Q) : mi_wpG d y pc L (.int n :: .ref a :: r) g δ Q :=
  mr_primI (f := fun h => (fun x => if x = a then 16 else h.1 x, h.2.1 + 1, h.2.2 + 16)) h5 hd hq (by decide) hcat (fun h => by show (if mi_k g a = 6 ∧ mi_len g a = 0 ∧ ¬ n < 0 ∧ n.toNatClampNeg < 1000000 then some (r, ((g.set a (6, n.toNatClampNeg + 1, []), mi_zero δ a, (fun x => if x = a then 16 else h.1 x, h.2.1 + 1, h.2.2 + 16)) : mi_S)) else none) = _; rw [if_pos ⟨hk, hl, hn.1, hn.2⟩]) kk
end MIL
