/-! THE JVM DOES WHAT THE SMALL MACHINE DOES: cells that come -/
def mi_tyok (k j : Nat) : Bool := match mi_Ty k j with
  | .int => true
  | .boolean => true
  | .object _ => true
  | .array _ => true
  | _ => false
theorem mi_tyok_all : ((List.range 13).all fun k => (List.range (mi_n k)).all fun j => mi_tyok k j) = true := by decide +kernel
theorem mi_tyok_of {k j : Nat} (hk : k < 13) (hj : j < mi_n k) : mi_tyok k j = true := by
  have h1 := List.all_eq_true.mp mi_tyok_all k (List.mem_range.mpr hk)
  exact List.all_eq_true.mp h1 j (List.mem_range.mpr hj)
theorem mi_fv_new {ad : Nat → Nat} {δ : mi_D} {a k j : Nat} (hk : k < 13) (hj : j < mi_n k) : mi_fv ad (mi_zero δ a) a k (List.replicate (mi_n k) 0) j = defaultValue (mi_Ty k j) := by
  have h := mi_tyok_of hk hj
  have hr : (List.replicate (mi_n k) 0).getD j 0 = 0 := by
    rw [List.getD_eq_getElem?_getD, List.getElem?_replicate, if_pos hj]
    rfl
  unfold mi_tyok at h
  unfold mi_fv
  split
  · next e => rw [e, hr]; rfl
  · next e => rw [e, hr]; rfl
  · next e1 e2 =>
    split at h
    · next e => rw [e]; show Value.int (if a = a then 0 else _) = _; rw [if_pos rfl]; rfl
    · next e => rw [e]; show Value.int (if a = a then 0 else _) = _; rw [if_pos rfl]; rfl
    · next e => exact absurd e (e1 _)
    · next e => exact absurd e (e2 _)
    · cases h
theorem mi_kn_new {g : mi_G} {k n : Nat} {rs : List Nat} : mi_k (g ++ [(k, n, rs)]) g.length = k ∧ mi_len (g ++ [(k, n, rs)]) g.length = n ∧ mi_rs (g ++ [(k, n, rs)]) g.length = rs := by
  unfold mi_k mi_len mi_rs
  rw [mi_getnew]
  exact ⟨rfl, rfl, rfl⟩
set_option maxRecDepth 100000 in
theorem mi_word_ai : Cond.arrayClass .int ∈ mi_ws := mi_ws_of 118 rfl rfl
set_option maxRecDepth 100000 in
theorem mi_word_aj : Cond.arrayClass .long ∈ mi_ws := mi_ws_of 132 rfl rfl
set_option maxRecDepth 100000 in
theorem mi_word_az : Cond.arrayClass .boolean ∈ mi_ws := mi_ws_of 1243 rfl rfl
section MIN
variable {p : Program} {l : Launch} {e : Env} {R : Room} {s : State} {m : MethodId} {args : Array Value} {below : List Frame} {meth : Method} {c : Code} {H : Heap} {locs : List Loc} {cells slots : Nat} {Q : State → Prop}
variable {y pc i k sl a : Nat} {ls : Array Slot} {rest : List Value} {D : va_G} {cA : mi_cA} {H0 : Heap} {tl : Nat} {ad ad2 : Nat → Nat} {g : mi_G} {δ : mi_D} {cp : Nat → Nat}
def mi_adn (ad : Nat → Nat) (a q : Nat) : Nat → Nat := fun x => if x = a then q else ad x
theorem mi_r_new (C : mi_Cx p s m args meth c y D cA H0 tl) (hd : decode (mi_B y) pc = .ok (.new i, 3)) (hW : mi_W (mi_O y) i = some k) (hR : mi_Rel D cA H0 tl ad ad2 g δ cp s H) (hcells : cells + 1 ≤ R.cells) (hslots : slots + mi_n k ≤ R.slots)
    (kk : ∀ H1 : Heap, mi_Rel D cA H0 tl (mi_adn ad g.length H.size) ad2 (g ++ [(k, 0, List.replicate (mi_n k) 0)]) (mi_zero δ g.length) cp s H1 → W p l e R s m args below meth c H1 locs (cells + 1) (slots + mi_n k) Q (F0 m (pc + 3) ls (.ref H.size :: rest))) : W p l e R s m args below meth c H locs cells slots Q (F0 m pc ls rest) := by
  obtain ⟨hx, hb, hown, hts, hin, hK, -⟩ := C
  obtain ⟨f1, f2, f3, f4⟩ := mi_W_spec hW
  have hcl := mi_cl k f4
  have hKn := hK.1.1 k _ hcl
  refine W.newcK (own := mi_RX (mi_O y)) (C := mi_RX k) (n := mi_n k) hx hb hown (hts _ f1) (hts _ f2) (hts _ f3) rfl hd hcells hslots hKn.2.1 rfl fun H1 kC hkC e1 z1 o1 => ?_
  refine kk H1 (hR.push k 0 (List.replicate (mi_n k) 0) (Or.inl f4) (fun _ => rfl) (fun r hr => (List.mem_replicate.mp hr).2) z1 o1 ?_)
  have hborn := u_born (mi_Ty k) hts (mi_inws k f4) hKn hkC e1 (mi_Ty_ok k f4)
  obtain ⟨k1, k2, k3⟩ := mi_kn_new (g := g) (k := k) (n := 0) (rs := List.replicate (mi_n k) 0)
  unfold mi_cell
  rw [k1, k2, k3]
  by_cases h36 : k = 3 ∨ k = 6
  · rw [if_pos h36, if_pos rfl]
    refine ⟨_, hcl, hborn.to (fun j hj => ?_)⟩
    rcases h36 with rfl | rfl
    · rcases (show j = 0 ∨ j = 1 from by have : j < 2 := hj; omega) with rfl | rfl <;> rfl
    · rcases (show j = 0 ∨ j = 1 from by have : j < 2 := hj; omega) with rfl | rfl <;> rfl
  · rw [if_neg h36, if_pos f4]
    refine ⟨_, hcl, hborn.to (fun j hj => ?_)⟩
    have h2 : (mi_fs (fun x => if x = g.length then H.size else ad x) (mi_zero δ g.length) g.length k (List.replicate (mi_n k) 0))[j]? = some (defaultValue (mi_Ty k j)) := by
      rw [mi_fs_get hj, mi_fv_new f4 hj]
    show _ = (mi_fs (fun x => if x = g.length then H.size else ad x) (mi_zero δ g.length) g.length k (List.replicate (mi_n k) 0)).getD j .null
    rw [List.getD_eq_getElem?_getD, h2]
    rfl
theorem mi_r_newai (C : mi_Cx p s m args meth c y D cA H0 tl) (hd : decode (mi_B y) pc = .ok (.newarray .int, 2)) (hR : mi_Rel D cA H0 tl ad ad2 g δ cp s H) {n : Int32} (hn : ¬ n < 0) (hn2 : n.toNatClampNeg < 1000000) (hcells : cells + 1 ≤ R.cells) (hslots : slots + n.toNatClampNeg ≤ R.slots)
    (kk : ∀ H1 : Heap, mi_Rel D cA H0 tl (mi_adn ad g.length H.size) ad2 (g ++ [(20, n.toNatClampNeg, [])]) (mi_zero δ g.length) cp s H1 → W p l e R s m args below meth c H1 locs (cells + 1) (slots + n.toNatClampNeg) Q (F0 m (pc + 2) ls (.ref H.size :: rest))) : W p l e R s m args below meth c H locs cells slots Q (F0 m pc ls (.int n :: rest)) := by
  obtain ⟨hx, hb, hown, hts, hin, hK, -⟩ := C
  refine va_newaK (atype := .int) hx hb (hts _ mi_word_ai) rfl hd rfl hn rfl (by show _ * 4 ≤ _; omega) hcells hslots rfl fun H1 c' e1 z1 o1 hAr hNm => ?_
  have hcc : c' = cA.1 := Option.some.inj (hNm.symm.trans (hK.1.2 0 _ rfl).2)
  subst hcc
  refine kk H1 (hR.push 20 n.toNatClampNeg [] (by omega) (by omega) (fun r hr => by cases hr) z1 o1 ?_)
  rw [mi_cell_20 mi_kn_new.1, mi_kn_new.2.1]
  show H1[H.size]? = some (vp_cell _ _)
  rw [e1, vp_cell_i]
  congr 2
  funext j
  show Value.int 0 = Value.int (if g.length = g.length then 0 else _)
  rw [if_pos rfl]
theorem mi_r_newaj (C : mi_Cx p s m args meth c y D cA H0 tl) (hd : decode (mi_B y) pc = .ok (.newarray .long, 2)) (hR : mi_Rel D cA H0 tl ad ad2 g δ cp s H) {n : Int32} (hn : ¬ n < 0) (hn2 : n.toNatClampNeg < 1000000) (hcells : cells + 1 ≤ R.cells) (hslots : slots + n.toNatClampNeg ≤ R.slots)
    (kk : ∀ H1 : Heap, mi_Rel D cA H0 tl (mi_adn ad g.length H.size) ad2 (g ++ [(21, n.toNatClampNeg, [])]) (mi_zero δ g.length) cp s H1 → W p l e R s m args below meth c H1 locs (cells + 1) (slots + n.toNatClampNeg) Q (F0 m (pc + 2) ls (.ref H.size :: rest))) : W p l e R s m args below meth c H locs cells slots Q (F0 m pc ls (.int n :: rest)) := by
  obtain ⟨hx, hb, hown, hts, hin, hK, -⟩ := C
  refine va_newaK (atype := .long) hx hb (hts _ mi_word_aj) rfl hd rfl hn rfl (by show _ * 8 ≤ _; omega) hcells hslots rfl fun H1 c' e1 z1 o1 hAr hNm => ?_
  have hcc : c' = cA.2.1 := Option.some.inj (hNm.symm.trans (hK.1.2 1 _ rfl).2)
  subst hcc
  refine kk H1 (hR.push 21 n.toNatClampNeg [] (by omega) (by omega) (fun r hr => by cases hr) z1 o1 ?_)
  rw [mi_cell_21 mi_kn_new.1, mi_kn_new.2.1]
  show H1[H.size]? = some (vp_cell _ _)
  rw [e1, vp_cell_l]
  congr 2
  funext j
  show Value.long 0 = Value.long (if g.length = g.length then 0 else _)
  rw [if_pos rfl]
theorem mi_r_newaz (C : mi_Cx p s m args meth c y D cA H0 tl) (hd : decode (mi_B y) pc = .ok (.newarray .boolean, 2)) (hR : mi_Rel D cA H0 tl ad ad2 g δ cp s H) {n : Int32} (hn : ¬ n < 0) (hn2 : n.toNatClampNeg < 1000000) (hcells : cells + 1 ≤ R.cells) (hslots : slots + n.toNatClampNeg ≤ R.slots)
    (kk : ∀ H1 : Heap, mi_Rel D cA H0 tl (mi_adn ad g.length H.size) ad2 (g ++ [(22, n.toNatClampNeg, [])]) (mi_zero δ g.length) cp s H1 → W p l e R s m args below meth c H1 locs (cells + 1) (slots + n.toNatClampNeg) Q (F0 m (pc + 2) ls (.ref H.size :: rest))) : W p l e R s m args below meth c H locs cells slots Q (F0 m pc ls (.int n :: rest)) := by
  obtain ⟨hx, hb, hown, hts, hin, hK, -⟩ := C
  refine va_newaK (atype := .boolean) hx hb (hts _ mi_word_az) rfl hd rfl hn rfl (by show _ * 1 ≤ _; omega) hcells hslots rfl fun H1 c' e1 z1 o1 hAr hNm => ?_
  have hcc : c' = cA.2.2 := Option.some.inj (hNm.symm.trans (hK.1.2 2 _ rfl).2)
  subst hcc
  refine kk H1 (hR.push 22 n.toNatClampNeg [] (by omega) (by omega) (fun r hr => by cases hr) z1 o1 ?_)
  rw [mi_cell_22 mi_kn_new.1, mi_kn_new.2.1]
  show H1[H.size]? = some (vp_cell _ _)
  rw [e1, vp_cell_i]
  congr 2
  funext j
  show Value.int 0 = Value.int (if g.length = g.length then 0 else _)
  rw [if_pos rfl]
end MIN
