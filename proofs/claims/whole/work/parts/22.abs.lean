/-! THE TWO SIDES AGAINST THE SPECIFICATION -/
/-- cells that are kept -/
def Kp (fs : List (Nat × Nat)) (as ls : List Nat) (δ δ' : mi_D) : Prop :=
  (∀ p, p ∈ fs → δ'.1 p.1 p.2 = δ.1 p.1 p.2) ∧ (∀ a, a ∈ as → δ'.2.1 a = δ.2.1 a) ∧ (∀ a, a ∈ ls → δ'.2.2 a = δ.2.2 a)
section KP
variable {fs fs' : List (Nat × Nat)} {as ls as' ls' : List Nat} {δ δ1 δ2 : mi_D}
theorem Kp.rf : Kp fs as ls δ δ := ⟨fun _ _ => rfl, fun _ _ => rfl, fun _ _ => rfl⟩
theorem Kp.tr (h : Kp fs as ls δ δ1) (h' : Kp fs as ls δ1 δ2) : Kp fs as ls δ δ2 :=
  ⟨fun p q => (h'.1 p q).trans (h.1 p q), fun a q => (h'.2.1 a q).trans (h.2.1 a q), fun a q => (h'.2.2 a q).trans (h.2.2 a q)⟩
theorem Kp.sy (h : Kp fs as ls δ δ1) : Kp fs as ls δ1 δ := ⟨fun p q => (h.1 p q).symm, fun a q => (h.2.1 a q).symm, fun a q => (h.2.2 a q).symm⟩
theorem Kp.wk (h : Kp fs as ls δ δ1) (h1 : ∀ p, p ∈ fs' → p ∈ fs) (h2 : ∀ a, a ∈ as' → a ∈ as) (h3 : ∀ a, a ∈ ls' → a ∈ ls) : Kp fs' as' ls' δ δ1 :=
  ⟨fun p q => h.1 p (h1 p q), fun a q => h.2.1 a (h2 a q), fun a q => h.2.2 a (h3 a q)⟩
theorem Fr.kp (h : Fr fs as ls δ δ1) (h1 : ∀ p, p ∈ fs' → p ∉ fs) (h2 : ∀ a, a ∈ as' → a ∉ as) (h3 : ∀ a, a ∈ ls' → a ∉ ls) : Kp fs' as' ls' δ δ1 :=
  ⟨fun p q => h.1 p.1 p.2 (h1 p q), fun a q => h.2.1 a (h2 a q), fun a q => h.2.2 a (h3 a q)⟩
theorem Kp.setI {a k : Nat} {v : Int32} (h : (a, k) ∉ fs) : Kp fs as ls δ (mi_setI δ a k v) :=
  (Fr.setI (fs := [(a, k)]) (as := []) (ls := []) (List.mem_singleton.mpr rfl)).kp (fun p q z => h (List.mem_singleton.mp z ▸ q)) (fun _ _ => List.not_mem_nil) (fun _ _ => List.not_mem_nil)
theorem Kp.setA {a k : Nat} {v : Int32} (h : a ∉ as) : Kp fs as ls δ (mi_setA δ a k v) :=
  (Fr.setA (fs := []) (as := [a]) (ls := []) (List.mem_singleton.mpr rfl)).kp (fun _ _ => List.not_mem_nil) (fun p q z => h (List.mem_singleton.mp z ▸ q)) (fun _ _ => List.not_mem_nil)
theorem Kp.setL {a k : Nat} {v : Int64} (h : a ∉ ls) : Kp fs as ls δ (mi_setL δ a k v) :=
  (Fr.setL (fs := []) (as := []) (ls := [a]) (List.mem_singleton.mpr rfl)).kp (fun _ _ => List.not_mem_nil) (fun _ _ => List.not_mem_nil) (fun p q z => h (List.mem_singleton.mp z ▸ q))
theorem Kp.rowA {a : Nat} {f : Nat → Int32} (h : a ∉ as) : Kp fs as ls δ (rowA δ a f) :=
  ⟨fun _ _ => rfl, fun b q => if_neg (show ¬ b = a from fun z => h (by rw [← z]; exact q)), fun _ _ => rfl⟩
theorem Kp.rowL {a : Nat} {f : Nat → Int64} (h : a ∉ ls) : Kp fs as ls δ (rowL δ a f) :=
  ⟨fun _ _ => rfl, fun _ _ => rfl, fun b q => if_neg (show ¬ b = a from fun z => h (by rw [← z]; exact q))⟩
theorem Kp.pt {a lim : Nat} {i v : Int32} (h : a ∉ as) : Kp fs as ls δ (mi_pt δ a lim i v) := by
  unfold mi_pt
  split
  · exact Kp.rf
  · exact Kp.setA h
theorem Kp.pl {a lim : Nat} {i : Int32} {v : Int64} (h : a ∉ ls) : Kp fs as ls δ (mi_pl δ a lim i v) := by
  unfold mi_pl
  split
  · exact Kp.rf
  · exact Kp.setL h
theorem Kp.clrL {a : Nat} (h : a ∉ ls) : Kp fs as ls δ (mi_clrL δ a) :=
  ⟨fun _ _ => rfl, fun _ _ => rfl, fun b q => funext fun j => if_neg (show ¬ b = a from fun z => h (by rw [← z]; exact q))⟩
end KP
def pcF : List (Nat × Nat) := [(3,3),(4,9),(14,2),(14,3),(17,9),(17,10),(28,4),(28,5),(28,6),(35,2),(45,3),(2,7)]
def pcA : List Nat := [5,6,7,8,9,10,12,13,15,16,18,19,20,21,22,23,24,25,29,36,46]
def pcL : List Nat := [11,26,37]
def pmF : List (Nat × Nat) := [(48,0),(48,1),(48,2),(48,10),(48,11),(48,12),(48,15),(48,24),(48,30),(48,31),(48,32),(48,36)]
def pmA : List Nat := [49,50,51,52,53,54,56,57,58,59,60,61,62,63,64,66,70,72]
def pmL : List Nat := [55,65,67]
/-- the program's lasting cells are kept; the model's are -/
abbrev KC (δ δ' : mi_D) : Prop := Kp ((48,47) :: pcF) (0 :: 1 :: pcA) pcL δ δ'
abbrev KM (δ δ' : mi_D) : Prop := Kp pmF pmA pmL δ δ'
/-- the model's lasting cells of δ are those of s -/
abbrev Agr (s δ : mi_D) : Prop := Kp pmF pmA pmL s δ
def cntL (s : mi_D) (a : Nat) : Nat → Nat := itN (fun i c => if s.2.1 64 i = nI a then c + 1 else c) 0
/-- accounts of the program -/
def AbA (δ s : mi_D) : Prop := δ.1 4 9 = s.1 48 2 ∧ δ.2.1 5 = s.2.1 49 ∧ δ.2.1 6 = s.2.1 50 ∧ δ.2.1 7 = s.2.1 51 ∧ δ.2.1 12 = s.2.1 52 ∧ δ.2.1 8 = s.2.1 53 ∧ δ.2.1 13 = s.2.1 54 ∧ δ.2.2 11 = s.2.2 55
  ∧ (∀ i b, (ordN (s.2.1 49) (nN s 2))[i]? = some b → δ.2.1 10 i = nI b)
def AbP (δ s : mi_D) : Prop := δ.1 14 2 = s.1 48 11 ∧ δ.1 14 3 = s.1 48 12 ∧ δ.2.1 15 = s.2.1 56 ∧ δ.2.1 16 = s.2.1 57 ∧ δ.1 3 3 = s.1 48 10
def AbE (δ s : mi_D) : Prop := δ.1 17 9 = s.1 48 15 ∧ δ.2.1 18 = s.2.1 58 ∧ δ.2.1 19 = s.2.1 59 ∧ δ.2.1 20 = s.2.1 60 ∧ δ.2.1 22 = s.2.1 62 ∧ δ.2.1 23 = s.2.1 63 ∧ δ.2.1 25 = s.2.1 64 ∧ δ.2.2 26 = s.2.2 65
  ∧ δ.1 17 10 = nI (fromN s (nN s 15)) ∧ (∀ e, e < nN s 15 → δ.2.1 24 e = nI (fromN s e) ∧ δ.2.1 21 e = nI (fromN s (e + 1) - fromN s e))
  ∧ (∀ a, a < nN s 2 → δ.2.1 9 a = nI (cntL s a (fromN s (nN s 15))))
def AbJ (δ s : mi_D) : Prop := δ.1 28 4 = s.1 48 30 ∧ δ.1 28 5 = s.1 48 31 ∧ δ.1 28 6 = s.1 48 32 ∧ δ.2.1 29 = s.2.1 70
def AbD (δ s : mi_D) : Prop := δ.1 35 2 = s.1 48 24 ∧ δ.2.1 36 = s.2.1 66 ∧ δ.2.2 37 = s.2.2 67
def AbS (δ s : mi_D) : Prop := δ.1 45 3 = s.1 48 36 ∧ δ.2.1 46 = s.2.1 72
/-- all of the program, whether it is up apart -/
def Abs (δ s : mi_D) : Prop := AbA δ s ∧ AbP δ s ∧ AbE δ s ∧ AbJ δ s ∧ AbD δ s ∧ AbS δ s
section ABS
variable {δ δ' s s' : mi_D}
theorem AbA.c (h : AbA δ s) (k : Kp [(4,9)] [5,6,7,8,10,12,13] [11] δ δ') : AbA δ' s := by
  unfold AbA at *
  rw [k.1 (4, 9) (by decide), k.2.1 5 (by decide), k.2.1 6 (by decide), k.2.1 7 (by decide), k.2.1 12 (by decide), k.2.1 8 (by decide), k.2.1 13 (by decide), k.2.2 11 (by decide), k.2.1 10 (by decide)]
  exact h
theorem AbA.m (h : AbA δ s) (k : Kp [(48,2)] [49,50,51,52,53,54] [55] s s') : AbA δ s' := by
  unfold AbA nN at *
  rw [k.1 (48, 2) (by decide), k.2.1 49 (by decide), k.2.1 50 (by decide), k.2.1 51 (by decide), k.2.1 52 (by decide), k.2.1 53 (by decide), k.2.1 54 (by decide), k.2.2 55 (by decide)]
  exact h
theorem AbP.c (h : AbP δ s) (k : Kp [(14,2),(14,3),(3,3)] [15,16] [] δ δ') : AbP δ' s := by
  unfold AbP at *
  rw [k.1 (14, 2) (by decide), k.1 (14, 3) (by decide), k.1 (3, 3) (by decide), k.2.1 15 (by decide), k.2.1 16 (by decide)]
  exact h
theorem AbP.m (h : AbP δ s) (k : Kp [(48,11),(48,12),(48,10)] [56,57] [] s s') : AbP δ s' := by
  unfold AbP at *
  rw [k.1 (48, 11) (by decide), k.1 (48, 12) (by decide), k.1 (48, 10) (by decide), k.2.1 56 (by decide), k.2.1 57 (by decide)]
  exact h
theorem AbE.c (h : AbE δ s) (k : Kp [(17,9),(17,10)] [9,18,19,20,21,22,23,24,25] [26] δ δ') : AbE δ' s := by
  unfold AbE at *
  rw [k.1 (17, 9) (by decide), k.1 (17, 10) (by decide), k.2.1 18 (by decide), k.2.1 19 (by decide), k.2.1 20 (by decide), k.2.1 22 (by decide), k.2.1 23 (by decide), k.2.1 24 (by decide), k.2.1 21 (by decide), k.2.1 25 (by decide), k.2.1 9 (by decide), k.2.2 26 (by decide)]
  exact h
theorem AbE.m (h : AbE δ s) (k : Kp [(48,15),(48,2)] [58,59,60,61,62,63,64] [65] s s') : AbE δ s' := by
  unfold AbE cntL fromN nN at *
  rw [k.1 (48, 15) (by decide), k.1 (48, 2) (by decide), k.2.1 58 (by decide), k.2.1 59 (by decide), k.2.1 60 (by decide), k.2.1 61 (by decide), k.2.1 62 (by decide), k.2.1 63 (by decide), k.2.1 64 (by decide), k.2.2 65 (by decide)]
  exact h
theorem AbJ.c (h : AbJ δ s) (k : Kp [(28,4),(28,5),(28,6)] [29] [] δ δ') : AbJ δ' s := by
  unfold AbJ at *
  rw [k.1 (28, 4) (by decide), k.1 (28, 5) (by decide), k.1 (28, 6) (by decide), k.2.1 29 (by decide)]
  exact h
theorem AbJ.m (h : AbJ δ s) (k : Kp [(48,30),(48,31),(48,32)] [70] [] s s') : AbJ δ s' := by
  unfold AbJ at *
  rw [k.1 (48, 30) (by decide), k.1 (48, 31) (by decide), k.1 (48, 32) (by decide), k.2.1 70 (by decide)]
  exact h
theorem AbD.c (h : AbD δ s) (k : Kp [(35,2)] [36] [37] δ δ') : AbD δ' s := by
  unfold AbD at *
  rw [k.1 (35, 2) (by decide), k.2.1 36 (by decide), k.2.2 37 (by decide)]
  exact h
theorem AbD.m (h : AbD δ s) (k : Kp [(48,24)] [66] [67] s s') : AbD δ s' := by
  unfold AbD at *
  rw [k.1 (48, 24) (by decide), k.2.1 66 (by decide), k.2.2 67 (by decide)]
  exact h
theorem AbS.c (h : AbS δ s) (k : Kp [(45,3)] [46] [] δ δ') : AbS δ' s := by
  unfold AbS at *
  rw [k.1 (45, 3) (by decide), k.2.1 46 (by decide)]
  exact h
theorem AbS.m (h : AbS δ s) (k : Kp [(48,36)] [72] [] s s') : AbS δ s' := by
  unfold AbS at *
  rw [k.1 (48, 36) (by decide), k.2.1 72 (by decide)]
  exact h
theorem Abs.c (h : Abs δ s) (k : KC δ δ') : Abs δ' s := ⟨h.1.c (k.wk (by decide) (by decide) (by decide)), h.2.1.c (k.wk (by decide) (by decide) (by decide)), h.2.2.1.c (k.wk (by decide) (by decide) (by decide)), h.2.2.2.1.c (k.wk (by decide) (by decide) (by decide)), h.2.2.2.2.1.c (k.wk (by decide) (by decide) (by decide)), h.2.2.2.2.2.c (k.wk (by decide) (by decide) (by decide))⟩
theorem Abs.m (h : Abs δ s) (k : KM s s') : Abs δ s' := ⟨h.1.m (k.wk (by decide) (by decide) (by decide)), h.2.1.m (k.wk (by decide) (by decide) (by decide)), h.2.2.1.m (k.wk (by decide) (by decide) (by decide)), h.2.2.2.1.m (k.wk (by decide) (by decide) (by decide)), h.2.2.2.2.1.m (k.wk (by decide) (by decide) (by decide)), h.2.2.2.2.2.m (k.wk (by decide) (by decide) (by decide))⟩
end ABS
/-! WELL-FORMED -/
/-- the tree -/
def WfA (s : mi_D) : Prop := wfn s 2 60
  ∧ (∀ a, a < nN s 2 → (¬ s.2.1 49 a < 1 ∧ ¬ 9999 < s.2.1 49 a) ∧ (¬ s.2.1 50 a < 0 ∧ s.2.1 50 a < 5) ∧ (s.2.1 52 a = 0 ∨ s.2.1 52 a = 1) ∧ (s.2.1 54 a = 0 ∨ s.2.1 54 a = 1))
  ∧ (∀ a b, a < nN s 2 → b < nN s 2 → s.2.1 49 a = s.2.1 49 b → a = b)
  ∧ (∀ a, a < nN s 2 → (s.2.1 51 a = -1 ∧ s.2.1 53 a = 0) ∨ (∃ b dd, b < a ∧ s.2.1 51 a = nI b ∧ s.2.1 52 b = 1 ∧ s.2.1 50 b = s.2.1 50 a ∧ dd < 5 ∧ s.2.1 53 b = nI dd ∧ s.2.1 53 a = nI (dd + 1)))
/-- periods, their closings; the owner -/
def WfP (s : mi_D) : Prop := wfn s 11 24 ∧ wfn s 12 24 ∧ nN s 12 ≤ nN s 11
  ∧ (∀ p, p < nN s 11 → ∃ dd, dd ≤ 9999 ∧ s.2.1 56 p = nI dd ∧ (∀ q, q < p → s.2.1 56 q < s.2.1 56 p))
  ∧ (∀ p, p < nN s 11 → s.2.1 57 p = -1 ∨ (p < nN s 12 ∧ ∃ e, e < nN s 15 ∧ s.2.1 57 p = nI e ∧ s.2.1 58 e = s.2.1 56 p ∧ s.2.1 59 e = 0 ∧ fromN s e < fromN s (e + 1)))
  ∧ (s.1 48 10 = -1 ∨ ∃ a, a < nN s 2 ∧ s.1 48 10 = nI a ∧ s.2.1 50 a = 2)
/-- entries, their lines -/
def WfE (s : mi_D) : Prop := wfn s 15 400 ∧ s.2.1 61 0 = 0 ∧ (∀ e, e ≤ nN s 15 → s.2.1 61 e = nI (fromN s e)) ∧ (∀ e, e < nN s 15 → fromN s e ≤ fromN s (e + 1) ∧ fromN s (e + 1) ≤ fromN s e + 60)
  ∧ (∀ i, i < fromN s (nN s 15) → ∃ a, a < nN s 2 ∧ s.2.1 64 i = nI a)
def WfD (s : mi_D) : Prop := wfn s 24 8 ∧ (∀ i, i < nN s 24 → ∃ a, a < nN s 2 ∧ s.2.1 66 i = nI a)
def WfJ (s : mi_D) : Prop := wfn s 30 6000 ∧ wfn s 31 6000 ∧ nN s 31 ≤ nN s 30 ∧ (∀ i, ∃ b, b < 256 ∧ s.2.1 70 i = nI b)
def WfS (s : mi_D) : Prop := wfn s 36 4000
def Wf (s : mi_D) : Prop := WfA s ∧ WfP s ∧ WfE s ∧ WfD s ∧ WfJ s ∧ WfS s
section WFM
variable {s s' : mi_D}
theorem WfA.m (h : WfA s) (k : Kp [(48,2)] [49,50,51,52,53,54] [] s s') : WfA s' := by
  unfold WfA wfn nN at *
  rw [k.1 (48, 2) (by decide), k.2.1 49 (by decide), k.2.1 50 (by decide), k.2.1 51 (by decide), k.2.1 52 (by decide), k.2.1 53 (by decide), k.2.1 54 (by decide)]
  exact h
theorem WfP.m (h : WfP s) (k : Kp [(48,2),(48,10),(48,11),(48,12),(48,15)] [50,56,57,58,59,61] [] s s') : WfP s' := by
  unfold WfP wfn fromN nN at *
  rw [k.1 (48, 2) (by decide), k.1 (48, 10) (by decide), k.1 (48, 11) (by decide), k.1 (48, 12) (by decide), k.1 (48, 15) (by decide), k.2.1 50 (by decide), k.2.1 56 (by decide), k.2.1 57 (by decide), k.2.1 58 (by decide), k.2.1 59 (by decide), k.2.1 61 (by decide)]
  exact h
theorem WfE.m (h : WfE s) (k : Kp [(48,2),(48,15)] [61,64] [] s s') : WfE s' := by
  unfold WfE wfn fromN nN at *
  rw [k.1 (48, 2) (by decide), k.1 (48, 15) (by decide), k.2.1 61 (by decide), k.2.1 64 (by decide)]
  exact h
theorem WfD.m (h : WfD s) (k : Kp [(48,2),(48,24)] [66] [] s s') : WfD s' := by
  unfold WfD wfn nN at *
  rw [k.1 (48, 2) (by decide), k.1 (48, 24) (by decide), k.2.1 66 (by decide)]
  exact h
theorem WfJ.m (h : WfJ s) (k : Kp [(48,30),(48,31)] [70] [] s s') : WfJ s' := by
  unfold WfJ wfn nN at *
  rw [k.1 (48, 30) (by decide), k.1 (48, 31) (by decide), k.2.1 70 (by decide)]
  exact h
theorem WfS.m (h : WfS s) (k : Kp [(48,36)] [] [] s s') : WfS s' := by
  unfold WfS wfn nN at *
  rw [k.1 (48, 36) (by decide)]
  exact h
theorem Wf.m (h : Wf s) (k : KM s s') : Wf s' := ⟨h.1.m (k.wk (by decide) (by decide) (by decide)), h.2.1.m (k.wk (by decide) (by decide) (by decide)), h.2.2.1.m (k.wk (by decide) (by decide) (by decide)), h.2.2.2.1.m (k.wk (by decide) (by decide) (by decide)), h.2.2.2.2.1.m (k.wk (by decide) (by decide) (by decide)), h.2.2.2.2.2.m (k.wk (by decide) (by decide) (by decide))⟩
end WFM
