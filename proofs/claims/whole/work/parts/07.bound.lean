/-! references on the frame are of cells that are there -/
def mi_bd (N : Nat) (l : List Value) : Prop := ∀ a, Value.ref a ∈ l → a < N
theorem mi_bd_nil (N : Nat) : mi_bd N [] := fun a h => by cases h
theorem mi_bd_cons {N : Nat} {v : Value} {l : List Value} : mi_bd N (v :: l) ↔ (∀ a, v = .ref a → a < N) ∧ mi_bd N l := by
  constructor
  · intro h
    exact ⟨fun a e => h a (by rw [e]; exact List.mem_cons_self), fun a ha => h a (List.mem_cons_of_mem _ ha)⟩
  · rintro ⟨h1, h2⟩ a ha
    rcases List.mem_cons.mp ha with e | e
    · exact h1 a e.symm
    · exact h2 a e
theorem mi_bd_mono {N M : Nat} {l : List Value} (h : mi_bd N l) (hm : N ≤ M) : mi_bd M l := fun a ha => Nat.lt_of_lt_of_le (h a ha) hm
theorem mi_bd_set {N : Nat} {v : Value} {l : List Value} {i : Nat} (h : mi_bd N l) (hv : ∀ a, v = .ref a → a < N) : mi_bd N (l.set i v) := by
  intro a ha
  rcases List.mem_or_eq_of_mem_set ha with e | e
  · exact h a e
  · exact hv a e.symm
theorem mi_bd_kill {N : Nat} {l : List Value} {i : Nat} (h : mi_bd N l) : mi_bd N (mi_kill l i) := by
  cases i with
  | zero => exact h
  | succ j =>
    rw [mi_kill_succ]
    split
    · exact mi_bd_set h (fun a e => by cases e)
    · exact h
theorem mi_bd_st1 {N : Nat} {v : Value} {l : List Value} {i : Nat} (h : mi_bd N l) (hv : ∀ a, v = .ref a → a < N) : mi_bd N (mi_st1 l i v) := mi_bd_set (mi_bd_kill h) hv
theorem mi_bd_st2 {N : Nat} {v : Value} {l : List Value} {i : Nat} (h : mi_bd N l) (hv : ∀ a, v = .ref a → a < N) : mi_bd N (mi_st2 l i v) := mi_bd_set (mi_bd_set (mi_bd_kill h) hv) (fun a e => by cases e)
theorem mi_bd_ld {N : Nat} {l : List Value} {i a : Nat} (h : mi_bd N l) (hv : mi_ld l i = .ref a) : a < N := h a (List.mem_of_getElem? (mi_ld_some hv (fun q => by cases q)))
theorem mi_rv_eq {N : Nat} {ad ad' : Nat → Nat} {v : Value} (hv : ∀ a, v = .ref a → a < N) (h : ∀ b, b < N → ad' b = ad b) : mi_rv ad' v = mi_rv ad v := by
  cases v with
  | ref a => show Value.ref (ad' a) = Value.ref (ad a); rw [h a (hv a rfl)]
  | _ => rfl
theorem mi_rv_map {N : Nat} {ad ad' : Nat → Nat} {l : List Value} (hl : mi_bd N l) (h : ∀ b, b < N → ad' b = ad b) : l.map (mi_rv ad') = l.map (mi_rv ad) :=
  List.map_congr_left (fun v hv => mi_rv_eq (fun a e => hl a (by rw [← e]; exact hv)) h)
theorem mi_LR.ext {N : Nat} {ad ad' : Nat → Nat} {nL : Nat} {ls : Array Slot} {L : List Value} (h : mi_LR ad nL ls L) (hl : mi_bd N L) (ha : ∀ b, b < N → ad' b = ad b) : mi_LR ad' nL ls L :=
  ⟨h.1, h.2.1, h.2.2.1, fun i v hi hv => by rw [mi_rv_eq (fun a e => hl a (by rw [← e]; exact List.mem_of_getElem? hi)) ha]; exact h.2.2.2 i v hi hv⟩
set_option maxHeartbeats 4000000 in
theorem mi_pure_bd {N own len pc pc' : Nat} {ins : Instr} {L L' st st' : List Value} (hp : mi_pure own ins len pc L st = some (pc', L', st')) (hL : mi_bd N L) (hs : mi_bd N st) : mi_bd N L' ∧ mi_bd N st' := by
  have hi : ∀ x : Int32, ∀ a, Value.int x = .ref a → a < N := fun x a e => by cases e
  have hl : ∀ x : Int64, ∀ a, Value.long x = .ref a → a < N := fun x a e => by cases e
  cases ins with
  | iconst n =>
    simp only [mi_pure] at hp
    repeat' (first | (cases hp; done) | split at hp)
    all_goals cases hp
    all_goals exact ⟨hL, mi_bd_cons.mpr ⟨hi _, hs⟩⟩
  | bipush n =>
    simp only [mi_pure] at hp
    repeat' (first | (cases hp; done) | split at hp)
    all_goals cases hp
    all_goals exact ⟨hL, mi_bd_cons.mpr ⟨hi _, hs⟩⟩
  | sipush n =>
    simp only [mi_pure] at hp
    repeat' (first | (cases hp; done) | split at hp)
    all_goals cases hp
    all_goals exact ⟨hL, mi_bd_cons.mpr ⟨hi _, hs⟩⟩
  | lconst n =>
    simp only [mi_pure] at hp
    repeat' (first | (cases hp; done) | split at hp)
    all_goals cases hp
    all_goals exact ⟨hL, mi_bd_cons.mpr ⟨hl _, hs⟩⟩
  | ldc n =>
    simp only [mi_pure] at hp
    repeat' (first | (cases hp; done) | split at hp)
    all_goals cases hp
    all_goals exact ⟨hL, mi_bd_cons.mpr ⟨hi _, hs⟩⟩
  | ldc2_w n =>
    simp only [mi_pure] at hp
    repeat' (first | (cases hp; done) | split at hp)
    all_goals cases hp
    all_goals exact ⟨hL, mi_bd_cons.mpr ⟨hl _, hs⟩⟩
  | iload_n k =>
    simp only [mi_pure] at hp
    repeat' (first | (cases hp; done) | split at hp)
    all_goals cases hp
    all_goals exact ⟨hL, mi_bd_cons.mpr ⟨hi _, hs⟩⟩
  | lload_n k =>
    simp only [mi_pure] at hp
    repeat' (first | (cases hp; done) | split at hp)
    all_goals cases hp
    all_goals exact ⟨hL, mi_bd_cons.mpr ⟨hl _, hs⟩⟩
  | aload_n k =>
    simp only [mi_pure] at hp
    repeat' (first | (cases hp; done) | split at hp)
    all_goals cases hp
    all_goals exact ⟨hL, mi_bd_cons.mpr ⟨fun a e => by cases e; exact mi_bd_ld hL (by assumption), hs⟩⟩
  | istore_n k =>
    simp only [mi_pure] at hp
    repeat' (first | (cases hp; done) | split at hp)
    all_goals cases hp
    all_goals exact ⟨mi_bd_st1 hL (hi _), (mi_bd_cons.mp hs).2⟩
  | lstore_n k =>
    simp only [mi_pure] at hp
    repeat' (first | (cases hp; done) | split at hp)
    all_goals cases hp
    all_goals exact ⟨mi_bd_st2 hL (hl _), (mi_bd_cons.mp hs).2⟩
  | iload k =>
    simp only [mi_pure] at hp
    repeat' (first | (cases hp; done) | split at hp)
    all_goals cases hp
    all_goals exact ⟨hL, mi_bd_cons.mpr ⟨hi _, hs⟩⟩
  | lload k =>
    simp only [mi_pure] at hp
    repeat' (first | (cases hp; done) | split at hp)
    all_goals cases hp
    all_goals exact ⟨hL, mi_bd_cons.mpr ⟨hl _, hs⟩⟩
  | aload k =>
    simp only [mi_pure] at hp
    repeat' (first | (cases hp; done) | split at hp)
    all_goals cases hp
    all_goals exact ⟨hL, mi_bd_cons.mpr ⟨fun a e => by cases e; exact mi_bd_ld hL (by assumption), hs⟩⟩
  | istore k =>
    simp only [mi_pure] at hp
    repeat' (first | (cases hp; done) | split at hp)
    all_goals cases hp
    all_goals exact ⟨mi_bd_st1 hL (hi _), (mi_bd_cons.mp hs).2⟩
  | lstore k =>
    simp only [mi_pure] at hp
    repeat' (first | (cases hp; done) | split at hp)
    all_goals cases hp
    all_goals exact ⟨mi_bd_st2 hL (hl _), (mi_bd_cons.mp hs).2⟩
  | astore k =>
    simp only [mi_pure] at hp
    repeat' (first | (cases hp; done) | split at hp)
    all_goals cases hp
    all_goals exact ⟨mi_bd_st1 hL (mi_bd_cons.mp hs).1, (mi_bd_cons.mp hs).2⟩
  | astore_n k =>
    simp only [mi_pure] at hp
    repeat' (first | (cases hp; done) | split at hp)
    all_goals cases hp
    all_goals exact ⟨mi_bd_st1 hL (mi_bd_cons.mp hs).1, (mi_bd_cons.mp hs).2⟩
  | iinc i n =>
    simp only [mi_pure] at hp
    repeat' (first | (cases hp; done) | split at hp)
    all_goals cases hp
    all_goals exact ⟨mi_bd_st1 hL (hi _), hs⟩
  | iadd =>
    simp only [mi_pure] at hp
    repeat' (first | (cases hp; done) | split at hp)
    all_goals cases hp
    all_goals exact ⟨hL, mi_bd_cons.mpr ⟨hi _, (mi_bd_cons.mp (mi_bd_cons.mp hs).2).2⟩⟩
  | isub =>
    simp only [mi_pure] at hp
    repeat' (first | (cases hp; done) | split at hp)
    all_goals cases hp
    all_goals exact ⟨hL, mi_bd_cons.mpr ⟨hi _, (mi_bd_cons.mp (mi_bd_cons.mp hs).2).2⟩⟩
  | imul =>
    simp only [mi_pure] at hp
    repeat' (first | (cases hp; done) | split at hp)
    all_goals cases hp
    all_goals exact ⟨hL, mi_bd_cons.mpr ⟨hi _, (mi_bd_cons.mp (mi_bd_cons.mp hs).2).2⟩⟩
  | iand =>
    simp only [mi_pure] at hp
    repeat' (first | (cases hp; done) | split at hp)
    all_goals cases hp
    all_goals exact ⟨hL, mi_bd_cons.mpr ⟨hi _, (mi_bd_cons.mp (mi_bd_cons.mp hs).2).2⟩⟩
  | ior =>
    simp only [mi_pure] at hp
    repeat' (first | (cases hp; done) | split at hp)
    all_goals cases hp
    all_goals exact ⟨hL, mi_bd_cons.mpr ⟨hi _, (mi_bd_cons.mp (mi_bd_cons.mp hs).2).2⟩⟩
  | ixor =>
    simp only [mi_pure] at hp
    repeat' (first | (cases hp; done) | split at hp)
    all_goals cases hp
    all_goals exact ⟨hL, mi_bd_cons.mpr ⟨hi _, (mi_bd_cons.mp (mi_bd_cons.mp hs).2).2⟩⟩
  | idiv =>
    simp only [mi_pure] at hp
    repeat' (first | (cases hp; done) | split at hp)
    all_goals cases hp
    all_goals exact ⟨hL, mi_bd_cons.mpr ⟨hi _, (mi_bd_cons.mp (mi_bd_cons.mp hs).2).2⟩⟩
  | irem =>
    simp only [mi_pure] at hp
    repeat' (first | (cases hp; done) | split at hp)
    all_goals cases hp
    all_goals exact ⟨hL, mi_bd_cons.mpr ⟨hi _, (mi_bd_cons.mp (mi_bd_cons.mp hs).2).2⟩⟩
  | ishl =>
    simp only [mi_pure] at hp
    repeat' (first | (cases hp; done) | split at hp)
    all_goals cases hp
    all_goals exact ⟨hL, mi_bd_cons.mpr ⟨hi _, (mi_bd_cons.mp (mi_bd_cons.mp hs).2).2⟩⟩
  | ishr =>
    simp only [mi_pure] at hp
    repeat' (first | (cases hp; done) | split at hp)
    all_goals cases hp
    all_goals exact ⟨hL, mi_bd_cons.mpr ⟨hi _, (mi_bd_cons.mp (mi_bd_cons.mp hs).2).2⟩⟩
  | lcmp =>
    simp only [mi_pure] at hp
    repeat' (first | (cases hp; done) | split at hp)
    all_goals cases hp
    all_goals exact ⟨hL, mi_bd_cons.mpr ⟨hi _, (mi_bd_cons.mp (mi_bd_cons.mp hs).2).2⟩⟩
  | ladd =>
    simp only [mi_pure] at hp
    repeat' (first | (cases hp; done) | split at hp)
    all_goals cases hp
    all_goals exact ⟨hL, mi_bd_cons.mpr ⟨hl _, (mi_bd_cons.mp (mi_bd_cons.mp hs).2).2⟩⟩
  | lsub =>
    simp only [mi_pure] at hp
    repeat' (first | (cases hp; done) | split at hp)
    all_goals cases hp
    all_goals exact ⟨hL, mi_bd_cons.mpr ⟨hl _, (mi_bd_cons.mp (mi_bd_cons.mp hs).2).2⟩⟩
  | lmul =>
    simp only [mi_pure] at hp
    repeat' (first | (cases hp; done) | split at hp)
    all_goals cases hp
    all_goals exact ⟨hL, mi_bd_cons.mpr ⟨hl _, (mi_bd_cons.mp (mi_bd_cons.mp hs).2).2⟩⟩
  | land =>
    simp only [mi_pure] at hp
    repeat' (first | (cases hp; done) | split at hp)
    all_goals cases hp
    all_goals exact ⟨hL, mi_bd_cons.mpr ⟨hl _, (mi_bd_cons.mp (mi_bd_cons.mp hs).2).2⟩⟩
  | lor =>
    simp only [mi_pure] at hp
    repeat' (first | (cases hp; done) | split at hp)
    all_goals cases hp
    all_goals exact ⟨hL, mi_bd_cons.mpr ⟨hl _, (mi_bd_cons.mp (mi_bd_cons.mp hs).2).2⟩⟩
  | lxor =>
    simp only [mi_pure] at hp
    repeat' (first | (cases hp; done) | split at hp)
    all_goals cases hp
    all_goals exact ⟨hL, mi_bd_cons.mpr ⟨hl _, (mi_bd_cons.mp (mi_bd_cons.mp hs).2).2⟩⟩
  | ldiv =>
    simp only [mi_pure] at hp
    repeat' (first | (cases hp; done) | split at hp)
    all_goals cases hp
    all_goals exact ⟨hL, mi_bd_cons.mpr ⟨hl _, (mi_bd_cons.mp (mi_bd_cons.mp hs).2).2⟩⟩
  | lrem =>
    simp only [mi_pure] at hp
    repeat' (first | (cases hp; done) | split at hp)
    all_goals cases hp
    all_goals exact ⟨hL, mi_bd_cons.mpr ⟨hl _, (mi_bd_cons.mp (mi_bd_cons.mp hs).2).2⟩⟩
  | lshl =>
    simp only [mi_pure] at hp
    repeat' (first | (cases hp; done) | split at hp)
    all_goals cases hp
    all_goals exact ⟨hL, mi_bd_cons.mpr ⟨hl _, (mi_bd_cons.mp (mi_bd_cons.mp hs).2).2⟩⟩
  | lshr =>
    simp only [mi_pure] at hp
    repeat' (first | (cases hp; done) | split at hp)
    all_goals cases hp
    all_goals exact ⟨hL, mi_bd_cons.mpr ⟨hl _, (mi_bd_cons.mp (mi_bd_cons.mp hs).2).2⟩⟩
  | lushr =>
    simp only [mi_pure] at hp
    repeat' (first | (cases hp; done) | split at hp)
    all_goals cases hp
    all_goals exact ⟨hL, mi_bd_cons.mpr ⟨hl _, (mi_bd_cons.mp (mi_bd_cons.mp hs).2).2⟩⟩
  | lneg =>
    simp only [mi_pure] at hp
    repeat' (first | (cases hp; done) | split at hp)
    all_goals cases hp
    all_goals exact ⟨hL, mi_bd_cons.mpr ⟨hl _, (mi_bd_cons.mp hs).2⟩⟩
  | i2l =>
    simp only [mi_pure] at hp
    repeat' (first | (cases hp; done) | split at hp)
    all_goals cases hp
    all_goals exact ⟨hL, mi_bd_cons.mpr ⟨hl _, (mi_bd_cons.mp hs).2⟩⟩
  | l2i =>
    simp only [mi_pure] at hp
    repeat' (first | (cases hp; done) | split at hp)
    all_goals cases hp
    all_goals exact ⟨hL, mi_bd_cons.mpr ⟨hi _, (mi_bd_cons.mp hs).2⟩⟩
  | dup =>
    simp only [mi_pure] at hp
    repeat' (first | (cases hp; done) | split at hp)
    all_goals cases hp
    all_goals exact ⟨hL, mi_bd_cons.mpr ⟨(mi_bd_cons.mp hs).1, hs⟩⟩
  | pop =>
    simp only [mi_pure] at hp
    repeat' (first | (cases hp; done) | split at hp)
    all_goals cases hp
    all_goals exact ⟨hL, (mi_bd_cons.mp hs).2⟩
  | dup_x1 =>
    simp only [mi_pure] at hp
    repeat' (first | (cases hp; done) | split at hp)
    all_goals cases hp
    all_goals exact ⟨hL, mi_bd_cons.mpr ⟨(mi_bd_cons.mp hs).1, mi_bd_cons.mpr ⟨(mi_bd_cons.mp (mi_bd_cons.mp hs).2).1, mi_bd_cons.mpr ⟨(mi_bd_cons.mp hs).1, (mi_bd_cons.mp (mi_bd_cons.mp hs).2).2⟩⟩⟩⟩
  | dup2 =>
    simp only [mi_pure] at hp
    repeat' (first | (cases hp; done) | split at hp)
    all_goals cases hp
    all_goals exact ⟨hL, mi_bd_cons.mpr ⟨(mi_bd_cons.mp hs).1, mi_bd_cons.mpr ⟨(mi_bd_cons.mp (mi_bd_cons.mp hs).2).1, hs⟩⟩⟩
  | ifCond c off =>
    simp only [mi_pure] at hp
    repeat' (first | (cases hp; done) | split at hp)
    all_goals cases hp
    all_goals exact ⟨hL, (mi_bd_cons.mp hs).2⟩
  | if_icmp c off =>
    simp only [mi_pure] at hp
    repeat' (first | (cases hp; done) | split at hp)
    all_goals cases hp
    all_goals exact ⟨hL, (mi_bd_cons.mp (mi_bd_cons.mp hs).2).2⟩
  | goto off =>
    simp only [mi_pure] at hp
    repeat' (first | (cases hp; done) | split at hp)
    all_goals cases hp
    all_goals exact ⟨hL, hs⟩
  | tableswitch d lo hi_ offs =>
    simp only [mi_pure] at hp
    repeat' (first | (cases hp; done) | split at hp)
    all_goals cases hp
    all_goals exact ⟨hL, (mi_bd_cons.mp hs).2⟩
  | lookupswitch d ps =>
    simp only [mi_pure] at hp
    repeat' (first | (cases hp; done) | split at hp)
    all_goals cases hp
    all_goals exact ⟨hL, (mi_bd_cons.mp hs).2⟩
  | _ => exact absurd (show (none : Option (Nat × List Value × List Value)) = some _ from hp) (fun h => by cases h)
