/-! THE PURE SPECIFICATION: what each call answers and what it leaves, over the model's lasting cells -/
def bI (b : Prop) [Decidable b] : Int32 := if b then 1 else 0
theorem bI_1 {P : Prop} [Decidable P] (h : P) : bI P = 1 := if_pos h
theorem bI_0 {P : Prop} [Decidable P] (h : ¬ P) : bI P = 0 := if_neg h
theorem bI_br {P : Prop} [Decidable P] {A B : Prop} (h0 : ¬ P → A) (h1 : P → B) : (bI P = 0 → A) ∧ (¬ bI P = 0 → B) := by
  by_cases h : P
  · rw [bI_1 h]; exact ⟨fun q => absurd q (by decide), fun _ => h1 h⟩
  · rw [bI_0 h]; exact ⟨fun _ => h0 h, fun q => absurd rfl q⟩
theorem bI_br1 {P : Prop} [Decidable P] {A B : Prop} (h1 : P → A) (h0 : ¬ P → B) : (bI P = 1 → A) ∧ (¬ bI P = 1 → B) := by
  by_cases h : P
  · rw [bI_1 h]; exact ⟨fun _ => h1 h, fun q => absurd rfl q⟩
  · rw [bI_0 h]; exact ⟨fun q => absurd q (by decide), fun _ => h0 h⟩
theorem bI_01 {P : Prop} [Decidable P] : bI P = 0 ∨ bI P = 1 := by
  by_cases h : P
  · exact Or.inr (bI_1 h)
  · exact Or.inl (bI_0 h)
theorem bI_iff {P R : Prop} [Decidable P] [Decidable R] (h : P ↔ R) : bI P = bI R := by
  by_cases h2 : P
  · rw [bI_1 h2, bI_1 (h.mp h2)]
  · rw [bI_0 h2, bI_0 (fun q => h2 (h.mpr q))]
/-- the branches of a test with the answer known -/
theorem br0 {A B : Prop} (h : A) : ((0 : Int32) = 0 → A) ∧ (¬ (0 : Int32) = 0 → B) := ⟨fun _ => h, fun q => absurd rfl q⟩
theorem br1 {A B : Prop} (h : B) : ((1 : Int32) = 0 → A) ∧ (¬ (1 : Int32) = 0 → B) := ⟨fun q => absurd q (by decide), fun _ => h⟩
theorem brN {c : Int32} {A B : Prop} (hc : ¬ c = 0) (h : B) : (c = 0 → A) ∧ (¬ c = 0 → B) := ⟨fun q => absurd q hc, fun _ => h⟩
theorem brT {P A B : Prop} (hp : P) (h : A) : (P → A) ∧ (¬ P → B) := ⟨fun _ => h, fun q => absurd hp q⟩
theorem brF {P A B : Prop} (hp : ¬ P) (h : B) : (P → A) ∧ (¬ P → B) := ⟨fun q => absurd q hp, fun _ => h⟩
abbrev inR (p m : Int32) : Prop := ¬ p < 0 ∧ p < m
theorem inR_nI {p : Int32} {n : Nat} (hn : n < 2 ^ 31) : inR p (nI n) ↔ ∃ j, j < n ∧ p = nI j :=
  ⟨fun h => isN_of hn h.1 h.2, fun h => isN_pos hn h⟩
theorem inR_j {j n : Nat} (h : j < n) (hn : n < 2 ^ 31) : inR (nI j) (nI n) := (inR_nI hn).mpr ⟨j, h, rfl⟩
/-- a row of steps -/
def itN {α : Type} (f : Nat → α → α) (a : α) : Nat → α
  | 0 => a
  | n + 1 => f n (itN f a n)
theorem itN_congr {α : Type} {f g : Nat → α → α} {a : α} {n : Nat} (h : ∀ i, i < n → ∀ x, f i x = g i x) : itN f a n = itN g a n := by
  induction n with
  | zero => rfl
  | succ n ih =>
    show f n (itN f a n) = g n (itN g a n)
    rw [ih (fun i hi => h i (by omega)), h n (by omega)]
theorem up_ind {n : Nat} {P : Nat → Prop} (hn : P n) (hs : ∀ i, i < n → P (i + 1) → P i) {i : Nat} (hi : i ≤ n) : P i := by
  obtain ⟨k, hk⟩ : ∃ k, n - i = k := ⟨_, rfl⟩
  induction k generalizing i with
  | zero => rw [show i = n from by omega]; exact hn
  | succ k ih => exact hs i (by omega) (ih (by omega) (by omega))
/-! writing into rows -/
def rowA (δ : mi_D) (a : Nat) (f : Nat → Int32) : mi_D := (δ.1, fun x => if x = a then f else δ.2.1 x, δ.2.2)
def rowL (δ : mi_D) (a : Nat) (f : Nat → Int64) : mi_D := (δ.1, δ.2.1, fun x => if x = a then f else δ.2.2 x)
def up1 {α : Type} (f : Nat → α) (k : Nat) (v : α) : Nat → α := fun j => if j = k then v else f j
def wrN {α : Type} (f : Nat → α) (p n : Nat) (g : Nat → α) : Nat → α := fun j => if p ≤ j ∧ j < p + n then g (j - p) else f j
theorem wrN_0 {α : Type} (f : Nat → α) (p : Nat) (g : Nat → α) : wrN f p 0 g = f := funext fun j => if_neg (by omega)
theorem wrN_s {α : Type} (f : Nat → α) (p n : Nat) (g : Nat → α) : up1 (wrN f p n g) (p + n) (g n) = wrN f p (n + 1) g := by
  funext j
  unfold up1 wrN
  by_cases h : j = p + n
  · subst h
    rw [if_pos rfl, if_pos (by omega)]
    congr 1
    omega
  · rw [if_neg h]
    by_cases h2 : p ≤ j ∧ j < p + n
    · rw [if_pos h2, if_pos (by omega)]
    · rw [if_neg h2, if_neg (by omega)]
theorem wrN_congr {α : Type} {f g g' : Nat → α} {p n : Nat} (h : ∀ i, i < n → g i = g' i) : wrN f p n g = wrN f p n g' := by
  funext j
  unfold wrN
  split
  · exact h _ (by omega)
  · rfl
theorem setA_row (δ : mi_D) (a k : Nat) (v : Int32) : mi_setA δ a k v = rowA δ a (up1 (δ.2.1 a) k v) := by
  unfold mi_setA rowA up1
  refine Prod.ext rfl (Prod.ext ?_ rfl)
  funext x j
  dsimp only
  by_cases h : x = a
  · subst h
    by_cases h2 : j = k <;> simp [h2]
  · simp [h]
theorem setL_row (δ : mi_D) (a k : Nat) (v : Int64) : mi_setL δ a k v = rowL δ a (up1 (δ.2.2 a) k v) := by
  unfold mi_setL rowL up1
  refine Prod.ext rfl (Prod.ext rfl ?_)
  funext x j
  dsimp only
  by_cases h : x = a
  · subst h
    by_cases h2 : j = k <;> simp [h2]
  · simp [h]
/-! numbers as bytes, checks -/
def encU : Nat → UInt64 → List Int32
  | 0, _ => []
  | k + 1, z => if z >>> 7 = 0 then [z.toInt64.toInt32] else ((z &&& 127).toInt64.toInt32 ||| 128) :: encU k (z >>> 7)
def zig (v : Int64) : Int64 := if v < 0 then (-2) * v - 1 else 2 * v
def enc (v : Int64) : List Int32 := encU 10 (zig v).toUInt64
def encI (v : Int32) : List Int32 := enc (Int32.toInt64 v)
def chk8 : Nat → Int32 → Int32
  | 0, c => c
  | n + 1, c => chk8 n (if (c &&& 32768) = 0 then c <<< (1 &&& 31) else (c <<< (1 &&& 31)) ^^^ 4129)
def chk (c b : Int32) : Int32 := chk8 8 (c ^^^ (b <<< (8 &&& 31))) &&& 65535
def chkL (c : Int32) (l : List Int32) : Int32 := l.foldl chk c
def recd (what : Int32) (B : List Int32) : List Int32 :=
  nI B.length :: what :: (B ++ [chkL 65535 (nI B.length :: what :: B) >>> (8 &&& 31), chkL 65535 (nI B.length :: what :: B) &&& 255])
/-! counts -/
def nN (s : mi_D) (k : Nat) : Nat := (s.1 48 k).toNatClampNeg
def wfn (s : mi_D) (k m : Nat) : Prop := s.1 48 k = nI (nN s k) ∧ nN s k ≤ m
abbrev room (s : mi_D) (B : List Int32) : Prop := ¬ s.1 48 1 = 0 ∨ nN s 30 + B.length + 4 ≤ 6000
def jot (s : mi_D) (what : Int32) (B : List Int32) : mi_D :=
  if s.1 48 1 = 0 then mi_setI (rowA (mi_setI s 48 32 (s.1 48 32 + 1)) 70 (wrN (s.2.1 70) (nN s 30) (B.length + 4) (fun i => (recd what B).getD i 0))) 48 30 (nI (nN s 30 + (B.length + 4)))
  else mi_setI s 48 32 (s.1 48 32 + 1)
def gate (s : mi_D) (rf what ans : Int32) (B : List Int32) (s' : mi_D) : Int32 × mi_D :=
  if s.1 48 0 = 0 then (-6, s) else if ¬ rf = 0 then (rf, s) else if room s B then (ans, jot s' what B) else (-13, s)
/-! accounts, periods, the owner -/
abbrev isAc (s : mi_D) (p : Int32) : Prop := inR p (s.1 48 2)
abbrev isLf (s : mi_D) (p : Int32) : Prop := isAc s p ∧ mi_at s 52 p = 0
def rf_account (s : mi_D) (c k p : Int32) : Int32 :=
  if ¬ p = -1 ∧ ¬ isAc s p then -2 else
  if c < 1 ∨ 9999 < c ∨ k < 0 ∨ ¬ k < 5 then -3 else
  if ¬ p = -1 ∧ ¬ (mi_at s 52 p = 1 ∧ mi_at s 50 p = k ∧ mi_at s 53 p < 5) then -4 else
  if ∃ j, j < nN s 2 ∧ s.2.1 49 j = c then -5 else if s.1 48 2 < 60 then 0 else -13
def do_account (s : mi_D) (c k p g : Int32) : mi_D :=
  mi_setI (mi_setL (mi_setA (mi_setA (mi_setA (mi_setA (mi_setA (mi_setA s 49 (nN s 2) c) 50 (nN s 2) k) 51 (nN s 2) p) 52 (nN s 2) (bI (¬ g = 0))) 53 (nN s 2) (if p = -1 then 0 else mi_at s 53 p + 1)) 54 (nN s 2) 0) 55 (nN s 2) 0) 48 2 (s.1 48 2 + 1)
def A_account (s : mi_D) (c k p g : Int32) : Int32 × mi_D :=
  gate s (rf_account s c k p) 1 (s.1 48 2) (encI c ++ encI k ++ encI p ++ encI (bI (¬ g = 0))) (do_account s c k p g)
def rf_shut (s : mi_D) (a on : Int32) : Int32 :=
  if ¬ isAc s a then -2 else if ¬ mi_at s 52 a = 0 then -4 else if bI (mi_at s 54 a = 1) = on then -6 else 0
def do_shut (s : mi_D) (a on : Int32) : mi_D := mi_setA s 54 a.toNatClampNeg (bI (¬ on = 0))
def A_shut (s : mi_D) (a on : Int32) : Int32 × mi_D :=
  gate s (rf_shut s a on) 2 (bI (on = 0)) (encI a ++ encI (bI (¬ on = 0))) (do_shut s a on)
def fday (s : mi_D) (p : Int32) : Int32 := if p = 0 then 0 else mi_at s 56 (p - 1) + 1
def rf_period (s : mi_D) (d : Int32) : Int32 :=
  if d < fday s (s.1 48 11) ∨ 9999 < d then -3 else if s.1 48 11 < 24 then 0 else -13
def do_period (s : mi_D) (d : Int32) : mi_D := mi_setI (mi_setA (mi_setA s 56 (nN s 11) d) 57 (nN s 11) (-1)) 48 11 (s.1 48 11 + 1)
def A_period (s : mi_D) (d : Int32) : Int32 × mi_D := gate s (rf_period s d) 3 (s.1 48 11) (encI d) (do_period s d)
def rf_owner (s : mi_D) (a : Int32) : Int32 := if ¬ isAc s a then -2 else if mi_at s 52 a = 0 ∧ mi_at s 50 a = 2 then 0 else -4
def A_owner (s : mi_D) (a : Int32) : Int32 × mi_D := gate s (rf_owner s a) 4 (s.1 48 10) (encI a) (mi_setI s 48 10 a)
/-! lines -/
abbrev Ln : Type := Nat × (Nat → Int32) × (Nat → Int64)
abbrev wtn (v m : Int64) : Prop := ¬ v < -m ∧ ¬ m < v
def sumL (l : Ln) : Int64 := itN (fun i t => t + l.2.2 i) 0 l.1
def tot (l : Ln) (a : Int32) : Int64 := itN (fun i t => if l.2.1 i = a then t + l.2.2 i else t) 0 l.1
abbrev over (s : mi_D) (l : Ln) : Prop := ∃ i, i < l.1 ∧ ¬ wtn (mi_al s 55 (l.2.1 i) + tot l (l.2.1 i)) 10000000000000000
def pAt (s : mi_D) (d : Int32) : Nat → Int32
  | 0 => -1
  | n + 1 => if ¬ pAt s d n = -1 then pAt s d n else if ¬ d < 0 ∧ ¬ s.2.1 56 n < d then nI n else -1
def rf_unj (s : mi_D) (l : Ln) : Int32 := if over s l then -12 else if 0 < l.1 ∧ ¬ s.1 48 15 < 400 then -13 else 0
def rf_judge (s : mi_D) (l : Ln) (d : Int32) : Int32 :=
  if l.1 < 2 then -7 else if ¬ sumL l = 0 then -8 else if pAt s d (nN s 11) = -1 then -9 else
  if pAt s d (nN s 11) < s.1 48 12 then -10 else if ∃ i, i < l.1 ∧ mi_at s 54 (l.2.1 i) = 1 then -11 else rf_unj s l
def fromN (s : mi_D) (e : Nat) : Nat := (s.2.1 61 e).toNatClampNeg
def do_enter (s : mi_D) (l : Ln) (d t so of : Int32) : mi_D :=
  mi_setI (rowL (rowL (rowA (mi_setA (mi_setA (mi_setA (mi_setA (mi_setA (mi_setA s 58 (nN s 15) d) 59 (nN s 15) t) 60 (nN s 15) so) 62 (nN s 15) (-1)) 63 (nN s 15) of) 61 (nN s 15 + 1) (nI (fromN s (nN s 15) + l.1)))
    64 (wrN (s.2.1 64) (fromN s (nN s 15)) l.1 l.2.1)) 65 (wrN (s.2.2 65) (fromN s (nN s 15)) l.1 l.2.2))
    55 (itN (fun i b => up1 b (l.2.1 i).toNatClampNeg (b (l.2.1 i).toNatClampNeg + l.2.2 i)) (s.2.2 55) l.1)) 48 15 (s.1 48 15 + 1)
def encLs (l : Ln) : List Int32 := itN (fun i B => B ++ (encI (l.2.1 i) ++ enc (l.2.2 i))) [] l.1
def A_posted (s : mi_D) (l : Ln) (d t : Int32) : Int32 × mi_D :=
  gate s (rf_judge s l d) 5 (s.1 48 15) (encI d ++ encI t ++ encI (nI l.1) ++ encLs l) (do_enter s l d t 0 (-1))
def draftL (s : mi_D) : Ln := (nN s 24, s.2.1 66, s.2.2 67)
def undraft (x : Int32 × mi_D) : Int32 × mi_D := if x.1 < 0 then x else (x.1, mi_setI x.2 48 24 0)
def A_post (s : mi_D) (d t : Int32) : Int32 × mi_D := undraft (A_posted s (draftL s) d t)
def rf_line (s : mi_D) (a : Int32) (v : Int64) : Int32 :=
  if ¬ isAc s a then -2 else if v = 0 ∨ ¬ wtn v 1000000000000000 then -3 else if mi_at s 52 a = 0 then 0 else -4
def A_line (s : mi_D) (a : Int32) (v : Int64) : Int32 × mi_D :=
  if s.1 48 0 = 0 then (-6, s) else if ¬ rf_line s a v = 0 then (rf_line s a v, s) else if ¬ s.1 48 24 < 8 then (-13, s)
  else (s.1 48 24 + 1, mi_setI (mi_setL (mi_setA s 66 (nN s 24) a) 67 (nN s 24) v) 48 24 (s.1 48 24 + 1))
def A_drop (s : mi_D) : Int32 × mi_D := if s.1 48 0 = 0 then (-6, s) else (s.1 48 24, mi_setI s 48 24 0)
def entL (s : mi_D) (e : Nat) : Ln := (fromN s (e + 1) - fromN s e, fun i => s.2.1 64 (fromN s e + i), fun i => s.2.2 65 (fromN s e + i))
def negL (l : Ln) : Ln := (l.1, l.2.1, fun i => - l.2.2 i)
def rf_back (s : mi_D) (e d : Int32) : Int32 :=
  if ¬ inR e (s.1 48 15) then -2 else if ¬ mi_at s 60 e = 0 then -4 else if ¬ mi_at s 62 e = -1 then -5 else rf_judge s (negL (entL s e.toNatClampNeg)) d
def do_back (s : mi_D) (e d : Int32) : mi_D := mi_setA (do_enter s (negL (entL s e.toNatClampNeg)) d (mi_at s 59 e) 1 e) 62 e.toNatClampNeg (s.1 48 15)
def A_back (s : mi_D) (e d : Int32) : Int32 × mi_D := gate s (rf_back s e d) 6 (s.1 48 15) (encI e ++ encI d) (do_back s e d)
/-! closing: by codes -/
def ins (f : Nat → Int32) (x : Nat) : List Nat → List Nat
  | [] => [x]
  | b :: l => if f x < f b then x :: b :: l else b :: ins f x l
def ordN (f : Nat → Int32) : Nat → List Nat
  | 0 => []
  | n + 1 => ins f n (ordN f n)
def sumE (s : mi_D) (a d1 d2 : Int32) : Nat → Int64 := itN (fun e t => if ¬ s.2.1 58 e < d1 ∧ ¬ d2 < s.2.1 58 e then t + tot (entL s e) a else t) 0
def sumD (s : mi_D) (a d1 d2 : Int32) : Int64 := sumE s a d1 d2 (nN s 15)
def addL (l : Ln) (a : Int32) (v : Int64) : Ln := (l.1 + 1, up1 l.2.1 l.1 a, up1 l.2.2 l.1 v)
def clsL (s : mi_D) (d1 d2 : Int32) (bl : List Nat) : Ln :=
  bl.foldl (fun l a => if s.2.1 52 a = 0 ∧ ¬ s.2.1 50 a < 3 ∧ ¬ sumD s (nI a) d1 d2 = 0 then addL l (nI a) (- sumD s (nI a) d1 d2) else l) (0, fun _ => 0, fun _ => 0)
def cloL (s : mi_D) (p : Int32) : Ln :=
  if sumL (clsL s (fday s p) (mi_at s 56 p) (ordN (s.2.1 49) (nN s 2))) = 0 then clsL s (fday s p) (mi_at s 56 p) (ordN (s.2.1 49) (nN s 2))
  else addL (clsL s (fday s p) (mi_at s 56 p) (ordN (s.2.1 49) (nN s 2))) (s.1 48 10) (- sumL (clsL s (fday s p) (mi_at s 56 p) (ordN (s.2.1 49) (nN s 2))))
def rf_close (s : mi_D) : Int32 := if ¬ s.1 48 12 < s.1 48 11 ∨ s.1 48 10 = -1 then -6 else rf_unj s (cloL s (s.1 48 12))
def do_close (s : mi_D) : mi_D :=
  mi_setI (if 0 < (cloL s (s.1 48 12)).1 then mi_setA (do_enter s (cloL s (s.1 48 12)) (mi_at s 56 (s.1 48 12)) 0 2 (s.1 48 12)) 57 (nN s 12) (s.1 48 15) else s) 48 12 (s.1 48 12 + 1)
def A_close (s : mi_D) : Int32 × mi_D := gate s (rf_close s) 7 (s.1 48 12) [] (do_close s)
def opnL (s : mi_D) : Ln := if mi_at s 57 (s.1 48 12 - 1) = -1 then (0, fun _ => 0, fun _ => 0) else negL (entL s (mi_at s 57 (s.1 48 12 - 1)).toNatClampNeg)
def rf_reopen (s : mi_D) : Int32 := if s.1 48 12 = 0 then -6 else rf_unj s (opnL s)
def do_reopen (s : mi_D) : mi_D :=
  mi_setI (if 0 < (opnL s).1 then mi_setA (do_enter s (opnL s) (mi_at s 56 (s.1 48 12 - 1)) 0 3 (s.1 48 12 - 1)) 57 (nN s 12 - 1) (-1) else s) 48 12 (s.1 48 12 - 1)
def A_reopen (s : mi_D) : Int32 × mi_D := gate s (rf_reopen s) 8 (s.1 48 12 - 1) [] (do_reopen s)
