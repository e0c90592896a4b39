/-! what a run makes -/
theorem stp_rf {σ : mi_S} : mStp σ σ := Or.inl ⟨rfl, rfl⟩
theorem prim_stp {pk : Nat} {st st' : List Value} {σ σ' : mi_S} (e : mi_prim pk st σ = some (st', σ')) : mStp σ σ' := by
  unfold mi_prim at e
  repeat' (split at e)
  all_goals first
    | (cases e; exact stp_rf)
    | (cases e; done)
    | (cases e; exact Or.inl ⟨rfl, rfl⟩)
    | skip
  all_goals first
    | (rename_i h; cases e; exact Or.inr (Or.inr (Or.inr (Or.inr ⟨_, 3, _, Or.inl rfl, h.1, h.2.1, rfl, rfl⟩))))
    | (rename_i h; cases e; exact Or.inr (Or.inr (Or.inr (Or.inr ⟨_, 6, _, Or.inr rfl, h.1, h.2.1, rfl, rfl⟩))))
    | (rename_i h1 h2; cases e; exact Or.inr (Or.inr (Or.inl ⟨_, _, Or.inl h1.1, h1.2, fun q => h2 (Or.inr q), rfl, rfl⟩)))
    | (rename_i h1 h2; cases e; exact Or.inr (Or.inr (Or.inl ⟨_, _, Or.inr h1.1, h1.2, fun q => h2 (Or.inr q), rfl, rfl⟩)))
theorem heap_stp {own ini d len : Nat} {ins : Instr} {st st' : List Value} {σ σ' : mi_S} (e : mi_heap own ini d ins len st σ = some (st', σ')) : mStp σ σ' := by
  unfold mi_heap at e
  repeat' (split at e)
  all_goals first
    | exact prim_stp e
    | (cases e; exact stp_rf)
    | (cases e; done)
    | (cases e; exact Or.inl ⟨rfl, rfl⟩)
    | skip
  all_goals first
    | (rename_i h; cases e; exact Or.inr (Or.inl ⟨_, _, _, h.1, rfl, rfl⟩))
    | (rename_i h _; cases e; exact Or.inr (Or.inl ⟨_, _, _, h.1, rfl, rfl⟩))
    | (rename_i h _ _; cases e; exact Or.inr (Or.inl ⟨_, _, _, h.1, rfl, rfl⟩))
    | (rename_i h _ _ _; cases e; exact Or.inr (Or.inl ⟨_, _, _, h.1, rfl, rfl⟩))
    | (cases e; exact Or.inr (Or.inr (Or.inr (Or.inl ⟨_, 0, _, _, Nat.le_add_right _ _, fun q => q.2 rfl, rfl, rfl⟩))))
    | (cases e; exact Or.inr (Or.inr (Or.inr (Or.inl ⟨20, _, _, _, by rw [if_pos (by decide)]; exact Nat.le_add_left _ _, fun q => absurd q.1 (by decide), rfl, rfl⟩))))
    | (cases e; exact Or.inr (Or.inr (Or.inr (Or.inl ⟨21, _, _, _, by rw [if_pos (by decide)]; exact Nat.le_add_left _ _, fun q => absurd q.1 (by decide), rfl, rfl⟩))))
    | (cases e; exact Or.inr (Or.inr (Or.inr (Or.inl ⟨22, _, _, _, by rw [if_pos (by decide)]; exact Nat.le_add_left _ _, fun q => absurd q.1 (by decide), rfl, rfl⟩))))
theorem run_cI : ∀ (n d y pc : Nat) (L st : List Value) (σ : mi_S) (v : Option Value) (σ' : mi_S), mi_run n d y pc L st σ = some (v, σ') → cI σ.1 σ.2.2 → cI σ'.1 σ'.2.2 := by
  intro n
  induction n with
  | zero => intro d y pc L st σ v σ' e; cases e
  | succ n ih =>
    intro d y pc L st σ v σ' e I
    unfold mi_run at e
    split at e
    · cases e
    · split at e
      · exact ih _ _ _ _ _ _ _ _ e I
      · split at e
        · next h => exact ih _ _ _ _ _ _ _ _ e (stp_cI (heap_stp h) I)
        · split at e
          · split at e
            · cases e
            · split at e
              · next h => exact ih _ _ _ _ _ _ _ _ e (ih _ _ _ _ _ _ _ _ h I)
              · cases e
          · split at e
            · cases e; exact I
            · cases e
