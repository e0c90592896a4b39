theorem mi_ne {n lim : Nat} (h : n = lim + 1) : n ≠ 0 := by omega
section MX
variable {d y pc : Nat} {L st r : List Value} {g : mi_G} {δ : mi_D} {Q : Option Value → mi_G → mi_D → Prop} {cc : ByteArray} {own : Nat}
theorem ms_pure (hB : mi_B y = cc) (ho : mi_O y = own) {ins : Instr} {len pc' : Nat} {L' st' : List Value} (hd : decode cc pc = .ok (ins, len)) (hp : mi_pure own ins len pc L st = some (pc', L', st')) (k : mi_wpG d y pc' L' st' g δ Q) : mi_wpG d y pc L st g δ Q := by
  subst hB
  subst ho
  exact mr_pure hd hp k
theorem ms_swd (hB : mi_B y = cc) {dflt lo hi : Int} {offs : Array Int} {len t : Nat} {x : Int32} (hd : decode cc pc = .ok (.tableswitch dflt lo hi offs, len)) (h : x.toInt < lo ∨ hi < x.toInt) (ht : mi_tgt pc dflt = some t) (k : mi_wpG d y t L r g δ Q) : mi_wpG d y pc L (.int x :: r) g δ Q := by
  subst hB
  exact mr_pure hd (by unfold mi_pure; dsimp only; rw [if_pos h, ht]) k
theorem ms_idiv (hB : mi_B y = cc) {x z : Int32} (hd : decode cc pc = .ok (.idiv, 1)) (hz : ¬ z = 0) (k : mi_wpG d y (pc + 1) L (.int (x / z) :: r) g δ Q) : mi_wpG d y pc L (.int z :: .int x :: r) g δ Q := by
  subst hB
  exact mr_pure hd (by unfold mi_pure; dsimp only; rw [if_pos rfl, if_neg hz]) k
theorem ms_irem (hB : mi_B y = cc) {x z : Int32} (hd : decode cc pc = .ok (.irem, 1)) (hz : ¬ z = 0) (k : mi_wpG d y (pc + 1) L (.int (x - x / z * z) :: r) g δ Q) : mi_wpG d y pc L (.int z :: .int x :: r) g δ Q := by
  subst hB
  exact mr_pure hd (by unfold mi_pure; dsimp only; rw [if_pos rfl, if_neg hz]) k
theorem ms_ldiv (hB : mi_B y = cc) {x z : Int64} (hd : decode cc pc = .ok (.ldiv, 1)) (hz : ¬ z = 0) (k : mi_wpG d y (pc + 1) L (.long (x / z) :: r) g δ Q) : mi_wpG d y pc L (.long z :: .long x :: r) g δ Q := by
  subst hB
  exact mr_pure hd (by unfold mi_pure; dsimp only; rw [if_pos rfl, if_neg hz]) k
theorem ms_lrem (hB : mi_B y = cc) {x z : Int64} (hd : decode cc pc = .ok (.lrem, 1)) (hz : ¬ z = 0) (k : mi_wpG d y (pc + 1) L (.long (x - x / z * z) :: r) g δ Q) : mi_wpG d y pc L (.long z :: .long x :: r) g δ Q := by
  subst hB
  exact mr_pure hd (by unfold mi_pure; dsimp only; rw [if_pos rfl, if_neg hz]) k
theorem ms_callvI {N i z n ml ko a : Nat} {as Lz : List Value} {Q1 : Int32 → mi_D → Prop} (hB : mi_B y = cc) (ho : mi_O y = own) (h1 : 1 ≤ d) (hd : decode cc pc = .ok (.invokevirtual i, 3)) (hq : mi_Q own i = none) (hC : mi_C own i = some (z, n, 0)) (hL : mi_L z = ml) (hOz : mi_O z = ko) (hpop : mi_pop n st = some (.ref a :: as, r)) (hcat : mi_cat r ≤ 8) (hlen : (lg_sl (.ref a :: as)).length ≤ ml) (hk : mi_k (mi_GG N) a = ko) (he : mi_entry (.ref a :: as) ml = Lz) (F : mi_wI N (d - 1) z 0 Lz [] δ Q1) (k : ∀ (x : Int32) (δ1 : mi_D), Q1 x δ1 → mi_wpG d y (pc + 3) L (.int x :: r) (mi_GG N) δ1 Q) : mi_wpG d y pc L st (mi_GG N) δ Q := by
  subst hL
  refine ms_call0vI hB ho h1 hd hq ?_ he F k
  unfold mi_call
  dsimp only
  rw [if_pos rfl, hC]
  dsimp only
  rw [if_pos (Or.inl ⟨rfl, rfl⟩), hpop]
  dsimp only
  rw [if_pos ⟨hcat, hlen, Or.inr (Or.inr (by unfold mi_rok; dsimp only; rw [hk, hOz]; exact decide_eq_true rfl))⟩]
theorem ms_callsI {N i z n kd ml : Nat} {as Lz : List Value} {Q1 : Int32 → mi_D → Prop} (hB : mi_B y = cc) (ho : mi_O y = own) (h1 : 1 ≤ d) (hd : decode cc pc = .ok (.invokestatic i, 3)) (hq : mi_Q own i = none) (hC : mi_C own i = some (z, n, kd)) (hL : mi_L z = ml) (hkd : kd = 1 ∨ kd = 4) (hpop : mi_pop n st = some (as, r)) (hcat : mi_cat r ≤ 8) (hlen : (lg_sl as).length ≤ ml) (he : mi_entry as ml = Lz) (F : mi_wI N (d - 1) z 0 Lz [] δ Q1) (k : ∀ (x : Int32) (δ1 : mi_D), Q1 x δ1 → mi_wpG d y (pc + 3) L (.int x :: r) (mi_GG N) δ1 Q) : mi_wpG d y pc L st (mi_GG N) δ Q := by
  subst hL
  refine ms_call0sI hB ho h1 hd hq ?_ he F k
  unfold mi_call
  dsimp only
  rw [if_pos rfl, hC]
  dsimp only
  rw [if_pos (Or.inr (Or.inl ⟨hkd, rfl⟩)), hpop]
  dsimp only
  rw [if_pos ⟨hcat, hlen, hkd.elim Or.inl (fun h => Or.inr (Or.inl h))⟩]
theorem ms_callvL {N i z n ml ko a : Nat} {as Lz : List Value} {Q1 : Int64 → mi_D → Prop} (hB : mi_B y = cc) (ho : mi_O y = own) (h1 : 1 ≤ d) (hd : decode cc pc = .ok (.invokevirtual i, 3)) (hq : mi_Q own i = none) (hC : mi_C own i = some (z, n, 0)) (hL : mi_L z = ml) (hOz : mi_O z = ko) (hpop : mi_pop n st = some (.ref a :: as, r)) (hcat : mi_cat r ≤ 8) (hlen : (lg_sl (.ref a :: as)).length ≤ ml) (hk : mi_k (mi_GG N) a = ko) (he : mi_entry (.ref a :: as) ml = Lz) (F : mi_wL N (d - 1) z 0 Lz [] δ Q1) (k : ∀ (x : Int64) (δ1 : mi_D), Q1 x δ1 → mi_wpG d y (pc + 3) L (.long x :: r) (mi_GG N) δ1 Q) : mi_wpG d y pc L st (mi_GG N) δ Q := by
  subst hL
  refine ms_call0vL hB ho h1 hd hq ?_ he F k
  unfold mi_call
  dsimp only
  rw [if_pos rfl, hC]
  dsimp only
  rw [if_pos (Or.inl ⟨rfl, rfl⟩), hpop]
  dsimp only
  rw [if_pos ⟨hcat, hlen, Or.inr (Or.inr (by unfold mi_rok; dsimp only; rw [hk, hOz]; exact decide_eq_true rfl))⟩]
theorem ms_callsL {N i z n kd ml : Nat} {as Lz : List Value} {Q1 : Int64 → mi_D → Prop} (hB : mi_B y = cc) (ho : mi_O y = own) (h1 : 1 ≤ d) (hd : decode cc pc = .ok (.invokestatic i, 3)) (hq : mi_Q own i = none) (hC : mi_C own i = some (z, n, kd)) (hL : mi_L z = ml) (hkd : kd = 1 ∨ kd = 4) (hpop : mi_pop n st = some (as, r)) (hcat : mi_cat r ≤ 8) (hlen : (lg_sl as).length ≤ ml) (he : mi_entry as ml = Lz) (F : mi_wL N (d - 1) z 0 Lz [] δ Q1) (k : ∀ (x : Int64) (δ1 : mi_D), Q1 x δ1 → mi_wpG d y (pc + 3) L (.long x :: r) (mi_GG N) δ1 Q) : mi_wpG d y pc L st (mi_GG N) δ Q := by
  subst hL
  refine ms_call0sL hB ho h1 hd hq ?_ he F k
  unfold mi_call
  dsimp only
  rw [if_pos rfl, hC]
  dsimp only
  rw [if_pos (Or.inr (Or.inl ⟨hkd, rfl⟩)), hpop]
  dsimp only
  rw [if_pos ⟨hcat, hlen, hkd.elim Or.inl (fun h => Or.inr (Or.inl h))⟩]
theorem ms_callvV {N i z n ml ko a : Nat} {as Lz : List Value} {Q1 : mi_D → Prop} (hB : mi_B y = cc) (ho : mi_O y = own) (h1 : 1 ≤ d) (hd : decode cc pc = .ok (.invokevirtual i, 3)) (hq : mi_Q own i = none) (hC : mi_C own i = some (z, n, 0)) (hL : mi_L z = ml) (hOz : mi_O z = ko) (hpop : mi_pop n st = some (.ref a :: as, r)) (hcat : mi_cat r ≤ 8) (hlen : (lg_sl (.ref a :: as)).length ≤ ml) (hk : mi_k (mi_GG N) a = ko) (he : mi_entry (.ref a :: as) ml = Lz) (F : mi_wV N (d - 1) z 0 Lz [] δ Q1) (k : ∀ (δ1 : mi_D), Q1 δ1 → mi_wpG d y (pc + 3) L r (mi_GG N) δ1 Q) : mi_wpG d y pc L st (mi_GG N) δ Q := by
  subst hL
  refine ms_call0vV hB ho h1 hd hq ?_ he F k
  unfold mi_call
  dsimp only
  rw [if_pos rfl, hC]
  dsimp only
  rw [if_pos (Or.inl ⟨rfl, rfl⟩), hpop]
  dsimp only
  rw [if_pos ⟨hcat, hlen, Or.inr (Or.inr (by unfold mi_rok; dsimp only; rw [hk, hOz]; exact decide_eq_true rfl))⟩]
theorem ms_callsV {N i z n kd ml : Nat} {as Lz : List Value} {Q1 : mi_D → Prop} (hB : mi_B y = cc) (ho : mi_O y = own) (h1 : 1 ≤ d) (hd : decode cc pc = .ok (.invokestatic i, 3)) (hq : mi_Q own i = none) (hC : mi_C own i = some (z, n, kd)) (hL : mi_L z = ml) (hkd : kd = 1 ∨ kd = 4) (hpop : mi_pop n st = some (as, r)) (hcat : mi_cat r ≤ 8) (hlen : (lg_sl as).length ≤ ml) (he : mi_entry as ml = Lz) (F : mi_wV N (d - 1) z 0 Lz [] δ Q1) (k : ∀ (δ1 : mi_D), Q1 δ1 → mi_wpG d y (pc + 3) L r (mi_GG N) δ1 Q) : mi_wpG d y pc L st (mi_GG N) δ Q := by
  subst hL
  refine ms_call0sV hB ho h1 hd hq ?_ he F k
  unfold mi_call
  dsimp only
  rw [if_pos rfl, hC]
  dsimp only
  rw [if_pos (Or.inr (Or.inl ⟨hkd, rfl⟩)), hpop]
  dsimp only
  rw [if_pos ⟨hcat, hlen, hkd.elim Or.inl (fun h => Or.inr (Or.inl h))⟩]
end MX
theorem mL_0 : mi_L 0 = 1 := rfl
theorem mL_1 : mi_L 1 = 1 := rfl
theorem mL_2 : mi_L 2 = 2 := rfl
theorem mL_3 : mi_L 3 = 2 := rfl
theorem mL_4 : mi_L 4 = 2 := rfl
theorem mL_5 : mi_L 5 = 3 := rfl
theorem mL_6 : mi_L 6 = 3 := rfl
theorem mL_7 : mi_L 7 = 3 := rfl
theorem mL_8 : mi_L 8 = 6 := rfl
theorem mL_9 : mi_L 9 = 3 := rfl
theorem mL_10 : mi_L 10 = 4 := rfl
theorem mL_11 : mi_L 11 = 6 := rfl
theorem mL_12 : mi_L 12 = 5 := rfl
theorem mL_13 : mi_L 13 = 5 := rfl
theorem mL_14 : mi_L 14 = 3 := rfl
theorem mL_15 : mi_L 15 = 1 := rfl
theorem mL_16 : mi_L 16 = 1 := rfl
theorem mL_17 : mi_L 17 = 4 := rfl
theorem mL_18 : mi_L 18 = 3 := rfl
theorem mL_19 : mi_L 19 = 2 := rfl
theorem mL_20 : mi_L 20 = 2 := rfl
theorem mL_21 : mi_L 21 = 3 := rfl
theorem mL_22 : mi_L 22 = 4 := rfl
theorem mL_23 : mi_L 23 = 4 := rfl
theorem mL_24 : mi_L 24 = 2 := rfl
theorem mL_25 : mi_L 25 = 3 := rfl
theorem mL_26 : mi_L 26 = 7 := rfl
theorem mL_27 : mi_L 27 = 7 := rfl
theorem mL_28 : mi_L 28 = 4 := rfl
theorem mL_29 : mi_L 29 = 5 := rfl
theorem mL_30 : mi_L 30 = 2 := rfl
theorem mL_31 : mi_L 31 = 5 := rfl
theorem mL_32 : mi_L 32 = 3 := rfl
theorem mL_33 : mi_L 33 = 4 := rfl
theorem mL_34 : mi_L 34 = 3 := rfl
theorem mL_35 : mi_L 35 = 3 := rfl
theorem mL_36 : mi_L 36 = 4 := rfl
theorem mL_37 : mi_L 37 = 1 := rfl
theorem mL_38 : mi_L 38 = 1 := rfl
theorem mL_39 : mi_L 39 = 2 := rfl
theorem mL_40 : mi_L 40 = 8 := rfl
theorem mL_41 : mi_L 41 = 3 := rfl
theorem mL_42 : mi_L 42 = 3 := rfl
theorem mL_43 : mi_L 43 = 4 := rfl
theorem mL_44 : mi_L 44 = 7 := rfl
theorem mL_45 : mi_L 45 = 9 := rfl
theorem mL_46 : mi_L 46 = 6 := rfl
theorem mL_47 : mi_L 47 = 3 := rfl
theorem mL_48 : mi_L 48 = 2 := rfl
theorem mL_49 : mi_L 49 = 2 := rfl
theorem mL_50 : mi_L 50 = 3 := rfl
theorem mL_51 : mi_L 51 = 1 := rfl
theorem mL_52 : mi_L 52 = 2 := rfl
theorem mL_53 : mi_L 53 = 7 := rfl
theorem mL_54 : mi_L 54 = 3 := rfl
theorem mL_55 : mi_L 55 = 2 := rfl
theorem mL_56 : mi_L 56 = 6 := rfl
theorem mL_57 : mi_L 57 = 5 := rfl
theorem mL_58 : mi_L 58 = 2 := rfl
theorem mL_59 : mi_L 59 = 4 := rfl
theorem mL_60 : mi_L 60 = 3 := rfl
theorem mL_61 : mi_L 61 = 2 := rfl
theorem mL_62 : mi_L 62 = 1 := rfl
theorem mL_63 : mi_L 63 = 4 := rfl
theorem mL_64 : mi_L 64 = 4 := rfl
theorem mL_65 : mi_L 65 = 2 := rfl
theorem mL_66 : mi_L 66 = 2 := rfl
theorem mL_67 : mi_L 67 = 4 := rfl
theorem mL_68 : mi_L 68 = 1 := rfl
theorem mL_69 : mi_L 69 = 1 := rfl
theorem mL_70 : mi_L 70 = 1 := rfl
theorem mL_71 : mi_L 71 = 2 := rfl
theorem mL_72 : mi_L 72 = 3 := rfl
theorem mL_73 : mi_L 73 = 2 := rfl
theorem mL_74 : mi_L 74 = 2 := rfl
theorem mL_75 : mi_L 75 = 1 := rfl
theorem mL_76 : mi_L 76 = 3 := rfl
theorem mL_77 : mi_L 77 = 2 := rfl
theorem mL_78 : mi_L 78 = 2 := rfl
theorem mL_79 : mi_L 79 = 1 := rfl
theorem mL_80 : mi_L 80 = 3 := rfl
theorem mL_81 : mi_L 81 = 3 := rfl
theorem mL_82 : mi_L 82 = 3 := rfl
theorem mL_83 : mi_L 83 = 5 := rfl
theorem mL_84 : mi_L 84 = 3 := rfl
theorem mL_85 : mi_L 85 = 2 := rfl
theorem mL_86 : mi_L 86 = 2 := rfl
theorem mL_87 : mi_L 87 = 3 := rfl
theorem mL_88 : mi_L 88 = 6 := rfl
theorem mL_89 : mi_L 89 = 3 := rfl
theorem mL_90 : mi_L 90 = 1 := rfl
theorem mL_91 : mi_L 91 = 1 := rfl
theorem mL_92 : mi_L 92 = 1 := rfl
theorem mL_93 : mi_L 93 = 3 := rfl
theorem mL_94 : mi_L 94 = 3 := rfl
theorem mL_95 : mi_L 95 = 5 := rfl
theorem mL_96 : mi_L 96 = 1 := rfl
theorem mL_97 : mi_L 97 = 1 := rfl
theorem mL_98 : mi_L 98 = 2 := rfl
theorem mL_99 : mi_L 99 = 10 := rfl
theorem mL_100 : mi_L 100 = 9 := rfl
theorem mL_101 : mi_L 101 = 3 := rfl
theorem mL_102 : mi_L 102 = 2 := rfl
theorem mL_103 : mi_L 103 = 1 := rfl
theorem mL_104 : mi_L 104 = 3 := rfl
theorem mL_105 : mi_L 105 = 3 := rfl
theorem mL_106 : mi_L 106 = 7 := rfl
theorem mL_107 : mi_L 107 = 6 := rfl
theorem mL_108 : mi_L 108 = 4 := rfl
theorem mL_109 : mi_L 109 = 3 := rfl
theorem mL_110 : mi_L 110 = 7 := rfl
theorem mL_111 : mi_L 111 = 2 := rfl
theorem mL_112 : mi_L 112 = 1 := rfl
theorem mL_113 : mi_L 113 = 6 := rfl
theorem mL_114 : mi_L 114 = 4 := rfl
theorem mL_115 : mi_L 115 = 3 := rfl
theorem mL_116 : mi_L 116 = 3 := rfl
theorem mL_117 : mi_L 117 = 5 := rfl
theorem mL_118 : mi_L 118 = 2 := rfl
theorem mL_119 : mi_L 119 = 3 := rfl
theorem mL_120 : mi_L 120 = 4 := rfl
theorem mL_121 : mi_L 121 = 2 := rfl
theorem mL_122 : mi_L 122 = 2 := rfl
theorem mL_123 : mi_L 123 = 7 := rfl
theorem mL_124 : mi_L 124 = 1 := rfl
theorem mL_125 : mi_L 125 = 3 := rfl
theorem mL_126 : mi_L 126 = 4 := rfl
theorem mL_127 : mi_L 127 = 2 := rfl
theorem mL_128 : mi_L 128 = 3 := rfl
theorem mL_129 : mi_L 129 = 2 := rfl
theorem mL_130 : mi_L 130 = 4 := rfl
theorem mL_131 : mi_L 131 = 3 := rfl
theorem mL_132 : mi_L 132 = 4 := rfl
theorem mL_133 : mi_L 133 = 4 := rfl
theorem mL_134 : mi_L 134 = 3 := rfl
theorem mL_135 : mi_L 135 = 2 := rfl
theorem mL_136 : mi_L 136 = 2 := rfl
theorem mL_137 : mi_L 137 = 8 := rfl
theorem mL_138 : mi_L 138 = 2 := rfl
theorem mL_139 : mi_L 139 = 2 := rfl
theorem mL_140 : mi_L 140 = 6 := rfl
theorem mL_141 : mi_L 141 = 4 := rfl
theorem mL_142 : mi_L 142 = 5 := rfl
theorem mL_143 : mi_L 143 = 4 := rfl
theorem mL_144 : mi_L 144 = 1 := rfl
theorem mL_145 : mi_L 145 = 2 := rfl
theorem mL_146 : mi_L 146 = 4 := rfl
theorem mL_147 : mi_L 147 = 1 := rfl
theorem mL_148 : mi_L 148 = 6 := rfl
theorem mL_149 : mi_L 149 = 2 := rfl
theorem mL_150 : mi_L 150 = 1 := rfl
theorem mL_151 : mi_L 151 = 5 := rfl
theorem mL_152 : mi_L 152 = 1 := rfl
theorem mL_153 : mi_L 153 = 4 := rfl
theorem mL_154 : mi_L 154 = 2 := rfl
theorem mL_155 : mi_L 155 = 4 := rfl
theorem mL_156 : mi_L 156 = 4 := rfl
theorem mL_157 : mi_L 157 = 6 := rfl
theorem mL_158 : mi_L 158 = 3 := rfl
theorem mL_159 : mi_L 159 = 2 := rfl
theorem mL_160 : mi_L 160 = 2 := rfl
theorem mL_161 : mi_L 161 = 3 := rfl
theorem mL_162 : mi_L 162 = 4 := rfl
theorem mL_163 : mi_L 163 = 2 := rfl
theorem mL_164 : mi_L 164 = 4 := rfl
theorem mL_165 : mi_L 165 = 4 := rfl
theorem mL_166 : mi_L 166 = 5 := rfl
theorem mL_167 : mi_L 167 = 6 := rfl
theorem mL_168 : mi_L 168 = 7 := rfl
theorem mL_169 : mi_L 169 = 4 := rfl
theorem mL_170 : mi_L 170 = 5 := rfl
theorem mL_171 : mi_L 171 = 4 := rfl
theorem mL_172 : mi_L 172 = 5 := rfl
theorem mL_173 : mi_L 173 = 3 := rfl
theorem mL_174 : mi_L 174 = 8 := rfl
theorem mL_175 : mi_L 175 = 4 := rfl
theorem mL_176 : mi_L 176 = 7 := rfl
theorem mL_177 : mi_L 177 = 3 := rfl
theorem mL_178 : mi_L 178 = 10 := rfl
theorem mL_179 : mi_L 179 = 8 := rfl
theorem mL_180 : mi_L 180 = 8 := rfl
theorem mL_181 : mi_L 181 = 2 := rfl
theorem mL_182 : mi_L 182 = 4 := rfl
theorem mL_183 : mi_L 183 = 7 := rfl
theorem mL_184 : mi_L 184 = 3 := rfl
theorem mL_185 : mi_L 185 = 2 := rfl
theorem mL_186 : mi_L 186 = 1 := rfl
theorem mL_187 : mi_L 187 = 12 := rfl
theorem mL_188 : mi_L 188 = 9 := rfl
theorem mL_189 : mi_L 189 = 5 := rfl
theorem mL_190 : mi_L 190 = 2 := rfl
theorem mL_191 : mi_L 191 = 2 := rfl
theorem mL_192 : mi_L 192 = 5 := rfl
theorem mL_193 : mi_L 193 = 4 := rfl
theorem mL_194 : mi_L 194 = 5 := rfl
theorem mL_195 : mi_L 195 = 2 := rfl
theorem mL_196 : mi_L 196 = 7 := rfl
theorem mL_197 : mi_L 197 = 3 := rfl
theorem mL_198 : mi_L 198 = 4 := rfl
theorem mL_199 : mi_L 199 = 9 := rfl
theorem mL_200 : mi_L 200 = 3 := rfl
theorem mL_201 : mi_L 201 = 2 := rfl
theorem mL_202 : mi_L 202 = 7 := rfl
theorem mL_203 : mi_L 203 = 3 := rfl
theorem mL_204 : mi_L 204 = 5 := rfl
theorem mL_205 : mi_L 205 = 5 := rfl
theorem mL_206 : mi_L 206 = 3 := rfl
theorem mL_207 : mi_L 207 = 3 := rfl
theorem mL_208 : mi_L 208 = 2 := rfl
theorem mL_209 : mi_L 209 = 3 := rfl
theorem mL_210 : mi_L 210 = 4 := rfl
