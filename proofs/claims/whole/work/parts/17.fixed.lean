/-! the cells behind the constructors: fixed from there on (N: the script's length) -/
def mi_GG (N : Nat) : mi_G := [(24, N, []), (25, 5, []), (11, 0, [4, 29, 32, 36, 39, 42, 46, 0]), (1, 0, [5, 15, 18, 0, 28]), (0, 0, [6, 7, 8, 9, 10, 11, 12, 13, 14, 0]), (3, 61, []), (3, 61, []), (3, 61, []), (3, 61, []), (3, 61, []), (3, 61, []), (6, 61, []), (3, 61, []), (3, 61, []), (7, 0, [16, 17, 0, 0]), (3, 25, []), (3, 25, []), (2, 0, [19, 20, 21, 22, 23, 24, 25, 26, 27, 0, 0]), (3, 401, []), (3, 401, []), (3, 401, []), (3, 401, []), (3, 401, []), (3, 401, []), (3, 401, []), (3, 24001, []), (6, 24001, []), (6, 61, []), (4, 0, [30, 31, 0, 0, 0, 0, 0]), (3, 6001, []), (3, 256, []), (8, 0, [29, 4, 33, 0, 0, 0]), (5, 0, [34, 35, 0]), (3, 61, []), (6, 61, []), (5, 0, [37, 38, 0]), (3, 9, []), (6, 9, []), (5, 0, [40, 41, 0]), (3, 61, []), (6, 61, []), (9, 0, [43, 44, 45, 0]), (6, 8, []), (3, 8, []), (6, 8, []), (10, 0, [47, 5, 48, 0]), (3, 4001, []), (3, 21, []), (12, 0, [0, 0, 0, 50, 51, 52, 53, 54, 55, 56, 0, 0, 0, 57, 58, 0, 59, 60, 61, 62, 63, 64, 65, 66, 0, 67, 68, 0, 69, 70, 0, 0, 0, 71, 0, 72, 0, 73, 74, 75, 76, 0, 77, 78, 79, 80, 0, 0, 0]), (20, 60, []), (20, 60, []), (20, 60, []), (22, 60, []), (20, 60, []), (22, 60, []), (21, 60, []), (20, 24, []), (20, 24, []), (20, 400, []), (20, 400, []), (20, 400, []), (20, 401, []), (20, 400, []), (20, 400, []), (20, 24800, []), (21, 24800, []), (20, 8, []), (21, 8, []), (20, 64, []), (21, 64, []), (20, 6000, []), (20, 300, []), (20, 4000, []), (20, 24, []), (20, 8, []), (20, 8, []), (21, 8, []), (21, 8, []), (21, 8, []), (22, 8, [])]
theorem gk_1 (N : Nat) : mi_k (mi_GG N) 1 = 25 := rfl
theorem gl_1 (N : Nat) : mi_len (mi_GG N) 1 = 5 := rfl
theorem gk_2 (N : Nat) : mi_k (mi_GG N) 2 = 11 := rfl
theorem gr_2_0 (N : Nat) : (mi_rs (mi_GG N) 2).getD 0 0 = 3 + 1 := rfl
theorem gr_2_1 (N : Nat) : (mi_rs (mi_GG N) 2).getD 1 0 = 28 + 1 := rfl
theorem gr_2_2 (N : Nat) : (mi_rs (mi_GG N) 2).getD 2 0 = 31 + 1 := rfl
theorem gr_2_3 (N : Nat) : (mi_rs (mi_GG N) 2).getD 3 0 = 35 + 1 := rfl
theorem gr_2_4 (N : Nat) : (mi_rs (mi_GG N) 2).getD 4 0 = 38 + 1 := rfl
theorem gr_2_5 (N : Nat) : (mi_rs (mi_GG N) 2).getD 5 0 = 41 + 1 := rfl
theorem gr_2_6 (N : Nat) : (mi_rs (mi_GG N) 2).getD 6 0 = 45 + 1 := rfl
theorem gk_3 (N : Nat) : mi_k (mi_GG N) 3 = 1 := rfl
theorem gr_3_0 (N : Nat) : (mi_rs (mi_GG N) 3).getD 0 0 = 4 + 1 := rfl
theorem gr_3_1 (N : Nat) : (mi_rs (mi_GG N) 3).getD 1 0 = 14 + 1 := rfl
theorem gr_3_2 (N : Nat) : (mi_rs (mi_GG N) 3).getD 2 0 = 17 + 1 := rfl
theorem gr_3_4 (N : Nat) : (mi_rs (mi_GG N) 3).getD 4 0 = 27 + 1 := rfl
theorem gk_4 (N : Nat) : mi_k (mi_GG N) 4 = 0 := rfl
theorem gr_4_0 (N : Nat) : (mi_rs (mi_GG N) 4).getD 0 0 = 5 + 1 := rfl
theorem gr_4_1 (N : Nat) : (mi_rs (mi_GG N) 4).getD 1 0 = 6 + 1 := rfl
theorem gr_4_2 (N : Nat) : (mi_rs (mi_GG N) 4).getD 2 0 = 7 + 1 := rfl
theorem gr_4_3 (N : Nat) : (mi_rs (mi_GG N) 4).getD 3 0 = 8 + 1 := rfl
theorem gr_4_4 (N : Nat) : (mi_rs (mi_GG N) 4).getD 4 0 = 9 + 1 := rfl
theorem gr_4_5 (N : Nat) : (mi_rs (mi_GG N) 4).getD 5 0 = 10 + 1 := rfl
theorem gr_4_6 (N : Nat) : (mi_rs (mi_GG N) 4).getD 6 0 = 11 + 1 := rfl
theorem gr_4_7 (N : Nat) : (mi_rs (mi_GG N) 4).getD 7 0 = 12 + 1 := rfl
theorem gr_4_8 (N : Nat) : (mi_rs (mi_GG N) 4).getD 8 0 = 13 + 1 := rfl
theorem gk_5 (N : Nat) : mi_k (mi_GG N) 5 = 3 := rfl
theorem gl_5 (N : Nat) : mi_len (mi_GG N) 5 = 61 := rfl
theorem gk_6 (N : Nat) : mi_k (mi_GG N) 6 = 3 := rfl
theorem gl_6 (N : Nat) : mi_len (mi_GG N) 6 = 61 := rfl
theorem gk_7 (N : Nat) : mi_k (mi_GG N) 7 = 3 := rfl
theorem gl_7 (N : Nat) : mi_len (mi_GG N) 7 = 61 := rfl
theorem gk_8 (N : Nat) : mi_k (mi_GG N) 8 = 3 := rfl
theorem gl_8 (N : Nat) : mi_len (mi_GG N) 8 = 61 := rfl
theorem gk_9 (N : Nat) : mi_k (mi_GG N) 9 = 3 := rfl
theorem gl_9 (N : Nat) : mi_len (mi_GG N) 9 = 61 := rfl
theorem gk_10 (N : Nat) : mi_k (mi_GG N) 10 = 3 := rfl
theorem gl_10 (N : Nat) : mi_len (mi_GG N) 10 = 61 := rfl
theorem gk_11 (N : Nat) : mi_k (mi_GG N) 11 = 6 := rfl
theorem gl_11 (N : Nat) : mi_len (mi_GG N) 11 = 61 := rfl
theorem gk_12 (N : Nat) : mi_k (mi_GG N) 12 = 3 := rfl
theorem gl_12 (N : Nat) : mi_len (mi_GG N) 12 = 61 := rfl
theorem gk_13 (N : Nat) : mi_k (mi_GG N) 13 = 3 := rfl
theorem gl_13 (N : Nat) : mi_len (mi_GG N) 13 = 61 := rfl
theorem gk_14 (N : Nat) : mi_k (mi_GG N) 14 = 7 := rfl
theorem gr_14_0 (N : Nat) : (mi_rs (mi_GG N) 14).getD 0 0 = 15 + 1 := rfl
theorem gr_14_1 (N : Nat) : (mi_rs (mi_GG N) 14).getD 1 0 = 16 + 1 := rfl
theorem gk_15 (N : Nat) : mi_k (mi_GG N) 15 = 3 := rfl
theorem gl_15 (N : Nat) : mi_len (mi_GG N) 15 = 25 := rfl
theorem gk_16 (N : Nat) : mi_k (mi_GG N) 16 = 3 := rfl
theorem gl_16 (N : Nat) : mi_len (mi_GG N) 16 = 25 := rfl
theorem gk_17 (N : Nat) : mi_k (mi_GG N) 17 = 2 := rfl
theorem gr_17_0 (N : Nat) : (mi_rs (mi_GG N) 17).getD 0 0 = 18 + 1 := rfl
theorem gr_17_1 (N : Nat) : (mi_rs (mi_GG N) 17).getD 1 0 = 19 + 1 := rfl
theorem gr_17_2 (N : Nat) : (mi_rs (mi_GG N) 17).getD 2 0 = 20 + 1 := rfl
theorem gr_17_3 (N : Nat) : (mi_rs (mi_GG N) 17).getD 3 0 = 21 + 1 := rfl
theorem gr_17_4 (N : Nat) : (mi_rs (mi_GG N) 17).getD 4 0 = 22 + 1 := rfl
theorem gr_17_5 (N : Nat) : (mi_rs (mi_GG N) 17).getD 5 0 = 23 + 1 := rfl
theorem gr_17_6 (N : Nat) : (mi_rs (mi_GG N) 17).getD 6 0 = 24 + 1 := rfl
theorem gr_17_7 (N : Nat) : (mi_rs (mi_GG N) 17).getD 7 0 = 25 + 1 := rfl
theorem gr_17_8 (N : Nat) : (mi_rs (mi_GG N) 17).getD 8 0 = 26 + 1 := rfl
theorem gk_18 (N : Nat) : mi_k (mi_GG N) 18 = 3 := rfl
theorem gl_18 (N : Nat) : mi_len (mi_GG N) 18 = 401 := rfl
theorem gk_19 (N : Nat) : mi_k (mi_GG N) 19 = 3 := rfl
theorem gl_19 (N : Nat) : mi_len (mi_GG N) 19 = 401 := rfl
theorem gk_20 (N : Nat) : mi_k (mi_GG N) 20 = 3 := rfl
theorem gl_20 (N : Nat) : mi_len (mi_GG N) 20 = 401 := rfl
theorem gk_21 (N : Nat) : mi_k (mi_GG N) 21 = 3 := rfl
theorem gl_21 (N : Nat) : mi_len (mi_GG N) 21 = 401 := rfl
theorem gk_22 (N : Nat) : mi_k (mi_GG N) 22 = 3 := rfl
theorem gl_22 (N : Nat) : mi_len (mi_GG N) 22 = 401 := rfl
theorem gk_23 (N : Nat) : mi_k (mi_GG N) 23 = 3 := rfl
theorem gl_23 (N : Nat) : mi_len (mi_GG N) 23 = 401 := rfl
theorem gk_24 (N : Nat) : mi_k (mi_GG N) 24 = 3 := rfl
theorem gl_24 (N : Nat) : mi_len (mi_GG N) 24 = 401 := rfl
theorem gk_25 (N : Nat) : mi_k (mi_GG N) 25 = 3 := rfl
theorem gl_25 (N : Nat) : mi_len (mi_GG N) 25 = 24001 := rfl
theorem gk_26 (N : Nat) : mi_k (mi_GG N) 26 = 6 := rfl
theorem gl_26 (N : Nat) : mi_len (mi_GG N) 26 = 24001 := rfl
theorem gk_27 (N : Nat) : mi_k (mi_GG N) 27 = 6 := rfl
theorem gl_27 (N : Nat) : mi_len (mi_GG N) 27 = 61 := rfl
theorem gk_28 (N : Nat) : mi_k (mi_GG N) 28 = 4 := rfl
theorem gr_28_0 (N : Nat) : (mi_rs (mi_GG N) 28).getD 0 0 = 29 + 1 := rfl
theorem gr_28_1 (N : Nat) : (mi_rs (mi_GG N) 28).getD 1 0 = 30 + 1 := rfl
theorem gk_29 (N : Nat) : mi_k (mi_GG N) 29 = 3 := rfl
theorem gl_29 (N : Nat) : mi_len (mi_GG N) 29 = 6001 := rfl
theorem gk_30 (N : Nat) : mi_k (mi_GG N) 30 = 3 := rfl
theorem gl_30 (N : Nat) : mi_len (mi_GG N) 30 = 256 := rfl
theorem gk_31 (N : Nat) : mi_k (mi_GG N) 31 = 8 := rfl
theorem gr_31_0 (N : Nat) : (mi_rs (mi_GG N) 31).getD 0 0 = 28 + 1 := rfl
theorem gr_31_1 (N : Nat) : (mi_rs (mi_GG N) 31).getD 1 0 = 3 + 1 := rfl
theorem gr_31_2 (N : Nat) : (mi_rs (mi_GG N) 31).getD 2 0 = 32 + 1 := rfl
theorem gk_32 (N : Nat) : mi_k (mi_GG N) 32 = 5 := rfl
theorem gr_32_0 (N : Nat) : (mi_rs (mi_GG N) 32).getD 0 0 = 33 + 1 := rfl
theorem gr_32_1 (N : Nat) : (mi_rs (mi_GG N) 32).getD 1 0 = 34 + 1 := rfl
theorem gk_33 (N : Nat) : mi_k (mi_GG N) 33 = 3 := rfl
theorem gl_33 (N : Nat) : mi_len (mi_GG N) 33 = 61 := rfl
theorem gk_34 (N : Nat) : mi_k (mi_GG N) 34 = 6 := rfl
theorem gl_34 (N : Nat) : mi_len (mi_GG N) 34 = 61 := rfl
theorem gk_35 (N : Nat) : mi_k (mi_GG N) 35 = 5 := rfl
theorem gr_35_0 (N : Nat) : (mi_rs (mi_GG N) 35).getD 0 0 = 36 + 1 := rfl
theorem gr_35_1 (N : Nat) : (mi_rs (mi_GG N) 35).getD 1 0 = 37 + 1 := rfl
theorem gk_36 (N : Nat) : mi_k (mi_GG N) 36 = 3 := rfl
theorem gl_36 (N : Nat) : mi_len (mi_GG N) 36 = 9 := rfl
theorem gk_37 (N : Nat) : mi_k (mi_GG N) 37 = 6 := rfl
theorem gl_37 (N : Nat) : mi_len (mi_GG N) 37 = 9 := rfl
theorem gk_38 (N : Nat) : mi_k (mi_GG N) 38 = 5 := rfl
theorem gr_38_0 (N : Nat) : (mi_rs (mi_GG N) 38).getD 0 0 = 39 + 1 := rfl
theorem gr_38_1 (N : Nat) : (mi_rs (mi_GG N) 38).getD 1 0 = 40 + 1 := rfl
theorem gk_39 (N : Nat) : mi_k (mi_GG N) 39 = 3 := rfl
theorem gl_39 (N : Nat) : mi_len (mi_GG N) 39 = 61 := rfl
theorem gk_40 (N : Nat) : mi_k (mi_GG N) 40 = 6 := rfl
theorem gl_40 (N : Nat) : mi_len (mi_GG N) 40 = 61 := rfl
theorem gk_41 (N : Nat) : mi_k (mi_GG N) 41 = 9 := rfl
theorem gr_41_0 (N : Nat) : (mi_rs (mi_GG N) 41).getD 0 0 = 42 + 1 := rfl
theorem gr_41_1 (N : Nat) : (mi_rs (mi_GG N) 41).getD 1 0 = 43 + 1 := rfl
theorem gr_41_2 (N : Nat) : (mi_rs (mi_GG N) 41).getD 2 0 = 44 + 1 := rfl
theorem gk_42 (N : Nat) : mi_k (mi_GG N) 42 = 6 := rfl
theorem gl_42 (N : Nat) : mi_len (mi_GG N) 42 = 8 := rfl
theorem gk_43 (N : Nat) : mi_k (mi_GG N) 43 = 3 := rfl
theorem gl_43 (N : Nat) : mi_len (mi_GG N) 43 = 8 := rfl
theorem gk_44 (N : Nat) : mi_k (mi_GG N) 44 = 6 := rfl
theorem gl_44 (N : Nat) : mi_len (mi_GG N) 44 = 8 := rfl
theorem gk_45 (N : Nat) : mi_k (mi_GG N) 45 = 10 := rfl
theorem gr_45_0 (N : Nat) : (mi_rs (mi_GG N) 45).getD 0 0 = 46 + 1 := rfl
theorem gr_45_1 (N : Nat) : (mi_rs (mi_GG N) 45).getD 1 0 = 4 + 1 := rfl
theorem gr_45_2 (N : Nat) : (mi_rs (mi_GG N) 45).getD 2 0 = 47 + 1 := rfl
theorem gk_46 (N : Nat) : mi_k (mi_GG N) 46 = 3 := rfl
theorem gl_46 (N : Nat) : mi_len (mi_GG N) 46 = 4001 := rfl
theorem gk_47 (N : Nat) : mi_k (mi_GG N) 47 = 3 := rfl
theorem gl_47 (N : Nat) : mi_len (mi_GG N) 47 = 21 := rfl
theorem gk_48 (N : Nat) : mi_k (mi_GG N) 48 = 12 := rfl
theorem gr_48_3 (N : Nat) : (mi_rs (mi_GG N) 48).getD 3 0 = 49 + 1 := rfl
theorem gr_48_4 (N : Nat) : (mi_rs (mi_GG N) 48).getD 4 0 = 50 + 1 := rfl
theorem gr_48_5 (N : Nat) : (mi_rs (mi_GG N) 48).getD 5 0 = 51 + 1 := rfl
theorem gr_48_6 (N : Nat) : (mi_rs (mi_GG N) 48).getD 6 0 = 52 + 1 := rfl
theorem gr_48_7 (N : Nat) : (mi_rs (mi_GG N) 48).getD 7 0 = 53 + 1 := rfl
theorem gr_48_8 (N : Nat) : (mi_rs (mi_GG N) 48).getD 8 0 = 54 + 1 := rfl
theorem gr_48_9 (N : Nat) : (mi_rs (mi_GG N) 48).getD 9 0 = 55 + 1 := rfl
theorem gr_48_13 (N : Nat) : (mi_rs (mi_GG N) 48).getD 13 0 = 56 + 1 := rfl
theorem gr_48_14 (N : Nat) : (mi_rs (mi_GG N) 48).getD 14 0 = 57 + 1 := rfl
theorem gr_48_16 (N : Nat) : (mi_rs (mi_GG N) 48).getD 16 0 = 58 + 1 := rfl
theorem gr_48_17 (N : Nat) : (mi_rs (mi_GG N) 48).getD 17 0 = 59 + 1 := rfl
theorem gr_48_18 (N : Nat) : (mi_rs (mi_GG N) 48).getD 18 0 = 60 + 1 := rfl
theorem gr_48_19 (N : Nat) : (mi_rs (mi_GG N) 48).getD 19 0 = 61 + 1 := rfl
theorem gr_48_20 (N : Nat) : (mi_rs (mi_GG N) 48).getD 20 0 = 62 + 1 := rfl
theorem gr_48_21 (N : Nat) : (mi_rs (mi_GG N) 48).getD 21 0 = 63 + 1 := rfl
theorem gr_48_22 (N : Nat) : (mi_rs (mi_GG N) 48).getD 22 0 = 64 + 1 := rfl
theorem gr_48_23 (N : Nat) : (mi_rs (mi_GG N) 48).getD 23 0 = 65 + 1 := rfl
theorem gr_48_25 (N : Nat) : (mi_rs (mi_GG N) 48).getD 25 0 = 66 + 1 := rfl
theorem gr_48_26 (N : Nat) : (mi_rs (mi_GG N) 48).getD 26 0 = 67 + 1 := rfl
theorem gr_48_28 (N : Nat) : (mi_rs (mi_GG N) 48).getD 28 0 = 68 + 1 := rfl
theorem gr_48_29 (N : Nat) : (mi_rs (mi_GG N) 48).getD 29 0 = 69 + 1 := rfl
theorem gr_48_33 (N : Nat) : (mi_rs (mi_GG N) 48).getD 33 0 = 70 + 1 := rfl
theorem gr_48_35 (N : Nat) : (mi_rs (mi_GG N) 48).getD 35 0 = 71 + 1 := rfl
theorem gr_48_37 (N : Nat) : (mi_rs (mi_GG N) 48).getD 37 0 = 72 + 1 := rfl
theorem gr_48_38 (N : Nat) : (mi_rs (mi_GG N) 48).getD 38 0 = 73 + 1 := rfl
theorem gr_48_39 (N : Nat) : (mi_rs (mi_GG N) 48).getD 39 0 = 74 + 1 := rfl
theorem gr_48_40 (N : Nat) : (mi_rs (mi_GG N) 48).getD 40 0 = 75 + 1 := rfl
theorem gr_48_42 (N : Nat) : (mi_rs (mi_GG N) 48).getD 42 0 = 76 + 1 := rfl
theorem gr_48_43 (N : Nat) : (mi_rs (mi_GG N) 48).getD 43 0 = 77 + 1 := rfl
theorem gr_48_44 (N : Nat) : (mi_rs (mi_GG N) 48).getD 44 0 = 78 + 1 := rfl
theorem gr_48_45 (N : Nat) : (mi_rs (mi_GG N) 48).getD 45 0 = 79 + 1 := rfl
theorem gk_49 (N : Nat) : mi_k (mi_GG N) 49 = 20 := rfl
theorem gl_49 (N : Nat) : mi_len (mi_GG N) 49 = 60 := rfl
theorem gk_50 (N : Nat) : mi_k (mi_GG N) 50 = 20 := rfl
theorem gl_50 (N : Nat) : mi_len (mi_GG N) 50 = 60 := rfl
theorem gk_51 (N : Nat) : mi_k (mi_GG N) 51 = 20 := rfl
theorem gl_51 (N : Nat) : mi_len (mi_GG N) 51 = 60 := rfl
theorem gk_52 (N : Nat) : mi_k (mi_GG N) 52 = 22 := rfl
theorem gl_52 (N : Nat) : mi_len (mi_GG N) 52 = 60 := rfl
theorem gk_53 (N : Nat) : mi_k (mi_GG N) 53 = 20 := rfl
theorem gl_53 (N : Nat) : mi_len (mi_GG N) 53 = 60 := rfl
theorem gk_54 (N : Nat) : mi_k (mi_GG N) 54 = 22 := rfl
theorem gl_54 (N : Nat) : mi_len (mi_GG N) 54 = 60 := rfl
theorem gk_55 (N : Nat) : mi_k (mi_GG N) 55 = 21 := rfl
theorem gl_55 (N : Nat) : mi_len (mi_GG N) 55 = 60 := rfl
theorem gk_56 (N : Nat) : mi_k (mi_GG N) 56 = 20 := rfl
theorem gl_56 (N : Nat) : mi_len (mi_GG N) 56 = 24 := rfl
theorem gk_57 (N : Nat) : mi_k (mi_GG N) 57 = 20 := rfl
theorem gl_57 (N : Nat) : mi_len (mi_GG N) 57 = 24 := rfl
theorem gk_58 (N : Nat) : mi_k (mi_GG N) 58 = 20 := rfl
theorem gl_58 (N : Nat) : mi_len (mi_GG N) 58 = 400 := rfl
theorem gk_59 (N : Nat) : mi_k (mi_GG N) 59 = 20 := rfl
theorem gl_59 (N : Nat) : mi_len (mi_GG N) 59 = 400 := rfl
theorem gk_60 (N : Nat) : mi_k (mi_GG N) 60 = 20 := rfl
theorem gl_60 (N : Nat) : mi_len (mi_GG N) 60 = 400 := rfl
theorem gk_61 (N : Nat) : mi_k (mi_GG N) 61 = 20 := rfl
theorem gl_61 (N : Nat) : mi_len (mi_GG N) 61 = 401 := rfl
theorem gk_62 (N : Nat) : mi_k (mi_GG N) 62 = 20 := rfl
theorem gl_62 (N : Nat) : mi_len (mi_GG N) 62 = 400 := rfl
theorem gk_63 (N : Nat) : mi_k (mi_GG N) 63 = 20 := rfl
theorem gl_63 (N : Nat) : mi_len (mi_GG N) 63 = 400 := rfl
theorem gk_64 (N : Nat) : mi_k (mi_GG N) 64 = 20 := rfl
theorem gl_64 (N : Nat) : mi_len (mi_GG N) 64 = 24800 := rfl
theorem gk_65 (N : Nat) : mi_k (mi_GG N) 65 = 21 := rfl
theorem gl_65 (N : Nat) : mi_len (mi_GG N) 65 = 24800 := rfl
theorem gk_66 (N : Nat) : mi_k (mi_GG N) 66 = 20 := rfl
theorem gl_66 (N : Nat) : mi_len (mi_GG N) 66 = 8 := rfl
theorem gk_67 (N : Nat) : mi_k (mi_GG N) 67 = 21 := rfl
theorem gl_67 (N : Nat) : mi_len (mi_GG N) 67 = 8 := rfl
theorem gk_68 (N : Nat) : mi_k (mi_GG N) 68 = 20 := rfl
theorem gl_68 (N : Nat) : mi_len (mi_GG N) 68 = 64 := rfl
theorem gk_69 (N : Nat) : mi_k (mi_GG N) 69 = 21 := rfl
theorem gl_69 (N : Nat) : mi_len (mi_GG N) 69 = 64 := rfl
theorem gk_70 (N : Nat) : mi_k (mi_GG N) 70 = 20 := rfl
theorem gl_70 (N : Nat) : mi_len (mi_GG N) 70 = 6000 := rfl
theorem gk_71 (N : Nat) : mi_k (mi_GG N) 71 = 20 := rfl
theorem gl_71 (N : Nat) : mi_len (mi_GG N) 71 = 300 := rfl
theorem gk_72 (N : Nat) : mi_k (mi_GG N) 72 = 20 := rfl
theorem gl_72 (N : Nat) : mi_len (mi_GG N) 72 = 4000 := rfl
theorem gk_73 (N : Nat) : mi_k (mi_GG N) 73 = 20 := rfl
theorem gl_73 (N : Nat) : mi_len (mi_GG N) 73 = 24 := rfl
theorem gk_74 (N : Nat) : mi_k (mi_GG N) 74 = 20 := rfl
theorem gl_74 (N : Nat) : mi_len (mi_GG N) 74 = 8 := rfl
theorem gk_75 (N : Nat) : mi_k (mi_GG N) 75 = 20 := rfl
theorem gl_75 (N : Nat) : mi_len (mi_GG N) 75 = 8 := rfl
theorem gk_76 (N : Nat) : mi_k (mi_GG N) 76 = 21 := rfl
theorem gl_76 (N : Nat) : mi_len (mi_GG N) 76 = 8 := rfl
theorem gk_77 (N : Nat) : mi_k (mi_GG N) 77 = 21 := rfl
theorem gl_77 (N : Nat) : mi_len (mi_GG N) 77 = 8 := rfl
theorem gk_78 (N : Nat) : mi_k (mi_GG N) 78 = 21 := rfl
theorem gl_78 (N : Nat) : mi_len (mi_GG N) 78 = 8 := rfl
theorem gk_79 (N : Nat) : mi_k (mi_GG N) 79 = 22 := rfl
theorem gl_79 (N : Nat) : mi_len (mi_GG N) 79 = 8 := rfl
theorem gk_0 (N : Nat) : mi_k (mi_GG N) 0 = 24 := rfl
theorem gl_0 (N : Nat) : mi_len (mi_GG N) 0 = N := rfl
/-- the three Lines: the line's cell, its accounts, its amounts, its limit -/
def mi_Ls (ln la lb lim : Nat) : Prop := (ln = 32 ∧ la = 33 ∧ lb = 34 ∧ lim = 60) ∨ (ln = 35 ∧ la = 36 ∧ lb = 37 ∧ lim = 8) ∨ (ln = 38 ∧ la = 39 ∧ lb = 40 ∧ lim = 60)
theorem mi_Ls.all {ln la lb lim : Nat} (h : mi_Ls ln la lb lim) (N : Nat) : mi_k (mi_GG N) ln = 5 ∧ (mi_rs (mi_GG N) ln).getD 0 0 = la + 1 ∧ (mi_rs (mi_GG N) ln).getD 1 0 = lb + 1 ∧ mi_k (mi_GG N) la = 3 ∧ mi_k (mi_GG N) lb = 6 ∧ mi_len (mi_GG N) la = lim + 1 ∧ mi_len (mi_GG N) lb = lim + 1 := by
  rcases h with ⟨rfl, rfl, rfl, rfl⟩ | ⟨rfl, rfl, rfl, rfl⟩ | ⟨rfl, rfl, rfl, rfl⟩ <;> exact ⟨rfl, rfl, rfl, rfl, rfl, rfl, rfl⟩
def mi_wI (N d y pc : Nat) (L st : List Value) (δ : mi_D) (Q : Int32 → mi_D → Prop) : Prop := mi_wpG d y pc L st (mi_GG N) δ (fun v g' δ' => ∃ x, v = some (.int x) ∧ g' = mi_GG N ∧ Q x δ')
def mi_wL (N d y pc : Nat) (L st : List Value) (δ : mi_D) (Q : Int64 → mi_D → Prop) : Prop := mi_wpG d y pc L st (mi_GG N) δ (fun v g' δ' => ∃ x, v = some (.long x) ∧ g' = mi_GG N ∧ Q x δ')
def mi_wV (N d y pc : Nat) (L st : List Value) (δ : mi_D) (Q : mi_D → Prop) : Prop := mi_wpG d y pc L st (mi_GG N) δ (fun v g' δ' => v = none ∧ g' = mi_GG N ∧ Q δ')
theorem mi_wI.mono {N d y pc : Nat} {L st : List Value} {δ : mi_D} {Q Q' : Int32 → mi_D → Prop} (h : mi_wI N d y pc L st δ Q) (k : ∀ x δ1, Q x δ1 → Q' x δ1) : mi_wI N d y pc L st δ Q' := mr_mono h (fun _ _ _ ⟨x, a, b, c⟩ => ⟨x, a, b, k _ _ c⟩)
theorem mi_wL.mono {N d y pc : Nat} {L st : List Value} {δ : mi_D} {Q Q' : Int64 → mi_D → Prop} (h : mi_wL N d y pc L st δ Q) (k : ∀ x δ1, Q x δ1 → Q' x δ1) : mi_wL N d y pc L st δ Q' := mr_mono h (fun _ _ _ ⟨x, a, b, c⟩ => ⟨x, a, b, k _ _ c⟩)
theorem mi_wV.mono {N d y pc : Nat} {L st : List Value} {δ : mi_D} {Q Q' : mi_D → Prop} (h : mi_wV N d y pc L st δ Q) (k : ∀ δ1, Q δ1 → Q' δ1) : mi_wV N d y pc L st δ Q' := mr_mono h (fun _ _ _ ⟨a, b, c⟩ => ⟨a, b, k _ c⟩)
def md_decs (cc : ByteArray) : Nat → List (Instr × Nat) → Prop
  | _, [] => True
  | pc, (i, l) :: r => decode cc pc = .ok (i, l) ∧ md_decs cc (pc + l) r
theorem md_decs_eq (y : Nat) : ∀ (is : List (Instr × Nat)) (pc : Nat), md_decs (mi_B y) pc is → mi_decs y pc is := by
  intro is
  induction is with
  | nil => intro pc h; exact h
  | cons q is ih => intro pc h; exact ⟨h.1, ih _ h.2⟩
section MS
variable {d y pc : Nat} {L st r : List Value} {g : mi_G} {δ : mi_D} {Q : Option Value → mi_G → mi_D → Prop} {cc : ByteArray} {own : Nat}
theorem ms_seq (hB : mi_B y = cc) (ho : mi_O y = own) (is : List (Instr × Nat)) {pc' : Nat} {L' st' : List Value} (hd : md_decs cc pc is) (hp : mi_seq own is pc L st = some (pc', L', st')) (k : mi_wpG d y pc' L' st' g δ Q) : mi_wpG d y pc L st g δ Q := by
  subst hB
  exact mr_seq own is ho (md_decs_eq y is pc hd) hp k
theorem ms_iret (hB : mi_B y = cc) {x : Int32} (hd : decode cc pc = .ok (.ireturn, 1)) (hR : mi_R y = some .int) (q : Q (some (.int x)) g δ) : mi_wpG d y pc L [.int x] g δ Q := by
  subst hB
  exact mr_iret hd hR q
theorem ms_zret (hB : mi_B y = cc) {x : Int32} (hd : decode cc pc = .ok (.ireturn, 1)) (hR : mi_R y = some .boolean) (hx : x = 0 ∨ x = 1) (q : Q (some (.int x)) g δ) : mi_wpG d y pc L [.int x] g δ Q := by
  subst hB
  exact mr_zret hd hR hx q
theorem ms_lret (hB : mi_B y = cc) {x : Int64} (hd : decode cc pc = .ok (.lreturn, 1)) (hR : mi_R y = some .long) (q : Q (some (.long x)) g δ) : mi_wpG d y pc L [.long x] g δ Q := by
  subst hB
  exact mr_lret hd hR q
theorem ms_vret (hB : mi_B y = cc) (hd : decode cc pc = .ok (.return_, 1)) (hR : mi_R y = none) (q : Q none g δ) : mi_wpG d y pc L [] g δ Q := by
  subst hB
  exact mr_vret hd hR q
theorem ms_if_eq (hB : mi_B y = cc) {off : Int} {t : Nat} {x : Int32} (hd : decode cc pc = .ok (.ifCond .eq off, 3)) (ht : mi_tgt pc off = some t) (k1 : x = 0 → mi_wpG d y t L r g δ Q) (k2 : ¬ x = 0 → mi_wpG d y (pc + 3) L r g δ Q) : mi_wpG d y pc L (.int x :: r) g δ Q := by
  subst hB
  exact mr_if_eq hd ht k1 k2
theorem ms_if_ne (hB : mi_B y = cc) {off : Int} {t : Nat} {x : Int32} (hd : decode cc pc = .ok (.ifCond .ne off, 3)) (ht : mi_tgt pc off = some t) (k1 : ¬ x = 0 → mi_wpG d y t L r g δ Q) (k2 : x = 0 → mi_wpG d y (pc + 3) L r g δ Q) : mi_wpG d y pc L (.int x :: r) g δ Q := by
  subst hB
  exact mr_if_ne hd ht k1 k2
theorem ms_if_lt (hB : mi_B y = cc) {off : Int} {t : Nat} {x : Int32} (hd : decode cc pc = .ok (.ifCond .lt off, 3)) (ht : mi_tgt pc off = some t) (k1 : x < 0 → mi_wpG d y t L r g δ Q) (k2 : ¬ x < 0 → mi_wpG d y (pc + 3) L r g δ Q) : mi_wpG d y pc L (.int x :: r) g δ Q := by
  subst hB
  exact mr_if_lt hd ht k1 k2
theorem ms_if_ge (hB : mi_B y = cc) {off : Int} {t : Nat} {x : Int32} (hd : decode cc pc = .ok (.ifCond .ge off, 3)) (ht : mi_tgt pc off = some t) (k1 : ¬ x < 0 → mi_wpG d y t L r g δ Q) (k2 : x < 0 → mi_wpG d y (pc + 3) L r g δ Q) : mi_wpG d y pc L (.int x :: r) g δ Q := by
  subst hB
  exact mr_if_ge hd ht k1 k2
theorem ms_if_gt (hB : mi_B y = cc) {off : Int} {t : Nat} {x : Int32} (hd : decode cc pc = .ok (.ifCond .gt off, 3)) (ht : mi_tgt pc off = some t) (k1 : 0 < x → mi_wpG d y t L r g δ Q) (k2 : ¬ 0 < x → mi_wpG d y (pc + 3) L r g δ Q) : mi_wpG d y pc L (.int x :: r) g δ Q := by
  subst hB
  exact mr_if_gt hd ht k1 k2
theorem ms_if_le (hB : mi_B y = cc) {off : Int} {t : Nat} {x : Int32} (hd : decode cc pc = .ok (.ifCond .le off, 3)) (ht : mi_tgt pc off = some t) (k1 : ¬ 0 < x → mi_wpG d y t L r g δ Q) (k2 : 0 < x → mi_wpG d y (pc + 3) L r g δ Q) : mi_wpG d y pc L (.int x :: r) g δ Q := by
  subst hB
  exact mr_if_le hd ht k1 k2
theorem ms_icmp_eq (hB : mi_B y = cc) {off : Int} {t : Nat} {x z : Int32} (hd : decode cc pc = .ok (.if_icmp .eq off, 3)) (ht : mi_tgt pc off = some t) (k1 : x = z → mi_wpG d y t L r g δ Q) (k2 : ¬ x = z → mi_wpG d y (pc + 3) L r g δ Q) : mi_wpG d y pc L (.int z :: .int x :: r) g δ Q := by
  subst hB
  exact mr_icmp_eq hd ht k1 k2
theorem ms_icmp_ne (hB : mi_B y = cc) {off : Int} {t : Nat} {x z : Int32} (hd : decode cc pc = .ok (.if_icmp .ne off, 3)) (ht : mi_tgt pc off = some t) (k1 : ¬ x = z → mi_wpG d y t L r g δ Q) (k2 : x = z → mi_wpG d y (pc + 3) L r g δ Q) : mi_wpG d y pc L (.int z :: .int x :: r) g δ Q := by
  subst hB
  exact mr_icmp_ne hd ht k1 k2
theorem ms_icmp_lt (hB : mi_B y = cc) {off : Int} {t : Nat} {x z : Int32} (hd : decode cc pc = .ok (.if_icmp .lt off, 3)) (ht : mi_tgt pc off = some t) (k1 : x < z → mi_wpG d y t L r g δ Q) (k2 : ¬ x < z → mi_wpG d y (pc + 3) L r g δ Q) : mi_wpG d y pc L (.int z :: .int x :: r) g δ Q := by
  subst hB
  exact mr_icmp_lt hd ht k1 k2
theorem ms_icmp_ge (hB : mi_B y = cc) {off : Int} {t : Nat} {x z : Int32} (hd : decode cc pc = .ok (.if_icmp .ge off, 3)) (ht : mi_tgt pc off = some t) (k1 : ¬ x < z → mi_wpG d y t L r g δ Q) (k2 : x < z → mi_wpG d y (pc + 3) L r g δ Q) : mi_wpG d y pc L (.int z :: .int x :: r) g δ Q := by
  subst hB
  exact mr_icmp_ge hd ht k1 k2
theorem ms_icmp_gt (hB : mi_B y = cc) {off : Int} {t : Nat} {x z : Int32} (hd : decode cc pc = .ok (.if_icmp .gt off, 3)) (ht : mi_tgt pc off = some t) (k1 : z < x → mi_wpG d y t L r g δ Q) (k2 : ¬ z < x → mi_wpG d y (pc + 3) L r g δ Q) : mi_wpG d y pc L (.int z :: .int x :: r) g δ Q := by
  subst hB
  exact mr_icmp_gt hd ht k1 k2
theorem ms_icmp_le (hB : mi_B y = cc) {off : Int} {t : Nat} {x z : Int32} (hd : decode cc pc = .ok (.if_icmp .le off, 3)) (ht : mi_tgt pc off = some t) (k1 : ¬ z < x → mi_wpG d y t L r g δ Q) (k2 : z < x → mi_wpG d y (pc + 3) L r g δ Q) : mi_wpG d y pc L (.int z :: .int x :: r) g δ Q := by
  subst hB
  exact mr_icmp_le hd ht k1 k2
theorem ms_goto (hB : mi_B y = cc) {off : Int} {t : Nat} (hd : decode cc pc = .ok (.goto off, 3)) (ht : mi_tgt pc off = some t) (k : mi_wpG d y t L st g δ Q) : mi_wpG d y pc L st g δ Q := by
  subst hB
  exact mr_goto hd ht k
theorem ms_table (hB : mi_B y = cc) {dflt lo hi : Int} {offs : Array Int} {len t0 : Nat} {x : Int32} (hd : decode cc pc = .ok (.tableswitch dflt lo hi offs, len)) (ht0 : mi_tgt pc dflt = some t0) (k0 : (x.toInt < lo ∨ hi < x.toInt) → mi_wpG d y t0 L r g δ Q) (k : ∀ (off : Int), ¬ (x.toInt < lo ∨ hi < x.toInt) → offs[(x.toInt - lo).toNat]? = some off → ∃ t, mi_tgt pc off = some t ∧ mi_wpG d y t L r g δ Q) (hs : (hi - lo).toNat < offs.size) : mi_wpG d y pc L (.int x :: r) g δ Q := by
  subst hB
  exact mr_table hd ht0 k0 k hs
theorem ms_look (hB : mi_B y = cc) {dflt : Int} {ps : Array (Int × Int)} {len t : Nat} {x : Int32} (hd : decode cc pc = .ok (.lookupswitch dflt ps, len)) (hs : (ps.toList.zip (ps.toList.drop 1)).all (fun (a, next) => a.1 < next.1) = true) (ht : mi_tgt pc (Op.lookupswitch.offset ps.toList dflt x.toInt) = some t) (k : mi_wpG d y t L r g δ Q) : mi_wpG d y pc L (.int x :: r) g δ Q := by
  subst hB
  exact mr_look hd hs ht k
theorem ms_getI (hB : mi_B y = cc) (ho : mi_O y = own) {i k sl a : Nat} (hd : decode cc pc = .ok (.getfield i, 3)) (hF : mi_F own i = some (k, sl)) (hk : mi_k g a = k) (ht : mi_Ty k sl = .int ∨ mi_Ty k sl = .boolean) (kk : mi_wpG d y (pc + 3) L (.int (δ.1 a sl) :: r) g δ Q) : mi_wpG d y pc L (.ref a :: r) g δ Q := by
  subst hB
  subst ho
  exact mr_getI hd hF hk ht kk
theorem ms_getR (hB : mi_B y = cc) (ho : mi_O y = own) {i k sl a b : Nat} (hd : decode cc pc = .ok (.getfield i, 3)) (hF : mi_F own i = some (k, sl)) (hk : mi_k g a = k) {n : String} (ht : mi_Ty k sl = .object n) (hb : (mi_rs g a).getD sl 0 = b + 1) (kk : mi_wpG d y (pc + 3) L (.ref b :: r) g δ Q) : mi_wpG d y pc L (.ref a :: r) g δ Q := by
  subst hB
  subst ho
  exact mr_getR hd hF hk ht hb kk
theorem ms_getA (hB : mi_B y = cc) (ho : mi_O y = own) {i k sl a b : Nat} (hd : decode cc pc = .ok (.getfield i, 3)) (hF : mi_F own i = some (k, sl)) (hk : mi_k g a = k) {n : FieldType} (ht : mi_Ty k sl = .array n) (hb : (mi_rs g a).getD sl 0 = b + 1) (kk : mi_wpG d y (pc + 3) L (.ref b :: r) g δ Q) : mi_wpG d y pc L (.ref a :: r) g δ Q := by
  subst hB
  subst ho
  exact mr_getA hd hF hk ht hb kk
theorem ms_putI (hB : mi_B y = cc) (ho : mi_O y = own) {i k sl a : Nat} {v : Int32} (hd : decode cc pc = .ok (.putfield i, 3)) (hF : mi_F own i = some (k, sl)) (hk : mi_k g a = k) (ht : mi_Ty k sl = .int) (hf : (mi_T k sl).2.2.2 = false) (kk : mi_wpG d y (pc + 3) L r g (mi_setI δ a sl v) Q) : mi_wpG d y pc L (.int v :: .ref a :: r) g δ Q := by
  subst hB
  subst ho
  exact mr_putI hd hF hk ht hf kk
theorem ms_putZ (hB : mi_B y = cc) (ho : mi_O y = own) {i k sl a : Nat} {v : Int32} (hd : decode cc pc = .ok (.putfield i, 3)) (hF : mi_F own i = some (k, sl)) (hk : mi_k g a = k) (ht : mi_Ty k sl = .boolean) (hf : (mi_T k sl).2.2.2 = false) (hv : v = 0 ∨ v = 1) (kk : mi_wpG d y (pc + 3) L r g (mi_setI δ a sl v) Q) : mi_wpG d y pc L (.int v :: .ref a :: r) g δ Q := by
  subst hB
  subst ho
  exact mr_putZ hd hF hk ht hf hv kk
theorem ms_putR (hB : mi_B y = cc) (ho : mi_O y = own) {i k sl a b : Nat} (hd : decode cc pc = .ok (.putfield i, 3)) (hF : mi_F own i = some (k, sl)) (hk : mi_k g a = k) (ht : (∃ n, mi_Ty k sl = .object n) ∨ (∃ n, mi_Ty k sl = .array n)) (hf : (mi_T k sl).2.2.2 = true) (hi : mi_ini y = k) (hok : mi_O y = k) (hl : sl < (mi_rs g a).length) (kk : mi_wpG d y (pc + 3) L r (g.set a (k, mi_len g a, (mi_rs g a).set sl (b + 1))) δ Q) : mi_wpG d y pc L (.ref b :: .ref a :: r) g δ Q := by
  subst hB
  subst ho
  exact mr_putR hd hF hk ht hf hi hok hl kk
theorem ms_gets (hB : mi_B y = cc) (ho : mi_O y = own) {i : Nat} (hd : decode cc pc = .ok (.getstatic i, 3)) (hi : (own, i) = mi_let) (hk : mi_k g 1 = 25) (kk : mi_wpG d y (pc + 3) L (.ref 1 :: st) g δ Q) : mi_wpG d y pc L st g δ Q := by
  subst hB
  subst ho
  exact mr_gets hd hi hk kk
theorem ms_iald (hB : mi_B y = cc) {a : Nat} {j : Int32} (hd : decode cc pc = .ok (.iaload, 1)) (hk : mi_k g a = 20 ∨ mi_k g a = 24) (hj : mi_ix j (mi_len g a) = true) (kk : mi_wpG d y (pc + 1) L (.int (δ.2.1 a j.toNatClampNeg) :: r) g δ Q) : mi_wpG d y pc L (.int j :: .ref a :: r) g δ Q := by
  subst hB
  exact mr_iald hd hk hj kk
theorem ms_bald (hB : mi_B y = cc) {a : Nat} {j : Int32} (hd : decode cc pc = .ok (.baload, 1)) (hk : mi_k g a = 22) (hj : mi_ix j (mi_len g a) = true) (kk : mi_wpG d y (pc + 1) L (.int (δ.2.1 a j.toNatClampNeg) :: r) g δ Q) : mi_wpG d y pc L (.int j :: .ref a :: r) g δ Q := by
  subst hB
  exact mr_bald hd hk hj kk
theorem ms_cald (hB : mi_B y = cc) {a : Nat} {j : Int32} (hd : decode cc pc = .ok (.caload, 1)) (hk : mi_k g a = 25) (hj : mi_ix j (mi_len g a) = true) (kk : mi_wpG d y (pc + 1) L (.int (δ.2.1 a j.toNatClampNeg) :: r) g δ Q) : mi_wpG d y pc L (.int j :: .ref a :: r) g δ Q := by
  subst hB
  exact mr_cald hd hk hj kk
theorem ms_lald (hB : mi_B y = cc) {a : Nat} {j : Int32} (hd : decode cc pc = .ok (.laload, 1)) (hk : mi_k g a = 21) (hj : mi_ix j (mi_len g a) = true) (kk : mi_wpG d y (pc + 1) L (.long (δ.2.2 a j.toNatClampNeg) :: r) g δ Q) : mi_wpG d y pc L (.int j :: .ref a :: r) g δ Q := by
  subst hB
  exact mr_lald hd hk hj kk
theorem ms_iast (hB : mi_B y = cc) {a : Nat} {j v : Int32} (hd : decode cc pc = .ok (.iastore, 1)) (hk : mi_k g a = 20) (hj : mi_ix j (mi_len g a) = true) (kk : mi_wpG d y (pc + 1) L r g (mi_setA δ a j.toNatClampNeg v) Q) : mi_wpG d y pc L (.int v :: .int j :: .ref a :: r) g δ Q := by
  subst hB
  exact mr_iast hd hk hj kk
theorem ms_bast (hB : mi_B y = cc) {a : Nat} {j v : Int32} (hd : decode cc pc = .ok (.bastore, 1)) (hk : mi_k g a = 22) (hj : mi_ix j (mi_len g a) = true) (hv : v = 0 ∨ v = 1) (kk : mi_wpG d y (pc + 1) L r g (mi_setA δ a j.toNatClampNeg v) Q) : mi_wpG d y pc L (.int v :: .int j :: .ref a :: r) g δ Q := by
  subst hB
  exact mr_bast hd hk hj hv kk
theorem ms_last (hB : mi_B y = cc) {a : Nat} {j : Int32} {v : Int64} (hd : decode cc pc = .ok (.lastore, 1)) (hk : mi_k g a = 21) (hj : mi_ix j (mi_len g a) = true) (kk : mi_wpG d y (pc + 1) L r g (mi_setL δ a j.toNatClampNeg v) Q) : mi_wpG d y pc L (.long v :: .int j :: .ref a :: r) g δ Q := by
  subst hB
  exact mr_last hd hk hj kk
theorem ms_alen (hB : mi_B y = cc) {a : Nat} (hd : decode cc pc = .ok (.arraylength, 1)) (hk : 20 ≤ mi_k g a ∧ mi_k g a ≤ 25 ∧ mi_k g a ≠ 23) (kk : mi_wpG d y (pc + 1) L (.int (nI (mi_len g a)) :: r) g δ Q) : mi_wpG d y pc L (.ref a :: r) g δ Q := by
  subst hB
  exact mr_alen hd hk kk
theorem ms_new (hB : mi_B y = cc) (ho : mi_O y = own) {i k : Nat} (hd : decode cc pc = .ok (.new i, 3)) (hW : mi_W own i = some k) (kk : mi_wpG d y (pc + 3) L (.ref g.length :: st) (g ++ [(k, 0, List.replicate (mi_n k) 0)]) (mi_zero δ g.length) Q) : mi_wpG d y pc L st g δ Q := by
  subst hB
  subst ho
  exact mr_new hd hW kk
theorem ms_newI (hB : mi_B y = cc) {n : Int32} (hd : decode cc pc = .ok (.newarray .int, 2)) (hn : ¬ n < 0 ∧ n.toNatClampNeg < 1000000) (kk : mi_wpG d y (pc + 2) L (.ref g.length :: r) (g ++ [(20, n.toNatClampNeg, [])]) (mi_zero δ g.length) Q) : mi_wpG d y pc L (.int n :: r) g δ Q := by
  subst hB
  exact mr_newI hd hn kk
theorem ms_newL (hB : mi_B y = cc) {n : Int32} (hd : decode cc pc = .ok (.newarray .long, 2)) (hn : ¬ n < 0 ∧ n.toNatClampNeg < 1000000) (kk : mi_wpG d y (pc + 2) L (.ref g.length :: r) (g ++ [(21, n.toNatClampNeg, [])]) (mi_zero δ g.length) Q) : mi_wpG d y pc L (.int n :: r) g δ Q := by
  subst hB
  exact mr_newL hd hn kk
theorem ms_newZ (hB : mi_B y = cc) {n : Int32} (hd : decode cc pc = .ok (.newarray .boolean, 2)) (hn : ¬ n < 0 ∧ n.toNatClampNeg < 1000000) (kk : mi_wpG d y (pc + 2) L (.ref g.length :: r) (g ++ [(22, n.toNatClampNeg, [])]) (mi_zero δ g.length) Q) : mi_wpG d y pc L (.int n :: r) g δ Q := by
  subst hB
  exact mr_newZ hd hn kk
theorem ms_at (hB : mi_B y = cc) (ho : mi_O y = own) {i a : Nat} {j : Int32} (h5 : 5 ≤ d) (hd : decode cc pc = .ok (.invokevirtual i, 3)) (hq : mi_Q own i = some 1) (hcat : mi_cat (.int j :: .ref a :: r) ≤ 8) (hk : mi_k g a = 3) (hl : mi_len g a ≠ 0) (kk : mi_wpG d y (pc + 3) L (.int (mi_at δ a j) :: r) g δ Q) : mi_wpG d y pc L (.int j :: .ref a :: r) g δ Q := by
  subst hB
  subst ho
  exact mr_at h5 hd hq hcat hk hl kk
theorem ms_al (hB : mi_B y = cc) (ho : mi_O y = own) {i a : Nat} {j : Int32} (h5 : 5 ≤ d) (hd : decode cc pc = .ok (.invokevirtual i, 3)) (hq : mi_Q own i = some 4) (hcat : mi_cat (.int j :: .ref a :: r) ≤ 8) (hk : mi_k g a = 6) (hl : mi_len g a ≠ 0) (kk : mi_wpG d y (pc + 3) L (.long (mi_al δ a j) :: r) g δ Q) : mi_wpG d y pc L (.int j :: .ref a :: r) g δ Q := by
  subst hB
  subst ho
  exact mr_al h5 hd hq hcat hk hl kk
theorem ms_put (hB : mi_B y = cc) (ho : mi_O y = own) {i a lim : Nat} {j v : Int32} (h5 : 5 ≤ d) (hd : decode cc pc = .ok (.invokevirtual i, 3)) (hq : mi_Q own i = some 2) (hcat : mi_cat (.int v :: .int j :: .ref a :: r) ≤ 8) (hk : mi_k g a = 3) (hl : mi_len g a = lim + 1) (kk : mi_wpG d y (pc + 3) L r g (mi_pt δ a lim j v) Q) : mi_wpG d y pc L (.int v :: .int j :: .ref a :: r) g δ Q := by
  subst hB
  subst ho
  exact mr_put h5 hd hq hcat hk hl kk
theorem ms_pl (hB : mi_B y = cc) (ho : mi_O y = own) {i a lim : Nat} {j : Int32} {v : Int64} (h5 : 5 ≤ d) (hd : decode cc pc = .ok (.invokevirtual i, 3)) (hq : mi_Q own i = some 5) (hcat : mi_cat (.long v :: .int j :: .ref a :: r) ≤ 8) (hk : mi_k g a = 6) (hl : mi_len g a = lim + 1) (kk : mi_wpG d y (pc + 3) L r g (mi_pl δ a lim j v) Q) : mi_wpG d y pc L (.long v :: .int j :: .ref a :: r) g δ Q := by
  subst hB
  subst ho
  exact mr_pl h5 hd hq hcat hk hl kk
theorem ms_clear (hB : mi_B y = cc) (ho : mi_O y = own) {i a : Nat} (h5 : 5 ≤ d) (hd : decode cc pc = .ok (.invokevirtual i, 3)) (hq : mi_Q own i = some 7) (hcat : mi_cat (.ref a :: r) ≤ 8) (hk : mi_k g a = 6) (hl : mi_len g a ≠ 0) (kk : mi_wpG d y (pc + 3) L r g (mi_clrL δ a) Q) : mi_wpG d y pc L (.ref a :: r) g δ Q := by
  subst hB
  subst ho
  exact mr_clear h5 hd hq hcat hk hl kk
theorem ms_abs (hB : mi_B y = cc) (ho : mi_O y = own) {i : Nat} {x : Int64} (h5 : 5 ≤ d) (hd : decode cc pc = .ok (.invokestatic i, 3)) (hq : mi_Q own i = some 8) (hcat : mi_cat (.long x :: r) ≤ 8) (kk : mi_wpG d y (pc + 3) L (.long (if 0 < x then x else -x) :: r) g δ Q) : mi_wpG d y pc L (.long x :: r) g δ Q := by
  subst hB
  subst ho
  exact mr_abs h5 hd hq hcat kk
theorem ms_min (hB : mi_B y = cc) (ho : mi_O y = own) {i : Nat} {x z : Int32} (h5 : 5 ≤ d) (hd : decode cc pc = .ok (.invokestatic i, 3)) (hq : mi_Q own i = some 9) (hcat : mi_cat (.int z :: .int x :: r) ≤ 8) (kk : mi_wpG d y (pc + 3) L (.int (if z < x then z else x) :: r) g δ Q) : mi_wpG d y pc L (.int z :: .int x :: r) g δ Q := by
  subst hB
  subst ho
  exact mr_min h5 hd hq hcat kk
theorem ms_obj (hB : mi_B y = cc) (ho : mi_O y = own) {i a : Nat} (h5 : 5 ≤ d) (hd : decode cc pc = .ok (.invokespecial i, 3)) (hq : mi_Q own i = some 11) (hcat : mi_cat (.ref a :: r) ≤ 8) (kk : mi_wpG d y (pc + 3) L r g δ Q) : mi_wpG d y pc L (.ref a :: r) g δ Q := by
  subst hB
  subst ho
  exact mr_obj h5 hd hq hcat kk
theorem ms_ini3 (hB : mi_B y = cc) (ho : mi_O y = own) {i a : Nat} {n : Int32} (h5 : 5 ≤ d) (hd : decode cc pc = .ok (.invokespecial i, 3)) (hq : mi_Q own i = some 0) (hcat : mi_cat (.int n :: .ref a :: r) ≤ 8) (hk : mi_k g a = 3) (hl : mi_len g a = 0) (hn : ¬ n < 0 ∧ n.toNatClampNeg < 1000000) (kk : mi_wpG d y (pc + 3) L r (g.set a (3, n.toNatClampNeg + 1, [])) (mi_zero δ a) Q) : mi_wpG d y pc L (.int n :: .ref a :: r) g δ Q := by
  subst hB
  subst ho
  exact mr_ini3 h5 hd hq hcat hk hl hn kk
theorem ms_ini6 (hB : mi_B y = cc) (ho : mi_O y = own) {i a : Nat} {n : Int32} (h5 : 5 ≤ d) (hd : decode cc pc = .ok (.invokespecial i, 3)) (hq : mi_Q own i = some 3) (hcat : mi_cat (.int n :: .ref a :: r) ≤ 8) (hk : mi_k g a = 6) (hl : mi_len g a = 0) (hn : ¬ n < 0 ∧ n.toNatClampNeg < 1000000) (kk : mi_wpG d y (pc + 3) L r (g.set a (6, n.toNatClampNeg + 1, [])) (mi_zero δ a) Q) : mi_wpG d y pc L (.int n :: .ref a :: r) g δ Q := by
  subst hB
  subst ho
  exact mr_ini6 h5 hd hq hcat hk hl hn kk
theorem ms_call0vI {N i z : Nat} {as Lz : List Value} {Q1 : Int32 → mi_D → Prop} (hB : mi_B y = cc) (ho : mi_O y = own) (h1 : 1 ≤ d) (hd : decode cc pc = .ok (.invokevirtual i, 3)) (hq : mi_Q own i = none) (hc : mi_call own (.invokevirtual i) 3 st (mi_GG N) = some (z, as, r)) (he : mi_entry as (mi_L z) = Lz) (F : mi_wI N (d - 1) z 0 Lz [] δ Q1) (k : ∀ (x : Int32) (δ1 : mi_D), Q1 x δ1 → mi_wpG d y (pc + 3) L (.int x :: r) (mi_GG N) δ1 Q) : mi_wpG d y pc L st (mi_GG N) δ Q := by
  subst hB
  subst ho
  subst he
  refine mr_call0 h1 hd rfl (fun h => ?_) hc (mr_mono F (fun v g' δ' ⟨x, a, b, c⟩ => by subst a; subst b; exact k x δ' c))
  unfold mi_heap
  dsimp only
  rw [hq]
  split <;> rfl
theorem ms_call0sI {N i z : Nat} {as Lz : List Value} {Q1 : Int32 → mi_D → Prop} (hB : mi_B y = cc) (ho : mi_O y = own) (h1 : 1 ≤ d) (hd : decode cc pc = .ok (.invokestatic i, 3)) (hq : mi_Q own i = none) (hc : mi_call own (.invokestatic i) 3 st (mi_GG N) = some (z, as, r)) (he : mi_entry as (mi_L z) = Lz) (F : mi_wI N (d - 1) z 0 Lz [] δ Q1) (k : ∀ (x : Int32) (δ1 : mi_D), Q1 x δ1 → mi_wpG d y (pc + 3) L (.int x :: r) (mi_GG N) δ1 Q) : mi_wpG d y pc L st (mi_GG N) δ Q := by
  subst hB
  subst ho
  subst he
  refine mr_call0 h1 hd rfl (fun h => ?_) hc (mr_mono F (fun v g' δ' ⟨x, a, b, c⟩ => by subst a; subst b; exact k x δ' c))
  unfold mi_heap
  dsimp only
  rw [hq]
  split <;> rfl
theorem ms_call0vL {N i z : Nat} {as Lz : List Value} {Q1 : Int64 → mi_D → Prop} (hB : mi_B y = cc) (ho : mi_O y = own) (h1 : 1 ≤ d) (hd : decode cc pc = .ok (.invokevirtual i, 3)) (hq : mi_Q own i = none) (hc : mi_call own (.invokevirtual i) 3 st (mi_GG N) = some (z, as, r)) (he : mi_entry as (mi_L z) = Lz) (F : mi_wL N (d - 1) z 0 Lz [] δ Q1) (k : ∀ (x : Int64) (δ1 : mi_D), Q1 x δ1 → mi_wpG d y (pc + 3) L (.long x :: r) (mi_GG N) δ1 Q) : mi_wpG d y pc L st (mi_GG N) δ Q := by
  subst hB
  subst ho
  subst he
  refine mr_call0 h1 hd rfl (fun h => ?_) hc (mr_mono F (fun v g' δ' ⟨x, a, b, c⟩ => by subst a; subst b; exact k x δ' c))
  unfold mi_heap
  dsimp only
  rw [hq]
  split <;> rfl
theorem ms_call0sL {N i z : Nat} {as Lz : List Value} {Q1 : Int64 → mi_D → Prop} (hB : mi_B y = cc) (ho : mi_O y = own) (h1 : 1 ≤ d) (hd : decode cc pc = .ok (.invokestatic i, 3)) (hq : mi_Q own i = none) (hc : mi_call own (.invokestatic i) 3 st (mi_GG N) = some (z, as, r)) (he : mi_entry as (mi_L z) = Lz) (F : mi_wL N (d - 1) z 0 Lz [] δ Q1) (k : ∀ (x : Int64) (δ1 : mi_D), Q1 x δ1 → mi_wpG d y (pc + 3) L (.long x :: r) (mi_GG N) δ1 Q) : mi_wpG d y pc L st (mi_GG N) δ Q := by
  subst hB
  subst ho
  subst he
  refine mr_call0 h1 hd rfl (fun h => ?_) hc (mr_mono F (fun v g' δ' ⟨x, a, b, c⟩ => by subst a; subst b; exact k x δ' c))
  unfold mi_heap
  dsimp only
  rw [hq]
  split <;> rfl
theorem ms_call0vV {N i z : Nat} {as Lz : List Value} {Q1 : mi_D → Prop} (hB : mi_B y = cc) (ho : mi_O y = own) (h1 : 1 ≤ d) (hd : decode cc pc = .ok (.invokevirtual i, 3)) (hq : mi_Q own i = none) (hc : mi_call own (.invokevirtual i) 3 st (mi_GG N) = some (z, as, r)) (he : mi_entry as (mi_L z) = Lz) (F : mi_wV N (d - 1) z 0 Lz [] δ Q1) (k : ∀ (δ1 : mi_D), Q1 δ1 → mi_wpG d y (pc + 3) L r (mi_GG N) δ1 Q) : mi_wpG d y pc L st (mi_GG N) δ Q := by
  subst hB
  subst ho
  subst he
  refine mr_call0 h1 hd rfl (fun h => ?_) hc (mr_mono F (fun v g' δ' ⟨a, b, c⟩ => by subst a; subst b; exact k δ' c))
  unfold mi_heap
  dsimp only
  rw [hq]
  split <;> rfl
theorem ms_call0sV {N i z : Nat} {as Lz : List Value} {Q1 : mi_D → Prop} (hB : mi_B y = cc) (ho : mi_O y = own) (h1 : 1 ≤ d) (hd : decode cc pc = .ok (.invokestatic i, 3)) (hq : mi_Q own i = none) (hc : mi_call own (.invokestatic i) 3 st (mi_GG N) = some (z, as, r)) (he : mi_entry as (mi_L z) = Lz) (F : mi_wV N (d - 1) z 0 Lz [] δ Q1) (k : ∀ (δ1 : mi_D), Q1 δ1 → mi_wpG d y (pc + 3) L r (mi_GG N) δ1 Q) : mi_wpG d y pc L st (mi_GG N) δ Q := by
  subst hB
  subst ho
  subst he
  refine mr_call0 h1 hd rfl (fun h => ?_) hc (mr_mono F (fun v g' δ' ⟨a, b, c⟩ => by subst a; subst b; exact k δ' c))
  unfold mi_heap
  dsimp only
  rw [hq]
  split <;> rfl
end MS
theorem mB_0 : mi_B 0 = cX0_init := rfl
theorem mO_0 : mi_O 0 = 0 := rfl
theorem mR_0 : mi_R 0 = none := rfl
theorem mB_1 : mi_B 1 = cX0_clear := rfl
theorem mO_1 : mi_O 1 = 0 := rfl
theorem mR_1 : mi_R 1 = none := rfl
theorem mB_2 : mi_B 2 = cX0_has := rfl
theorem mO_2 : mi_O 2 = 0 := rfl
theorem mR_2 : mi_R 2 = (some .boolean) := rfl
theorem mB_3 : mi_B 3 = cX0_isLeaf := rfl
theorem mO_3 : mi_O 3 = 0 := rfl
theorem mR_3 : mi_R 3 = (some .boolean) := rfl
theorem mB_4 : mi_B 4 = cX0_isShut := rfl
theorem mO_4 : mi_O 4 = 0 := rfl
theorem mR_4 : mi_R 4 = (some .boolean) := rfl
theorem mB_5 : mi_B 5 = cX0_setShut := rfl
theorem mO_5 : mi_O 5 = 0 := rfl
theorem mR_5 : mi_R 5 = none := rfl
theorem mB_6 : mi_B 6 = cX0_takesChild := rfl
theorem mO_6 : mi_O 6 = 0 := rfl
theorem mR_6 : mi_R 6 = (some .boolean) := rfl
theorem mB_7 : mi_B 7 = cX0_hasCode := rfl
theorem mO_7 : mi_O 7 = 0 := rfl
theorem mR_7 : mi_R 7 = (some .boolean) := rfl
theorem mB_8 : mi_B 8 = cX0_add := rfl
theorem mO_8 : mi_O 8 = 0 := rfl
theorem mR_8 : mi_R 8 = (some .int) := rfl
theorem mB_9 : mi_B 9 = cX0_putByCode := rfl
theorem mO_9 : mi_O 9 = 0 := rfl
theorem mR_9 : mi_R 9 = none := rfl
theorem mB_10 : mi_B 10 = cX0_enterLine := rfl
theorem mO_10 : mi_O 10 = 0 := rfl
theorem mR_10 : mi_R 10 = none := rfl
theorem mB_11 : mi_B 11 = cX0_totalUnder := rfl
theorem mO_11 : mi_O 11 = 0 := rfl
theorem mR_11 : mi_R 11 = (some .long) := rfl
theorem mB_12 : mi_B 12 = cX0_isUnder := rfl
theorem mO_12 : mi_O 12 = 0 := rfl
theorem mR_12 : mi_R 12 = (some .boolean) := rfl
theorem mB_13 : mi_B 13 = cX0_totalOfKind := rfl
theorem mO_13 : mi_O 13 = 0 := rfl
theorem mR_13 : mi_R 13 = (some .long) := rfl
theorem mB_14 : mi_B 14 = cX0_told := rfl
theorem mO_14 : mi_O 14 = 0 := rfl
theorem mR_14 : mi_R 14 = (some .int) := rfl
theorem mB_15 : mi_B 15 = cX1_init := rfl
theorem mO_15 : mi_O 15 = 1 := rfl
theorem mR_15 : mi_R 15 = none := rfl
theorem mB_16 : mi_B 16 = cX1_clear := rfl
theorem mO_16 : mi_O 16 = 1 := rfl
theorem mR_16 : mi_R 16 = none := rfl
theorem mB_17 : mi_B 17 = cX1_refusesAccount := rfl
theorem mO_17 : mi_O 17 = 1 := rfl
theorem mR_17 : mi_R 17 = (some .int) := rfl
theorem mB_18 : mi_B 18 = cX1_refusesShut := rfl
theorem mO_18 : mi_O 18 = 1 := rfl
theorem mR_18 : mi_R 18 = (some .int) := rfl
theorem mB_19 : mi_B 19 = cX1_refusesPeriod := rfl
theorem mO_19 : mi_O 19 = 1 := rfl
theorem mR_19 : mi_R 19 = (some .int) := rfl
theorem mB_20 : mi_B 20 = cX1_refusesOwner := rfl
theorem mO_20 : mi_O 20 = 1 := rfl
theorem mR_20 : mi_R 20 = (some .int) := rfl
theorem mB_21 : mi_B 21 = cX1_changeOwner := rfl
theorem mO_21 : mi_O 21 = 1 := rfl
theorem mR_21 : mi_R 21 = (some .int) := rfl
theorem mB_22 : mi_B 22 = cX1_refusesLine := rfl
theorem mO_22 : mi_O 22 = 1 := rfl
theorem mR_22 : mi_R 22 = (some .int) := rfl
theorem mB_23 : mi_B 23 = cX1_judge := rfl
theorem mO_23 : mi_O 23 = 1 := rfl
theorem mR_23 : mi_R 23 = (some .int) := rfl
theorem mB_24 : mi_B 24 = cX1_refusesUnjudged := rfl
theorem mO_24 : mi_O 24 = 1 := rfl
theorem mR_24 : mi_R 24 = (some .int) := rfl
theorem mB_25 : mi_B 25 = cX1_hasShut := rfl
theorem mO_25 : mi_O 25 = 1 := rfl
theorem mR_25 : mi_R 25 = (some .boolean) := rfl
theorem mB_26 : mi_B 26 = cX1_goesOver := rfl
theorem mO_26 : mi_O 26 = 1 := rfl
theorem mR_26 : mi_R 26 = (some .boolean) := rfl
theorem mB_27 : mi_B 27 = cX1_enter := rfl
theorem mO_27 : mi_O 27 = 1 := rfl
theorem mR_27 : mi_R 27 = (some .int) := rfl
theorem mB_28 : mi_B 28 = cX1_refusesBack := rfl
theorem mO_28 : mi_O 28 = 1 := rfl
theorem mR_28 : mi_R 28 = (some .int) := rfl
theorem mB_29 : mi_B 29 = cX1_turnBack := rfl
theorem mO_29 : mi_O 29 = 1 := rfl
theorem mR_29 : mi_R 29 = (some .int) := rfl
theorem mB_30 : mi_B 30 = cX1_refusesClose := rfl
theorem mO_30 : mi_O 30 = 1 := rfl
theorem mR_30 : mi_R 30 = (some .int) := rfl
theorem mB_31 : mi_B 31 = cX1_fillClosing := rfl
theorem mO_31 : mi_O 31 = 1 := rfl
theorem mR_31 : mi_R 31 = none := rfl
theorem mB_32 : mi_B 32 = cX1_isClosedOut := rfl
theorem mO_32 : mi_O 32 = 1 := rfl
theorem mR_32 : mi_R 32 = (some .boolean) := rfl
theorem mB_33 : mi_B 33 = cX1_closePeriod := rfl
theorem mO_33 : mi_O 33 = 1 := rfl
theorem mR_33 : mi_R 33 = (some .int) := rfl
theorem mB_34 : mi_B 34 = cX1_refusesReopen := rfl
theorem mO_34 : mi_O 34 = 1 := rfl
theorem mR_34 : mi_R 34 = (some .int) := rfl
theorem mB_35 : mi_B 35 = cX1_reopenPeriod := rfl
theorem mO_35 : mi_O 35 = 1 := rfl
theorem mR_35 : mi_R 35 = (some .int) := rfl
theorem mB_36 : mi_B 36 = cX1_sumInDays := rfl
theorem mO_36 : mi_O 36 = 1 := rfl
theorem mR_36 : mi_R 36 = (some .long) := rfl
theorem mB_37 : mi_B 37 = cX2_init := rfl
theorem mO_37 : mi_O 37 = 2 := rfl
theorem mR_37 : mi_R 37 = none := rfl
theorem mB_38 : mi_B 38 = cX2_clear := rfl
theorem mO_38 : mi_O 38 = 2 := rfl
theorem mR_38 : mi_R 38 = none := rfl
theorem mB_39 : mi_B 39 = cX2_has := rfl
theorem mO_39 : mi_O 39 = 2 := rfl
theorem mR_39 : mi_R 39 = (some .boolean) := rfl
theorem mB_40 : mi_B 40 = cX2_add := rfl
theorem mO_40 : mi_O 40 = 2 := rfl
theorem mR_40 : mi_R 40 = (some .int) := rfl
theorem mB_41 : mi_B 41 = cX2_accountOf := rfl
theorem mO_41 : mi_O 41 = 2 := rfl
theorem mR_41 : mi_R 41 = (some .int) := rfl
theorem mB_42 : mi_B 42 = cX2_amountOf := rfl
theorem mO_42 : mi_O 42 = 2 := rfl
theorem mR_42 : mi_R 42 = (some .long) := rfl
theorem mB_43 : mi_B 43 = cX2_turn := rfl
theorem mO_43 : mi_O 43 = 2 := rfl
theorem mR_43 : mi_R 43 = none := rfl
theorem mB_44 : mi_B 44 = cX2_gather := rfl
theorem mO_44 : mi_O 44 = 2 := rfl
theorem mR_44 : mi_R 44 = none := rfl
theorem mB_45 : mi_B 45 = cX2_ledgerLine := rfl
theorem mO_45 : mi_O 45 = 2 := rfl
theorem mR_45 : mi_R 45 = (some .long) := rfl
theorem mB_46 : mi_B 46 = cX2_toldOfLedger := rfl
theorem mO_46 : mi_O 46 = 2 := rfl
theorem mR_46 : mi_R 46 = (some .long) := rfl
theorem mB_47 : mi_B 47 = cX2_told := rfl
theorem mO_47 : mi_O 47 = 2 := rfl
theorem mR_47 : mi_R 47 = (some .int) := rfl
theorem mB_48 : mi_B 48 = cX3_init := rfl
theorem mO_48 : mi_O 48 = 3 := rfl
theorem mR_48 : mi_R 48 = none := rfl
theorem mB_49 : mi_B 49 = cX3_at := rfl
theorem mO_49 : mi_O 49 = 3 := rfl
theorem mR_49 : mi_R 49 = (some .int) := rfl
theorem mB_50 : mi_B 50 = cX3_put := rfl
theorem mO_50 : mi_O 50 = 3 := rfl
theorem mR_50 : mi_R 50 = none := rfl
theorem mB_51 : mi_B 51 = cX4_init := rfl
theorem mO_51 : mi_O 51 = 4 := rfl
theorem mR_51 : mi_R 51 = none := rfl
theorem mB_52 : mi_B 52 = cX4_begin := rfl
theorem mO_52 : mi_O 52 = 4 := rfl
theorem mR_52 : mi_R 52 = none := rfl
theorem mB_53 : mi_B 53 = cX4_number := rfl
theorem mO_53 : mi_O 53 = 4 := rfl
theorem mR_53 : mi_R 53 = none := rfl
theorem mB_54 : mi_B 54 = cX4_write := rfl
theorem mO_54 : mi_O 54 = 4 := rfl
theorem mR_54 : mi_R 54 = (some .boolean) := rfl
theorem mB_55 : mi_B 55 = cX4_put := rfl
theorem mO_55 : mi_O 55 = 4 := rfl
theorem mR_55 : mi_R 55 = none := rfl
theorem mB_56 : mi_B 56 = cX4_checkOf := rfl
theorem mO_56 : mi_O 56 = 4 := rfl
theorem mR_56 : mi_R 56 = (some .int) := rfl
theorem mB_57 : mi_B 57 = cX4_recordAt := rfl
theorem mO_57 : mi_O 57 = 4 := rfl
theorem mR_57 : mi_R 57 = (some .int) := rfl
theorem mB_58 : mi_B 58 = cX4_makeDurable := rfl
theorem mO_58 : mi_O 58 = 4 := rfl
theorem mR_58 : mi_R 58 = (some .int) := rfl
theorem mB_59 : mi_B 59 = cX4_tear := rfl
theorem mO_59 : mi_O 59 = 4 := rfl
theorem mR_59 : mi_R 59 = none := rfl
theorem mB_60 : mi_B 60 = cX4_cut := rfl
theorem mO_60 : mi_O 60 = 4 := rfl
theorem mR_60 : mi_R 60 = none := rfl
theorem mB_61 : mi_B 61 = cX5_init := rfl
theorem mO_61 : mi_O 61 = 5 := rfl
theorem mR_61 : mi_R 61 = none := rfl
theorem mB_62 : mi_B 62 = cX5_clear := rfl
theorem mO_62 : mi_O 62 = 5 := rfl
theorem mR_62 : mi_R 62 = none := rfl
theorem mB_63 : mi_B 63 = cX5_add := rfl
theorem mO_63 : mi_O 63 = 5 := rfl
theorem mR_63 : mi_R 63 = none := rfl
theorem mB_64 : mi_B 64 = cX5_total := rfl
theorem mO_64 : mi_O 64 = 5 := rfl
theorem mR_64 : mi_R 64 = (some .long) := rfl
theorem mB_65 : mi_B 65 = cX6_init := rfl
theorem mO_65 : mi_O 65 = 6 := rfl
theorem mR_65 : mi_R 65 = none := rfl
theorem mB_66 : mi_B 66 = cX6_at := rfl
theorem mO_66 : mi_O 66 = 6 := rfl
theorem mR_66 : mi_R 66 = (some .long) := rfl
theorem mB_67 : mi_B 67 = cX6_put := rfl
theorem mO_67 : mi_O 67 = 6 := rfl
theorem mR_67 : mi_R 67 = none := rfl
theorem mB_68 : mi_B 68 = cX6_clear := rfl
theorem mO_68 : mi_O 68 = 6 := rfl
theorem mR_68 : mi_R 68 = none := rfl
theorem mB_69 : mi_B 69 = cX7_init := rfl
theorem mO_69 : mi_O 69 = 7 := rfl
theorem mR_69 : mi_R 69 = none := rfl
theorem mB_70 : mi_B 70 = cX7_clear := rfl
theorem mO_70 : mi_O 70 = 7 := rfl
theorem mR_70 : mi_R 70 = none := rfl
theorem mB_71 : mi_B 71 = cX7_has := rfl
theorem mO_71 : mi_O 71 = 7 := rfl
theorem mR_71 : mi_R 71 = (some .boolean) := rfl
theorem mB_72 : mi_B 72 = cX7_add := rfl
theorem mO_72 : mi_O 72 = 7 := rfl
theorem mR_72 : mi_R 72 = (some .int) := rfl
theorem mB_73 : mi_B 73 = cX7_firstDay := rfl
theorem mO_73 : mi_O 73 = 7 := rfl
theorem mR_73 : mi_R 73 = (some .int) := rfl
theorem mB_74 : mi_B 74 = cX7_lastDay := rfl
theorem mO_74 : mi_O 74 = 7 := rfl
theorem mR_74 : mi_R 74 = (some .int) := rfl
theorem mB_75 : mi_B 75 = cX7_firstFreeDay := rfl
theorem mO_75 : mi_O 75 = 7 := rfl
theorem mR_75 : mi_R 75 = (some .int) := rfl
theorem mB_76 : mi_B 76 = cX7_withDay := rfl
theorem mO_76 : mi_O 76 = 7 := rfl
theorem mR_76 : mi_R 76 = (some .int) := rfl
theorem mB_77 : mi_B 77 = cX7_closingOf := rfl
theorem mO_77 : mi_O 77 = 7 := rfl
theorem mR_77 : mi_R 77 = (some .int) := rfl
theorem mB_78 : mi_B 78 = cX7_closeFirstOpen := rfl
theorem mO_78 : mi_O 78 = 7 := rfl
theorem mR_78 : mi_R 78 = none := rfl
theorem mB_79 : mi_B 79 = cX7_openLastClosed := rfl
theorem mO_79 : mi_O 79 = 7 := rfl
theorem mR_79 : mi_R 79 = none := rfl
theorem mB_80 : mi_B 80 = cX7_told := rfl
theorem mO_80 : mi_O 80 = 7 := rfl
theorem mR_80 : mi_R 80 = (some .int) := rfl
theorem mB_81 : mi_B 81 = cX8_init := rfl
theorem mO_81 : mi_O 81 = 8 := rfl
theorem mR_81 : mi_R 81 = none := rfl
theorem mB_82 : mi_B 82 = cX8_redo := rfl
theorem mO_82 : mi_O 82 = 8 := rfl
theorem mR_82 : mi_R 82 = (some .boolean) := rfl
theorem mB_83 : mi_B 83 = cX8_redoAccount := rfl
theorem mO_83 : mi_O 83 = 8 := rfl
theorem mR_83 : mi_R 83 = (some .boolean) := rfl
theorem mB_84 : mi_B 84 = cX8_redoShut := rfl
theorem mO_84 : mi_O 84 = 8 := rfl
theorem mR_84 : mi_R 84 = (some .boolean) := rfl
theorem mB_85 : mi_B 85 = cX8_redoPeriod := rfl
theorem mO_85 : mi_O 85 = 8 := rfl
theorem mR_85 : mi_R 85 = (some .boolean) := rfl
theorem mB_86 : mi_B 86 = cX8_redoOwner := rfl
theorem mO_86 : mi_O 86 = 8 := rfl
theorem mR_86 : mi_R 86 = (some .boolean) := rfl
theorem mB_87 : mi_B 87 = cX8_redoPost := rfl
theorem mO_87 : mi_O 87 = 8 := rfl
theorem mR_87 : mi_R 87 = (some .boolean) := rfl
theorem mB_88 : mi_B 88 = cX8_readLines := rfl
theorem mO_88 : mi_O 88 = 8 := rfl
theorem mR_88 : mi_R 88 = (some .boolean) := rfl
theorem mB_89 : mi_B 89 = cX8_redoBack := rfl
theorem mO_89 : mi_O 89 = 8 := rfl
theorem mR_89 : mi_R 89 = (some .boolean) := rfl
theorem mB_90 : mi_B 90 = cX8_redoClose := rfl
theorem mO_90 : mi_O 90 = 8 := rfl
theorem mR_90 : mi_R 90 = (some .boolean) := rfl
theorem mB_91 : mi_B 91 = cX8_redoReopen := rfl
theorem mO_91 : mi_O 91 = 8 := rfl
theorem mR_91 : mi_R 91 = (some .boolean) := rfl
theorem mB_92 : mi_B 92 = cX8_isReadWhole := rfl
theorem mO_92 : mi_O 92 = 8 := rfl
theorem mR_92 : mi_R 92 = (some .boolean) := rfl
theorem mB_93 : mi_B 93 = cX8_nextFlag := rfl
theorem mO_93 : mi_O 93 = 8 := rfl
theorem mR_93 : mi_R 93 = (some .boolean) := rfl
theorem mB_94 : mi_B 94 = cX8_nextInt := rfl
theorem mO_94 : mi_O 94 = 8 := rfl
theorem mR_94 : mi_R 94 = (some .int) := rfl
theorem mB_95 : mi_B 95 = cX8_nextNumber := rfl
theorem mO_95 : mi_O 95 = 8 := rfl
theorem mR_95 : mi_R 95 = (some .long) := rfl
theorem mB_96 : mi_B 96 = cX9_init := rfl
theorem mO_96 : mi_O 96 = 9 := rfl
theorem mR_96 : mi_R 96 = none := rfl
theorem mB_97 : mi_B 97 = cX9_clear := rfl
theorem mO_97 : mi_O 97 = 9 := rfl
theorem mR_97 : mi_R 97 = none := rfl
theorem mB_98 : mi_B 98 = cX9_add := rfl
theorem mO_98 : mi_O 98 = 9 := rfl
theorem mR_98 : mi_R 98 = none := rfl
theorem mB_99 : mi_B 99 = cX9_divide := rfl
theorem mO_99 : mi_O 99 = 9 := rfl
theorem mR_99 : mi_R 99 = (some .boolean) := rfl
theorem mB_100 : mi_B 100 = cX9_giveRest := rfl
theorem mO_100 : mi_O 100 = 9 := rfl
theorem mR_100 : mi_R 100 = none := rfl
theorem mB_101 : mi_B 101 = cX9_withGreatestRemainder := rfl
theorem mO_101 : mi_O 101 = 9 := rfl
theorem mR_101 : mi_R 101 = (some .int) := rfl
theorem mB_102 : mi_B 102 = cX10_init := rfl
theorem mO_102 : mi_O 102 = 10 := rfl
theorem mR_102 : mi_R 102 = none := rfl
theorem mB_103 : mi_B 103 = cX10_clear := rfl
theorem mO_103 : mi_O 103 = 10 := rfl
theorem mR_103 : mi_R 103 = none := rfl
theorem mB_104 : mi_B 104 = cX10_write := rfl
theorem mO_104 : mi_O 104 = 10 := rfl
theorem mR_104 : mi_R 104 = (some .boolean) := rfl
theorem mB_105 : mi_B 105 = cX10_writeLeaves := rfl
theorem mO_105 : mi_O 105 = 10 := rfl
theorem mR_105 : mi_R 105 = none := rfl
theorem mB_106 : mi_B 106 = cX10_writeUnder := rfl
theorem mO_106 : mi_O 106 = 10 := rfl
theorem mR_106 : mi_R 106 = none := rfl
theorem mB_107 : mi_B 107 = cX10_writeKinds := rfl
theorem mO_107 : mi_O 107 = 10 := rfl
theorem mR_107 : mi_R 107 = none := rfl
theorem mB_108 : mi_B 108 = cX10_writeTotal := rfl
theorem mO_108 : mi_O 108 = 10 := rfl
theorem mR_108 : mi_R 108 = none := rfl
theorem mB_109 : mi_B 109 = cX10_writeRow := rfl
theorem mO_109 : mi_O 109 = 10 := rfl
theorem mR_109 : mi_R 109 = none := rfl
theorem mB_110 : mi_B 110 = cX10_putMoney := rfl
theorem mO_110 : mi_O 110 = 10 := rfl
theorem mR_110 : mi_R 110 = none := rfl
theorem mB_111 : mi_B 111 = cX10_put := rfl
theorem mO_111 : mi_O 111 = 10 := rfl
theorem mR_111 : mi_R 111 = none := rfl
theorem mB_112 : mi_B 112 = cX11_init := rfl
theorem mO_112 : mi_O 112 = 11 := rfl
theorem mR_112 : mi_R 112 = none := rfl
theorem mB_113 : mi_B 113 = cX11_account := rfl
theorem mO_113 : mi_O 113 = 11 := rfl
theorem mR_113 : mi_R 113 = (some .int) := rfl
theorem mB_114 : mi_B 114 = cX11_shut := rfl
theorem mO_114 : mi_O 114 = 11 := rfl
theorem mR_114 : mi_R 114 = (some .int) := rfl
theorem mB_115 : mi_B 115 = cX11_period := rfl
theorem mO_115 : mi_O 115 = 11 := rfl
theorem mR_115 : mi_R 115 = (some .int) := rfl
theorem mB_116 : mi_B 116 = cX11_owner := rfl
theorem mO_116 : mi_O 116 = 11 := rfl
theorem mR_116 : mi_R 116 = (some .int) := rfl
theorem mB_117 : mi_B 117 = cX11_line := rfl
theorem mO_117 : mi_O 117 = 11 := rfl
theorem mR_117 : mi_R 117 = (some .int) := rfl
theorem mB_118 : mi_B 118 = cX11_drop := rfl
theorem mO_118 : mi_O 118 = 11 := rfl
theorem mR_118 : mi_R 118 = (some .int) := rfl
theorem mB_119 : mi_B 119 = cX11_post := rfl
theorem mO_119 : mi_O 119 = 11 := rfl
theorem mR_119 : mi_R 119 = (some .int) := rfl
theorem mB_120 : mi_B 120 = cX11_back := rfl
theorem mO_120 : mi_O 120 = 11 := rfl
theorem mR_120 : mi_R 120 = (some .int) := rfl
theorem mB_121 : mi_B 121 = cX11_close := rfl
theorem mO_121 : mi_O 121 = 11 := rfl
theorem mR_121 : mi_R 121 = (some .int) := rfl
theorem mB_122 : mi_B 122 = cX11_reopen := rfl
theorem mO_122 : mi_O 122 = 11 := rfl
theorem mR_122 : mi_R 122 = (some .int) := rfl
theorem mB_123 : mi_B 123 = cX11_share := rfl
theorem mO_123 : mi_O 123 = 11 := rfl
theorem mR_123 : mi_R 123 = (some .int) := rfl
theorem mB_124 : mi_B 124 = cX11_sync := rfl
theorem mO_124 : mi_O 124 = 11 := rfl
theorem mR_124 : mi_R 124 = (some .int) := rfl
theorem mB_125 : mi_B 125 = cX11_crash := rfl
theorem mO_125 : mi_O 125 = 11 := rfl
theorem mR_125 : mi_R 125 = (some .int) := rfl
theorem mB_126 : mi_B 126 = cX11_recover := rfl
theorem mO_126 : mi_O 126 = 11 := rfl
theorem mR_126 : mi_R 126 = (some .int) := rfl
theorem mB_127 : mi_B 127 = cX11_byteAt := rfl
theorem mO_127 : mi_O 127 = 11 := rfl
theorem mR_127 : mi_R 127 = (some .int) := rfl
theorem mB_128 : mi_B 128 = cX11_of := rfl
theorem mO_128 : mi_O 128 = 11 := rfl
theorem mR_128 : mi_R 128 = (some .int) := rfl
theorem mB_129 : mi_B 129 = cX11_balance := rfl
theorem mO_129 : mi_O 129 = 11 := rfl
theorem mR_129 : mi_R 129 = (some .long) := rfl
theorem mB_130 : mi_B 130 = cX11_sum := rfl
theorem mO_130 : mi_O 130 = 11 := rfl
theorem mR_130 : mi_R 130 = (some .long) := rfl
theorem mB_131 : mi_B 131 = cX11_entry := rfl
theorem mO_131 : mi_O 131 = 11 := rfl
theorem mR_131 : mi_R 131 = (some .int) := rfl
theorem mB_132 : mi_B 132 = cX11_lineOf := rfl
theorem mO_132 : mi_O 132 = 11 := rfl
theorem mR_132 : mi_R 132 = (some .long) := rfl
theorem mB_133 : mi_B 133 = cX11_ledger := rfl
theorem mO_133 : mi_O 133 = 11 := rfl
theorem mR_133 : mi_R 133 = (some .long) := rfl
theorem mB_134 : mi_B 134 = cX11_periodOf := rfl
theorem mO_134 : mi_O 134 = 11 := rfl
theorem mR_134 : mi_R 134 = (some .int) := rfl
theorem mB_135 : mi_B 135 = cX11_sheet := rfl
theorem mO_135 : mi_O 135 = 11 := rfl
theorem mR_135 : mi_R 135 = (some .int) := rfl
theorem mB_136 : mi_B 136 = cX11_shown := rfl
theorem mO_136 : mi_O 136 = 11 := rfl
theorem mR_136 : mi_R 136 = (some .int) := rfl
theorem mB_137 : mi_B 137 = cX11_part := rfl
theorem mO_137 : mi_O 137 = 11 := rfl
theorem mR_137 : mi_R 137 = (some .long) := rfl
theorem mB_138 : mi_B 138 = cX11_count := rfl
theorem mO_138 : mi_O 138 = 11 := rfl
theorem mR_138 : mi_R 138 = (some .int) := rfl
theorem mB_139 : mi_B 139 = cX11_countOfBooks := rfl
theorem mO_139 : mi_O 139 = 11 := rfl
theorem mR_139 : mi_R 139 = (some .int) := rfl
theorem mB_140 : mi_B 140 = cX11_writePlain := rfl
theorem mO_140 : mi_O 140 = 11 := rfl
theorem mR_140 : mi_R 140 = (some .int) := rfl
theorem mB_141 : mi_B 141 = cX11_refusesShare := rfl
theorem mO_141 : mi_O 141 = 11 := rfl
theorem mR_141 : mi_R 141 = (some .int) := rfl
theorem mB_142 : mi_B 142 = cX11_shareOut := rfl
theorem mO_142 : mi_O 142 = 11 := rfl
theorem mR_142 : mi_R 142 = none := rfl
theorem mB_143 : mi_B 143 = cX11_areWeights := rfl
theorem mO_143 : mi_O 143 = 11 := rfl
theorem mR_143 : mi_R 143 = (some .boolean) := rfl
theorem mB_144 : mi_B 144 = cX11_isPartWeight := rfl
theorem mO_144 : mi_O 144 = 11 := rfl
theorem mR_144 : mi_R 144 = (some .boolean) := rfl
theorem mB_145 : mi_B 145 = cX11_isAmount := rfl
theorem mO_145 : mi_O 145 = 11 := rfl
theorem mR_145 : mi_R 145 = (some .boolean) := rfl
theorem mB_146 : mi_B 146 = cX11_isWithin := rfl
theorem mO_146 : mi_O 146 = 11 := rfl
theorem mR_146 : mi_R 146 = (some .boolean) := rfl
theorem mB_147 : mi_B 147 = cX12_init := rfl
theorem mO_147 : mi_O 147 = 12 := rfl
theorem mR_147 : mi_R 147 = none := rfl
theorem mB_148 : mi_B 148 = cX12_in := rfl
theorem mO_148 : mi_O 148 = 12 := rfl
theorem mR_148 : mi_R 148 = (some .boolean) := rfl
theorem mB_149 : mi_B 149 = cX12_isAccount := rfl
theorem mO_149 : mi_O 149 = 12 := rfl
theorem mR_149 : mi_R 149 = (some .boolean) := rfl
theorem mB_150 : mi_B 150 = cX12_begin := rfl
theorem mO_150 : mi_O 150 = 12 := rfl
theorem mR_150 : mi_R 150 = none := rfl
theorem mB_151 : mi_B 151 = cX12_say := rfl
theorem mO_151 : mi_O 151 = 12 := rfl
theorem mR_151 : mi_R 151 = none := rfl
theorem mB_152 : mi_B 152 = cX12_hasRoom := rfl
theorem mO_152 : mi_O 152 = 12 := rfl
theorem mR_152 : mi_R 152 = (some .boolean) := rfl
theorem mB_153 : mi_B 153 = cX12_checked := rfl
theorem mO_153 : mi_O 153 = 12 := rfl
theorem mR_153 : mi_R 153 = (some .int) := rfl
theorem mB_154 : mi_B 154 = cX12_append := rfl
theorem mO_154 : mi_O 154 = 12 := rfl
theorem mR_154 : mi_R 154 = none := rfl
theorem mB_155 : mi_B 155 = cX12_write := rfl
theorem mO_155 : mi_O 155 = 12 := rfl
theorem mR_155 : mi_R 155 = none := rfl
theorem mB_156 : mi_B 156 = cX12_isTold := rfl
theorem mO_156 : mi_O 156 = 12 := rfl
theorem mR_156 : mi_R 156 = (some .boolean) := rfl
theorem mB_157 : mi_B 157 = cX12_account := rfl
theorem mO_157 : mi_O 157 = 12 := rfl
theorem mR_157 : mi_R 157 = (some .int) := rfl
theorem mB_158 : mi_B 158 = cX12_shut := rfl
theorem mO_158 : mi_O 158 = 12 := rfl
theorem mR_158 : mi_R 158 = (some .int) := rfl
theorem mB_159 : mi_B 159 = cX12_firstDay := rfl
theorem mO_159 : mi_O 159 = 12 := rfl
theorem mR_159 : mi_R 159 = (some .int) := rfl
theorem mB_160 : mi_B 160 = cX12_period := rfl
theorem mO_160 : mi_O 160 = 12 := rfl
theorem mR_160 : mi_R 160 = (some .int) := rfl
theorem mB_161 : mi_B 161 = cX12_owner := rfl
theorem mO_161 : mi_O 161 = 12 := rfl
theorem mR_161 : mi_R 161 = (some .int) := rfl
theorem mB_162 : mi_B 162 = cX12_line := rfl
theorem mO_162 : mi_O 162 = 12 := rfl
theorem mR_162 : mi_R 162 = (some .int) := rfl
theorem mB_163 : mi_B 163 = cX12_drop := rfl
theorem mO_163 : mi_O 163 = 12 := rfl
theorem mR_163 : mi_R 163 = (some .int) := rfl
theorem mB_164 : mi_B 164 = cX12_hand := rfl
theorem mO_164 : mi_O 164 = 12 := rfl
theorem mR_164 : mi_R 164 = none := rfl
theorem mB_165 : mi_B 165 = cX12_periodAt := rfl
theorem mO_165 : mi_O 165 = 12 := rfl
theorem mR_165 : mi_R 165 = (some .int) := rfl
theorem mB_166 : mi_B 166 = cX12_isOver := rfl
theorem mO_166 : mi_O 166 = 12 := rfl
theorem mR_166 : mi_R 166 = (some .boolean) := rfl
theorem mB_167 : mi_B 167 = cX12_judged := rfl
theorem mO_167 : mi_O 167 = 12 := rfl
theorem mR_167 : mi_R 167 = (some .int) := rfl
theorem mB_168 : mi_B 168 = cX12_enter := rfl
theorem mO_168 : mi_O 168 = 12 := rfl
theorem mR_168 : mi_R 168 = (some .int) := rfl
theorem mB_169 : mi_B 169 = cX12_sayPost := rfl
theorem mO_169 : mi_O 169 = 12 := rfl
theorem mR_169 : mi_R 169 = none := rfl
theorem mB_170 : mi_B 170 = cX12_posted := rfl
theorem mO_170 : mi_O 170 = 12 := rfl
theorem mR_170 : mi_R 170 = (some .int) := rfl
theorem mB_171 : mi_B 171 = cX12_post := rfl
theorem mO_171 : mi_O 171 = 12 := rfl
theorem mR_171 : mi_R 171 = (some .int) := rfl
theorem mB_172 : mi_B 172 = cX12_back := rfl
theorem mO_172 : mi_O 172 = 12 := rfl
theorem mR_172 : mi_R 172 = (some .int) := rfl
theorem mB_173 : mi_B 173 = cX12_turned := rfl
theorem mO_173 : mi_O 173 = 12 := rfl
theorem mR_173 : mi_R 173 = none := rfl
theorem mB_174 : mi_B 174 = cX12_sumOf := rfl
theorem mO_174 : mi_O 174 = 12 := rfl
theorem mR_174 : mi_R 174 = (some .long) := rfl
theorem mB_175 : mi_B 175 = cX12_nextCode := rfl
theorem mO_175 : mi_O 175 = 12 := rfl
theorem mR_175 : mi_R 175 = (some .int) := rfl
theorem mB_176 : mi_B 176 = cX12_close := rfl
theorem mO_176 : mi_O 176 = 12 := rfl
theorem mR_176 : mi_R 176 = (some .int) := rfl
theorem mB_177 : mi_B 177 = cX12_reopen := rfl
theorem mO_177 : mi_O 177 = 12 := rfl
theorem mR_177 : mi_R 177 = (some .int) := rfl
theorem mB_178 : mi_B 178 = cX12_shares := rfl
theorem mO_178 : mi_O 178 = 12 := rfl
theorem mR_178 : mi_R 178 = none := rfl
theorem mB_179 : mi_B 179 = cX12_share := rfl
theorem mO_179 : mi_O 179 = 12 := rfl
theorem mR_179 : mi_R 179 = (some .int) := rfl
theorem mB_180 : mi_B 180 = cX12_part := rfl
theorem mO_180 : mi_O 180 = 12 := rfl
theorem mR_180 : mi_R 180 = (some .long) := rfl
theorem mB_181 : mi_B 181 = cX12_sync := rfl
theorem mO_181 : mi_O 181 = 12 := rfl
theorem mR_181 : mi_R 181 = (some .int) := rfl
theorem mB_182 : mi_B 182 = cX12_crash := rfl
theorem mO_182 : mi_O 182 = 12 := rfl
theorem mR_182 : mi_R 182 = (some .int) := rfl
theorem mB_183 : mi_B 183 = cX12_number := rfl
theorem mO_183 : mi_O 183 = 12 := rfl
theorem mR_183 : mi_R 183 = (some .long) := rfl
theorem mB_184 : mi_B 184 = cX12_whole := rfl
theorem mO_184 : mi_O 184 = 12 := rfl
theorem mR_184 : mi_R 184 = (some .int) := rfl
theorem mB_185 : mi_B 185 = cX12_truth := rfl
theorem mO_185 : mi_O 185 = 12 := rfl
theorem mR_185 : mi_R 185 = (some .boolean) := rfl
theorem mB_186 : mi_B 186 = cX12_isEnded := rfl
theorem mO_186 : mi_O 186 = 12 := rfl
theorem mR_186 : mi_R 186 = (some .boolean) := rfl
theorem mB_187 : mi_B 187 = cX12_isDone := rfl
theorem mO_187 : mi_O 187 = 12 := rfl
theorem mR_187 : mi_R 187 = (some .boolean) := rfl
theorem mB_188 : mi_B 188 = cX12_isPosted := rfl
theorem mO_188 : mi_O 188 = 12 := rfl
theorem mR_188 : mi_R 188 = (some .boolean) := rfl
theorem mB_189 : mi_B 189 = cX12_isNext := rfl
theorem mO_189 : mi_O 189 = 12 := rfl
theorem mR_189 : mi_R 189 = (some .boolean) := rfl
theorem mB_190 : mi_B 190 = cX12_recover := rfl
theorem mO_190 : mi_O 190 = 12 := rfl
theorem mR_190 : mi_R 190 = (some .int) := rfl
theorem mB_191 : mi_B 191 = cX12_byteAt := rfl
theorem mO_191 : mi_O 191 = 12 := rfl
theorem mR_191 : mi_R 191 = (some .int) := rfl
theorem mB_192 : mi_B 192 = cX12_of := rfl
theorem mO_192 : mi_O 192 = 12 := rfl
theorem mR_192 : mi_R 192 = (some .int) := rfl
theorem mB_193 : mi_B 193 = cX12_isUnder := rfl
theorem mO_193 : mi_O 193 = 12 := rfl
theorem mR_193 : mi_R 193 = (some .boolean) := rfl
theorem mB_194 : mi_B 194 = cX12_balanceOf := rfl
theorem mO_194 : mi_O 194 = 12 := rfl
theorem mR_194 : mi_R 194 = (some .long) := rfl
theorem mB_195 : mi_B 195 = cX12_balance := rfl
theorem mO_195 : mi_O 195 = 12 := rfl
theorem mR_195 : mi_R 195 = (some .long) := rfl
theorem mB_196 : mi_B 196 = cX12_sum := rfl
theorem mO_196 : mi_O 196 = 12 := rfl
theorem mR_196 : mi_R 196 = (some .long) := rfl
theorem mB_197 : mi_B 197 = cX12_entry := rfl
theorem mO_197 : mi_O 197 = 12 := rfl
theorem mR_197 : mi_R 197 = (some .int) := rfl
theorem mB_198 : mi_B 198 = cX12_lineOf := rfl
theorem mO_198 : mi_O 198 = 12 := rfl
theorem mR_198 : mi_R 198 = (some .long) := rfl
theorem mB_199 : mi_B 199 = cX12_ledger := rfl
theorem mO_199 : mi_O 199 = 12 := rfl
theorem mR_199 : mi_R 199 = (some .long) := rfl
theorem mB_200 : mi_B 200 = cX12_periodOf := rfl
theorem mO_200 : mi_O 200 = 12 := rfl
theorem mR_200 : mi_R 200 = (some .int) := rfl
theorem mB_201 : mi_B 201 = cX12_put := rfl
theorem mO_201 : mi_O 201 = 12 := rfl
theorem mR_201 : mi_R 201 = none := rfl
theorem mB_202 : mi_B 202 = cX12_money := rfl
theorem mO_202 : mi_O 202 = 12 := rfl
theorem mR_202 : mi_R 202 = none := rfl
theorem mB_203 : mi_B 203 = cX12_row := rfl
theorem mO_203 : mi_O 203 = 12 := rfl
theorem mR_203 : mi_R 203 = none := rfl
theorem mB_204 : mi_B 204 = cX12_tree := rfl
theorem mO_204 : mi_O 204 = 12 := rfl
theorem mR_204 : mi_R 204 = none := rfl
theorem mB_205 : mi_B 205 = cX12_ofKind := rfl
theorem mO_205 : mi_O 205 = 12 := rfl
theorem mR_205 : mi_R 205 = (some .long) := rfl
theorem mB_206 : mi_B 206 = cX12_total := rfl
theorem mO_206 : mi_O 206 = 12 := rfl
theorem mR_206 : mi_R 206 = none := rfl
theorem mB_207 : mi_B 207 = cX12_sheet := rfl
theorem mO_207 : mi_O 207 = 12 := rfl
theorem mR_207 : mi_R 207 = (some .int) := rfl
theorem mB_208 : mi_B 208 = cX12_shown := rfl
theorem mO_208 : mi_O 208 = 12 := rfl
theorem mR_208 : mi_R 208 = (some .int) := rfl
theorem mB_209 : mi_B 209 = cX12_count := rfl
theorem mO_209 : mi_O 209 = 12 := rfl
theorem mR_209 : mi_R 209 = (some .int) := rfl
theorem mB_210 : mi_B 210 = cL_law := rfl
theorem mO_210 : mi_O 210 = 13 := rfl
theorem mR_210 : mi_R 210 = (some .boolean) := rfl
theorem mF_0_14 : mi_F 0 14 = some (0, 0) := by decide +kernel
theorem mF_10_97 : mi_F 10 97 = some (0, 0) := by decide +kernel
theorem mF_0_20 : mi_F 0 20 = some (0, 1) := by decide +kernel
theorem mF_10_73 : mi_F 10 73 = some (0, 1) := by decide +kernel
theorem mF_1_75 : mi_F 1 75 = some (0, 1) := by decide +kernel
theorem mF_0_23 : mi_F 0 23 = some (0, 2) := by decide +kernel
theorem mF_10_70 : mi_F 10 70 = some (0, 2) := by decide +kernel
theorem mF_0_26 : mi_F 0 26 = some (0, 3) := by decide +kernel
theorem mF_10_94 : mi_F 10 94 = some (0, 3) := by decide +kernel
theorem mF_0_29 : mi_F 0 29 = some (0, 4) := by decide +kernel
theorem mF_11_232 : mi_F 11 232 = some (0, 4) := by decide +kernel
theorem mF_0_32 : mi_F 0 32 = some (0, 5) := by decide +kernel
theorem mF_10_47 : mi_F 10 47 = some (0, 5) := by decide +kernel
theorem mF_1_178 : mi_F 1 178 = some (0, 5) := by decide +kernel
theorem mF_0_38 : mi_F 0 38 = some (0, 6) := by decide +kernel
theorem mF_10_58 : mi_F 10 58 = some (0, 6) := by decide +kernel
theorem mF_1_116 : mi_F 1 116 = some (0, 6) := by decide +kernel
theorem mF_11_199 : mi_F 11 199 = some (0, 6) := by decide +kernel
theorem mF_0_42 : mi_F 0 42 = some (0, 7) := by decide +kernel
theorem mF_0_45 : mi_F 0 45 = some (0, 8) := by decide +kernel
theorem mF_0_48 : mi_F 0 48 = some (0, 9) := by decide +kernel
theorem mF_1_61 : mi_F 1 61 = some (0, 9) := by decide +kernel
theorem mF_10_44 : mi_F 10 44 = some (0, 9) := by decide +kernel
theorem mF_11_275 : mi_F 11 275 = some (0, 9) := by decide +kernel
theorem mF_7_14 : mi_F 7 14 = some (7, 0) := by decide +kernel
theorem mF_7_20 : mi_F 7 20 = some (7, 1) := by decide +kernel
theorem mF_7_23 : mi_F 7 23 = some (7, 2) := by decide +kernel
theorem mF_1_74 : mi_F 1 74 = some (7, 2) := by decide +kernel
theorem mF_11_276 : mi_F 11 276 = some (7, 2) := by decide +kernel
theorem mF_7_27 : mi_F 7 27 = some (7, 3) := by decide +kernel
theorem mF_1_99 : mi_F 1 99 = some (7, 3) := by decide +kernel
theorem mF_11_277 : mi_F 11 277 = some (7, 3) := by decide +kernel
theorem mF_2_14 : mi_F 2 14 = some (2, 0) := by decide +kernel
theorem mF_2_20 : mi_F 2 20 = some (2, 1) := by decide +kernel
theorem mF_1_154 : mi_F 1 154 = some (2, 1) := by decide +kernel
theorem mF_2_23 : mi_F 2 23 = some (2, 2) := by decide +kernel
theorem mF_1_140 : mi_F 1 140 = some (2, 2) := by decide +kernel
theorem mF_2_26 : mi_F 2 26 = some (2, 3) := by decide +kernel
theorem mF_11_219 : mi_F 11 219 = some (2, 3) := by decide +kernel
theorem mF_2_29 : mi_F 2 29 = some (2, 4) := by decide +kernel
theorem mF_1_143 : mi_F 1 143 = some (2, 4) := by decide +kernel
theorem mF_2_32 : mi_F 2 32 = some (2, 5) := by decide +kernel
theorem mF_2_35 : mi_F 2 35 = some (2, 6) := by decide +kernel
theorem mF_2_38 : mi_F 2 38 = some (2, 7) := by decide +kernel
theorem mF_2_44 : mi_F 2 44 = some (2, 8) := by decide +kernel
theorem mF_2_48 : mi_F 2 48 = some (2, 9) := by decide +kernel
theorem mF_1_113 : mi_F 1 113 = some (2, 9) := by decide +kernel
theorem mF_11_280 : mi_F 11 280 = some (2, 9) := by decide +kernel
theorem mF_2_52 : mi_F 2 52 = some (2, 10) := by decide +kernel
theorem mF_1_12 : mi_F 1 12 = some (1, 0) := by decide +kernel
theorem mF_11_53 : mi_F 11 53 = some (1, 0) := by decide +kernel
theorem mF_8_91 : mi_F 8 91 = some (1, 0) := by decide +kernel
theorem mF_1_21 : mi_F 1 21 = some (1, 1) := by decide +kernel
theorem mF_11_101 : mi_F 11 101 = some (1, 1) := by decide +kernel
theorem mF_8_112 : mi_F 8 112 = some (1, 1) := by decide +kernel
theorem mF_1_28 : mi_F 1 28 = some (1, 2) := by decide +kernel
theorem mF_11_211 : mi_F 11 211 = some (1, 2) := by decide +kernel
theorem mF_1_32 : mi_F 1 32 = some (1, 3) := by decide +kernel
theorem mF_11_281 : mi_F 11 281 = some (1, 3) := by decide +kernel
theorem mF_1_41 : mi_F 1 41 = some (1, 4) := by decide +kernel
theorem mF_4_14 : mi_F 4 14 = some (4, 0) := by decide +kernel
theorem mF_8_39 : mi_F 8 39 = some (4, 0) := by decide +kernel
theorem mF_11_180 : mi_F 11 180 = some (4, 0) := by decide +kernel
theorem mF_4_20 : mi_F 4 20 = some (4, 1) := by decide +kernel
theorem mF_4_27 : mi_F 4 27 = some (4, 2) := by decide +kernel
theorem mF_4_23 : mi_F 4 23 = some (4, 3) := by decide +kernel
theorem mF_4_36 : mi_F 4 36 = some (4, 4) := by decide +kernel
theorem mF_11_168 : mi_F 11 168 = some (4, 4) := by decide +kernel
theorem mF_4_54 : mi_F 4 54 = some (4, 5) := by decide +kernel
theorem mF_11_266 : mi_F 11 266 = some (4, 5) := by decide +kernel
theorem mF_4_49 : mi_F 4 49 = some (4, 6) := by decide +kernel
theorem mF_11_269 : mi_F 11 269 = some (4, 6) := by decide +kernel
theorem mF_5_12 : mi_F 5 12 = some (5, 0) := by decide +kernel
theorem mF_2_62 : mi_F 2 62 = some (5, 0) := by decide +kernel
theorem mF_1_114 : mi_F 1 114 = some (5, 0) := by decide +kernel
theorem mF_11_288 : mi_F 11 288 = some (5, 0) := by decide +kernel
theorem mF_5_21 : mi_F 5 21 = some (5, 1) := by decide +kernel
theorem mF_2_69 : mi_F 2 69 = some (5, 1) := by decide +kernel
theorem mF_1_122 : mi_F 1 122 = some (5, 1) := by decide +kernel
theorem mF_11_290 : mi_F 11 290 = some (5, 1) := by decide +kernel
theorem mF_5_25 : mi_F 5 25 = some (5, 2) := by decide +kernel
theorem mF_2_59 : mi_F 2 59 = some (5, 2) := by decide +kernel
theorem mF_11_119 : mi_F 11 119 = some (5, 2) := by decide +kernel
theorem mF_1_89 : mi_F 1 89 = some (5, 2) := by decide +kernel
theorem mF_8_20 : mi_F 8 20 = some (8, 0) := by decide +kernel
theorem mF_8_24 : mi_F 8 24 = some (8, 1) := by decide +kernel
theorem mF_8_14 : mi_F 8 14 = some (8, 2) := by decide +kernel
theorem mF_8_28 : mi_F 8 28 = some (8, 3) := by decide +kernel
theorem mF_8_32 : mi_F 8 32 = some (8, 4) := by decide +kernel
theorem mF_8_35 : mi_F 8 35 = some (8, 5) := by decide +kernel
theorem mF_9_14 : mi_F 9 14 = some (9, 0) := by decide +kernel
theorem mF_11_258 : mi_F 11 258 = some (9, 0) := by decide +kernel
theorem mF_9_23 : mi_F 9 23 = some (9, 1) := by decide +kernel
theorem mF_9_27 : mi_F 9 27 = some (9, 2) := by decide +kernel
theorem mF_9_30 : mi_F 9 30 = some (9, 3) := by decide +kernel
theorem mF_10_14 : mi_F 10 14 = some (10, 0) := by decide +kernel
theorem mF_11_241 : mi_F 11 241 = some (10, 0) := by decide +kernel
theorem mF_10_23 : mi_F 10 23 = some (10, 1) := by decide +kernel
theorem mF_10_20 : mi_F 10 20 = some (10, 2) := by decide +kernel
theorem mF_10_27 : mi_F 10 27 = some (10, 3) := by decide +kernel
theorem mF_11_240 : mi_F 11 240 = some (10, 3) := by decide +kernel
theorem mF_11_10 : mi_F 11 10 = some (11, 0) := by decide +kernel
theorem mF_11_19 : mi_F 11 19 = some (11, 1) := by decide +kernel
theorem mF_11_28 : mi_F 11 28 = some (11, 2) := by decide +kernel
theorem mF_11_37 : mi_F 11 37 = some (11, 3) := by decide +kernel
theorem mF_11_41 : mi_F 11 41 = some (11, 4) := by decide +kernel
theorem mF_11_47 : mi_F 11 47 = some (11, 5) := by decide +kernel
theorem mF_11_60 : mi_F 11 60 = some (11, 6) := by decide +kernel
theorem mF_11_64 : mi_F 11 64 = some (11, 7) := by decide +kernel
theorem mF_12_7 : mi_F 12 7 = some (12, 0) := by decide +kernel
theorem mF_12_129 : mi_F 12 129 = some (12, 1) := by decide +kernel
theorem mF_12_113 : mi_F 12 113 = some (12, 2) := by decide +kernel
theorem mF_12_13 : mi_F 12 13 = some (12, 3) := by decide +kernel
theorem mF_12_17 : mi_F 12 17 = some (12, 4) := by decide +kernel
theorem mF_12_20 : mi_F 12 20 = some (12, 5) := by decide +kernel
theorem mF_12_23 : mi_F 12 23 = some (12, 6) := by decide +kernel
theorem mF_12_27 : mi_F 12 27 = some (12, 7) := by decide +kernel
theorem mF_12_30 : mi_F 12 30 = some (12, 8) := by decide +kernel
theorem mF_12_33 : mi_F 12 33 = some (12, 9) := by decide +kernel
theorem mF_12_37 : mi_F 12 37 = some (12, 10) := by decide +kernel
theorem mF_12_173 : mi_F 12 173 = some (12, 11) := by decide +kernel
theorem mF_12_197 : mi_F 12 197 = some (12, 12) := by decide +kernel
theorem mF_12_41 : mi_F 12 41 = some (12, 13) := by decide +kernel
theorem mF_12_44 : mi_F 12 44 = some (12, 14) := by decide +kernel
theorem mF_12_203 : mi_F 12 203 = some (12, 15) := by decide +kernel
theorem mF_12_47 : mi_F 12 47 = some (12, 16) := by decide +kernel
theorem mF_12_50 : mi_F 12 50 = some (12, 17) := by decide +kernel
theorem mF_12_53 : mi_F 12 53 = some (12, 18) := by decide +kernel
theorem mF_12_56 : mi_F 12 56 = some (12, 19) := by decide +kernel
theorem mF_12_59 : mi_F 12 59 = some (12, 20) := by decide +kernel
theorem mF_12_62 : mi_F 12 62 = some (12, 21) := by decide +kernel
theorem mF_12_65 : mi_F 12 65 = some (12, 22) := by decide +kernel
theorem mF_12_68 : mi_F 12 68 = some (12, 23) := by decide +kernel
theorem mF_12_184 : mi_F 12 184 = some (12, 24) := by decide +kernel
theorem mF_12_71 : mi_F 12 71 = some (12, 25) := by decide +kernel
theorem mF_12_74 : mi_F 12 74 = some (12, 26) := by decide +kernel
theorem mF_12_187 : mi_F 12 187 = some (12, 27) := by decide +kernel
theorem mF_12_77 : mi_F 12 77 = some (12, 28) := by decide +kernel
theorem mF_12_80 : mi_F 12 80 = some (12, 29) := by decide +kernel
theorem mF_12_132 : mi_F 12 132 = some (12, 30) := by decide +kernel
theorem mF_12_248 : mi_F 12 248 = some (12, 31) := by decide +kernel
theorem mF_12_137 : mi_F 12 137 = some (12, 32) := by decide +kernel
theorem mF_12_83 : mi_F 12 83 = some (12, 33) := by decide +kernel
theorem mF_12_120 : mi_F 12 120 = some (12, 34) := by decide +kernel
theorem mF_12_86 : mi_F 12 86 = some (12, 35) := by decide +kernel
theorem mF_12_253 : mi_F 12 253 = some (12, 36) := by decide +kernel
theorem mF_12_89 : mi_F 12 89 = some (12, 37) := by decide +kernel
theorem mF_12_92 : mi_F 12 92 = some (12, 38) := by decide +kernel
theorem mF_12_95 : mi_F 12 95 = some (12, 39) := by decide +kernel
theorem mF_12_98 : mi_F 12 98 = some (12, 40) := by decide +kernel
theorem mF_12_234 : mi_F 12 234 = some (12, 41) := by decide +kernel
theorem mF_12_101 : mi_F 12 101 = some (12, 42) := by decide +kernel
theorem mF_12_104 : mi_F 12 104 = some (12, 43) := by decide +kernel
theorem mF_12_107 : mi_F 12 107 = some (12, 44) := by decide +kernel
theorem mF_12_110 : mi_F 12 110 = some (12, 45) := by decide +kernel
theorem mF_12_259 : mi_F 12 259 = some (12, 46) := by decide +kernel
theorem mF_12_262 : mi_F 12 262 = some (12, 47) := by decide +kernel
theorem mF_12_256 : mi_F 12 256 = some (12, 48) := by decide +kernel
theorem mC_13_9 : mi_C 13 9 = some (112, 1, 2) := by decide +kernel
theorem mQ_13_9 : mi_Q 13 9 = none := by decide +kernel
theorem mC_11_25 : mi_C 11 25 = some (81, 3, 2) := by decide +kernel
theorem mQ_11_25 : mi_Q 11 25 = none := by decide +kernel
theorem mC_8_11 : mi_C 8 11 = some (61, 2, 2) := by decide +kernel
theorem mQ_8_11 : mi_Q 8 11 = none := by decide +kernel
theorem mC_11_34 : mi_C 11 34 = some (61, 2, 2) := by decide +kernel
theorem mQ_11_34 : mi_Q 11 34 = none := by decide +kernel
theorem mC_11_57 : mi_C 11 57 = some (102, 2, 2) := by decide +kernel
theorem mQ_11_57 : mi_Q 11 57 = none := by decide +kernel
theorem mC_13_13 : mi_C 13 13 = some (113, 5, 0) := by decide +kernel
theorem mQ_13_13 : mi_Q 13 13 = none := by decide +kernel
theorem mC_11_68 : mi_C 11 68 = some (17, 4, 0) := by decide +kernel
theorem mQ_11_68 : mi_Q 11 68 = none := by decide +kernel
theorem mC_1_50 : mi_C 1 50 = some (2, 2, 0) := by decide +kernel
theorem mQ_1_50 : mi_Q 1 50 = none := by decide +kernel
theorem mC_1_54 : mi_C 1 54 = some (6, 3, 0) := by decide +kernel
theorem mQ_1_54 : mi_Q 1 54 = none := by decide +kernel
theorem mC_1_58 : mi_C 1 58 = some (7, 2, 0) := by decide +kernel
theorem mQ_1_58 : mi_Q 1 58 = none := by decide +kernel
theorem mC_11_72 : mi_C 11 72 = some (52, 2, 0) := by decide +kernel
theorem mQ_11_72 : mi_Q 11 72 = none := by decide +kernel
theorem mC_11_75 : mi_C 11 75 = some (53, 2, 0) := by decide +kernel
theorem mQ_11_75 : mi_Q 11 75 = none := by decide +kernel
theorem mC_11_79 : mi_C 11 79 = some (54, 1, 0) := by decide +kernel
theorem mQ_11_79 : mi_Q 11 79 = none := by decide +kernel
theorem mC_4_39 : mi_C 4 39 = some (55, 2, 0) := by decide +kernel
theorem mQ_4_39 : mi_Q 4 39 = none := by decide +kernel
theorem mC_4_45 : mi_C 4 45 = some (56, 3, 0) := by decide +kernel
theorem mQ_4_45 : mi_Q 4 45 = none := by decide +kernel
theorem mC_11_83 : mi_C 11 83 = some (8, 5, 0) := by decide +kernel
theorem mQ_11_83 : mi_Q 11 83 = none := by decide +kernel
theorem mC_0_67 : mi_C 0 67 = some (9, 2, 0) := by decide +kernel
theorem mQ_0_67 : mi_Q 0 67 = none := by decide +kernel
theorem mC_13_18 : mi_C 13 18 = some (114, 3, 0) := by decide +kernel
theorem mQ_13_18 : mi_Q 13 18 = none := by decide +kernel
theorem mC_11_89 : mi_C 11 89 = some (18, 3, 0) := by decide +kernel
theorem mQ_11_89 : mi_Q 11 89 = none := by decide +kernel
theorem mC_1_64 : mi_C 1 64 = some (3, 2, 0) := by decide +kernel
theorem mQ_1_64 : mi_Q 1 64 = none := by decide +kernel
theorem mC_0_52 : mi_C 0 52 = some (2, 2, 0) := by decide +kernel
theorem mQ_0_52 : mi_Q 0 52 = none := by decide +kernel
theorem mC_1_67 : mi_C 1 67 = some (4, 2, 0) := by decide +kernel
theorem mQ_1_67 : mi_Q 1 67 = none := by decide +kernel
theorem mC_11_93 : mi_C 11 93 = some (5, 3, 0) := by decide +kernel
theorem mQ_11_93 : mi_Q 11 93 = none := by decide +kernel
theorem mC_13_23 : mi_C 13 23 = some (115, 2, 0) := by decide +kernel
theorem mQ_13_23 : mi_Q 13 23 = none := by decide +kernel
theorem mC_11_97 : mi_C 11 97 = some (19, 2, 0) := by decide +kernel
theorem mQ_11_97 : mi_Q 11 97 = none := by decide +kernel
theorem mC_1_70 : mi_C 1 70 = some (75, 1, 0) := by decide +kernel
theorem mQ_1_70 : mi_Q 1 70 = none := by decide +kernel
theorem mC_7_38 : mi_C 7 38 = some (73, 2, 0) := by decide +kernel
theorem mQ_7_38 : mi_Q 7 38 = none := by decide +kernel
theorem mC_11_105 : mi_C 11 105 = some (72, 2, 0) := by decide +kernel
theorem mQ_11_105 : mi_Q 11 105 = none := by decide +kernel
theorem mC_13_28 : mi_C 13 28 = some (116, 2, 0) := by decide +kernel
theorem mQ_13_28 : mi_Q 13 28 = none := by decide +kernel
theorem mC_11_109 : mi_C 11 109 = some (20, 2, 0) := by decide +kernel
theorem mQ_11_109 : mi_Q 11 109 = none := by decide +kernel
theorem mC_11_112 : mi_C 11 112 = some (21, 2, 0) := by decide +kernel
theorem mQ_11_112 : mi_Q 11 112 = none := by decide +kernel
theorem mC_13_34 : mi_C 13 34 = some (117, 3, 0) := by decide +kernel
theorem mQ_13_34 : mi_Q 13 34 = none := by decide +kernel
theorem mC_11_115 : mi_C 11 115 = some (22, 3, 0) := by decide +kernel
theorem mQ_11_115 : mi_Q 11 115 = none := by decide +kernel
theorem mC_11_244 : mi_C 11 244 = some (146, 2, 1) := by decide +kernel
theorem mQ_11_244 : mi_Q 11 244 = none := by decide +kernel
theorem mC_11_123 : mi_C 11 123 = some (63, 3, 0) := by decide +kernel
theorem mQ_11_123 : mi_Q 11 123 = none := by decide +kernel
theorem mC_13_39 : mi_C 13 39 = some (118, 1, 0) := by decide +kernel
theorem mQ_13_39 : mi_Q 13 39 = none := by decide +kernel
theorem mC_11_126 : mi_C 11 126 = some (62, 1, 0) := by decide +kernel
theorem mQ_11_126 : mi_Q 11 126 = none := by decide +kernel
theorem mC_13_44 : mi_C 13 44 = some (119, 3, 0) := by decide +kernel
theorem mQ_13_44 : mi_Q 13 44 = none := by decide +kernel
theorem mC_11_129 : mi_C 11 129 = some (140, 4, 0) := by decide +kernel
theorem mQ_11_129 : mi_Q 11 129 = none := by decide +kernel
theorem mC_11_284 : mi_C 11 284 = some (23, 3, 0) := by decide +kernel
theorem mQ_11_284 : mi_Q 11 284 = none := by decide +kernel
theorem mC_1_92 : mi_C 1 92 = some (64, 1, 0) := by decide +kernel
theorem mQ_1_92 : mi_Q 1 92 = none := by decide +kernel
theorem mC_1_96 : mi_C 1 96 = some (76, 2, 0) := by decide +kernel
theorem mQ_1_96 : mi_Q 1 96 = none := by decide +kernel
theorem mC_1_102 : mi_C 1 102 = some (25, 2, 0) := by decide +kernel
theorem mQ_1_102 : mi_Q 1 102 = none := by decide +kernel
theorem mC_1_106 : mi_C 1 106 = some (24, 2, 0) := by decide +kernel
theorem mQ_1_106 : mi_Q 1 106 = none := by decide +kernel
theorem mC_1_110 : mi_C 1 110 = some (26, 2, 0) := by decide +kernel
theorem mQ_1_110 : mi_Q 1 110 = none := by decide +kernel
theorem mC_11_293 : mi_C 11 293 = some (27, 6, 0) := by decide +kernel
theorem mQ_11_293 : mi_Q 11 293 = none := by decide +kernel
theorem mC_1_131 : mi_C 1 131 = some (10, 3, 0) := by decide +kernel
theorem mQ_1_131 : mi_Q 1 131 = none := by decide +kernel
theorem mC_1_135 : mi_C 1 135 = some (40, 6, 0) := by decide +kernel
theorem mQ_1_135 : mi_Q 1 135 = none := by decide +kernel
theorem mC_13_49 : mi_C 13 49 = some (120, 3, 0) := by decide +kernel
theorem mQ_13_49 : mi_Q 13 49 = none := by decide +kernel
theorem mC_11_133 : mi_C 11 133 = some (28, 4, 0) := by decide +kernel
theorem mQ_11_133 : mi_Q 11 133 = none := by decide +kernel
theorem mC_1_139 : mi_C 1 139 = some (39, 2, 0) := by decide +kernel
theorem mQ_1_139 : mi_Q 1 139 = none := by decide +kernel
theorem mC_1_146 : mi_C 1 146 = some (43, 3, 0) := by decide +kernel
theorem mQ_1_146 : mi_Q 1 146 = none := by decide +kernel
theorem mC_2_78 : mi_C 2 78 = some (62, 1, 0) := by decide +kernel
theorem mQ_2_78 : mi_Q 2 78 = none := by decide +kernel
theorem mC_2_81 : mi_C 2 81 = some (41, 3, 0) := by decide +kernel
theorem mQ_2_81 : mi_Q 2 81 = none := by decide +kernel
theorem mC_2_85 : mi_C 2 85 = some (42, 3, 0) := by decide +kernel
theorem mQ_2_85 : mi_Q 2 85 = none := by decide +kernel
theorem mC_2_89 : mi_C 2 89 = some (63, 3, 0) := by decide +kernel
theorem mQ_2_89 : mi_Q 2 89 = none := by decide +kernel
theorem mC_1_150 : mi_C 1 150 = some (23, 3, 0) := by decide +kernel
theorem mQ_1_150 : mi_Q 1 150 = none := by decide +kernel
theorem mC_11_137 : mi_C 11 137 = some (29, 4, 0) := by decide +kernel
theorem mQ_11_137 : mi_Q 11 137 = none := by decide +kernel
theorem mC_1_157 : mi_C 1 157 = some (27, 6, 0) := by decide +kernel
theorem mQ_1_157 : mi_Q 1 157 = none := by decide +kernel
theorem mC_13_53 : mi_C 13 53 = some (121, 1, 0) := by decide +kernel
theorem mQ_13_53 : mi_Q 13 53 = none := by decide +kernel
theorem mC_11_140 : mi_C 11 140 = some (30, 2, 0) := by decide +kernel
theorem mQ_11_140 : mi_Q 11 140 = none := by decide +kernel
theorem mC_1_164 : mi_C 1 164 = some (31, 3, 0) := by decide +kernel
theorem mQ_1_164 : mi_Q 1 164 = none := by decide +kernel
theorem mC_1_167 : mi_C 1 167 = some (73, 2, 0) := by decide +kernel
theorem mQ_1_167 : mi_Q 1 167 = none := by decide +kernel
theorem mC_1_170 : mi_C 1 170 = some (74, 2, 0) := by decide +kernel
theorem mQ_1_170 : mi_Q 1 170 = none := by decide +kernel
theorem mC_1_173 : mi_C 1 173 = some (44, 4, 0) := by decide +kernel
theorem mQ_1_173 : mi_Q 1 173 = none := by decide +kernel
theorem mC_1_177 : mi_C 1 177 = some (62, 1, 0) := by decide +kernel
theorem mQ_1_177 : mi_Q 1 177 = none := by decide +kernel
theorem mC_1_181 : mi_C 1 181 = some (32, 2, 0) := by decide +kernel
theorem mQ_1_181 : mi_Q 1 181 = none := by decide +kernel
theorem mC_1_184 : mi_C 1 184 = some (63, 3, 0) := by decide +kernel
theorem mQ_1_184 : mi_Q 1 184 = none := by decide +kernel
theorem mC_11_144 : mi_C 11 144 = some (33, 2, 0) := by decide +kernel
theorem mQ_11_144 : mi_Q 11 144 = none := by decide +kernel
theorem mC_1_186 : mi_C 1 186 = some (78, 2, 0) := by decide +kernel
theorem mQ_1_186 : mi_Q 1 186 = none := by decide +kernel
theorem mC_13_57 : mi_C 13 57 = some (122, 1, 0) := by decide +kernel
theorem mQ_13_57 : mi_Q 13 57 = none := by decide +kernel
theorem mC_11_147 : mi_C 11 147 = some (34, 2, 0) := by decide +kernel
theorem mQ_11_147 : mi_Q 11 147 = none := by decide +kernel
theorem mC_1_189 : mi_C 1 189 = some (77, 2, 0) := by decide +kernel
theorem mQ_1_189 : mi_Q 1 189 = none := by decide +kernel
theorem mC_11_150 : mi_C 11 150 = some (35, 2, 0) := by decide +kernel
theorem mQ_11_150 : mi_Q 11 150 = none := by decide +kernel
theorem mC_1_192 : mi_C 1 192 = some (79, 1, 0) := by decide +kernel
theorem mQ_1_192 : mi_Q 1 192 = none := by decide +kernel
theorem mC_13_61 : mi_C 13 61 = some (123, 5, 0) := by decide +kernel
theorem mQ_13_61 : mi_Q 13 61 = none := by decide +kernel
theorem mC_11_153 : mi_C 11 153 = some (141, 3, 0) := by decide +kernel
theorem mQ_11_153 : mi_Q 11 153 = none := by decide +kernel
theorem mC_11_189 : mi_C 11 189 = some (2, 2, 0) := by decide +kernel
theorem mQ_11_189 : mi_Q 11 189 = none := by decide +kernel
theorem mC_11_297 : mi_C 11 297 = some (145, 1, 1) := by decide +kernel
theorem mQ_11_297 : mi_Q 11 297 = none := by decide +kernel
theorem mC_11_300 : mi_C 11 300 = some (143, 1, 1) := by decide +kernel
theorem mQ_11_300 : mi_Q 11 300 = none := by decide +kernel
theorem mC_11_229 : mi_C 11 229 = some (3, 2, 0) := by decide +kernel
theorem mQ_11_229 : mi_Q 11 229 = none := by decide +kernel
theorem mC_11_156 : mi_C 11 156 = some (142, 3, 0) := by decide +kernel
theorem mQ_11_156 : mi_Q 11 156 = none := by decide +kernel
theorem mC_11_251 : mi_C 11 251 = some (97, 1, 0) := by decide +kernel
theorem mQ_11_251 : mi_Q 11 251 = none := by decide +kernel
theorem mC_11_252 : mi_C 11 252 = some (98, 2, 0) := by decide +kernel
theorem mQ_11_252 : mi_Q 11 252 = none := by decide +kernel
theorem mC_11_254 : mi_C 11 254 = some (99, 2, 0) := by decide +kernel
theorem mQ_11_254 : mi_Q 11 254 = none := by decide +kernel
theorem mC_9_54 : mi_C 9 54 = some (100, 2, 0) := by decide +kernel
theorem mQ_9_54 : mi_Q 9 54 = none := by decide +kernel
theorem mC_9_60 : mi_C 9 60 = some (101, 1, 0) := by decide +kernel
theorem mQ_9_60 : mi_Q 9 60 = none := by decide +kernel
theorem mC_13_66 : mi_C 13 66 = some (124, 1, 0) := by decide +kernel
theorem mQ_13_66 : mi_Q 13 66 = none := by decide +kernel
theorem mC_11_159 : mi_C 11 159 = some (58, 1, 0) := by decide +kernel
theorem mQ_11_159 : mi_Q 11 159 = none := by decide +kernel
theorem mC_13_70 : mi_C 13 70 = some (125, 3, 0) := by decide +kernel
theorem mQ_13_70 : mi_Q 13 70 = none := by decide +kernel
theorem mC_11_163 : mi_C 11 163 = some (59, 3, 0) := by decide +kernel
theorem mQ_11_163 : mi_Q 11 163 = none := by decide +kernel
theorem mC_11_167 : mi_C 11 167 = some (103, 1, 0) := by decide +kernel
theorem mQ_11_167 : mi_Q 11 167 = none := by decide +kernel
theorem mC_13_74 : mi_C 13 74 = some (126, 1, 0) := by decide +kernel
theorem mQ_13_74 : mi_Q 13 74 = none := by decide +kernel
theorem mC_11_169 : mi_C 11 169 = some (16, 1, 0) := by decide +kernel
theorem mQ_11_169 : mi_Q 11 169 = none := by decide +kernel
theorem mC_1_45 : mi_C 1 45 = some (1, 1, 0) := by decide +kernel
theorem mQ_1_45 : mi_Q 1 45 = none := by decide +kernel
theorem mC_1_48 : mi_C 1 48 = some (70, 1, 0) := by decide +kernel
theorem mQ_1_48 : mi_Q 1 48 = none := by decide +kernel
theorem mC_1_49 : mi_C 1 49 = some (38, 1, 0) := by decide +kernel
theorem mQ_1_49 : mi_Q 1 49 = none := by decide +kernel
theorem mC_11_170 : mi_C 11 170 = some (57, 2, 0) := by decide +kernel
theorem mQ_11_170 : mi_Q 11 170 = none := by decide +kernel
theorem mC_11_173 : mi_C 11 173 = some (82, 3, 0) := by decide +kernel
theorem mQ_11_173 : mi_Q 11 173 = none := by decide +kernel
theorem mC_8_50 : mi_C 8 50 = some (83, 1, 0) := by decide +kernel
theorem mQ_8_50 : mi_Q 8 50 = none := by decide +kernel
theorem mC_8_75 : mi_C 8 75 = some (94, 1, 0) := by decide +kernel
theorem mQ_8_75 : mi_Q 8 75 = none := by decide +kernel
theorem mC_8_140 : mi_C 8 140 = some (95, 1, 0) := by decide +kernel
theorem mQ_8_140 : mi_Q 8 140 = none := by decide +kernel
theorem mC_8_79 : mi_C 8 79 = some (93, 1, 0) := by decide +kernel
theorem mQ_8_79 : mi_Q 8 79 = none := by decide +kernel
theorem mC_8_82 : mi_C 8 82 = some (92, 1, 0) := by decide +kernel
theorem mQ_8_82 : mi_Q 8 82 = none := by decide +kernel
theorem mC_8_85 : mi_C 8 85 = some (17, 4, 0) := by decide +kernel
theorem mQ_8_85 : mi_Q 8 85 = none := by decide +kernel
theorem mC_8_95 : mi_C 8 95 = some (8, 5, 0) := by decide +kernel
theorem mQ_8_95 : mi_Q 8 95 = none := by decide +kernel
theorem mC_8_54 : mi_C 8 54 = some (84, 1, 0) := by decide +kernel
theorem mQ_8_54 : mi_Q 8 54 = none := by decide +kernel
theorem mC_8_101 : mi_C 8 101 = some (18, 3, 0) := by decide +kernel
theorem mQ_8_101 : mi_Q 8 101 = none := by decide +kernel
theorem mC_8_105 : mi_C 8 105 = some (5, 3, 0) := by decide +kernel
theorem mQ_8_105 : mi_Q 8 105 = none := by decide +kernel
theorem mC_8_57 : mi_C 8 57 = some (85, 1, 0) := by decide +kernel
theorem mQ_8_57 : mi_Q 8 57 = none := by decide +kernel
theorem mC_8_109 : mi_C 8 109 = some (19, 2, 0) := by decide +kernel
theorem mQ_8_109 : mi_Q 8 109 = none := by decide +kernel
theorem mC_8_116 : mi_C 8 116 = some (72, 2, 0) := by decide +kernel
theorem mQ_8_116 : mi_Q 8 116 = none := by decide +kernel
theorem mC_8_60 : mi_C 8 60 = some (86, 1, 0) := by decide +kernel
theorem mQ_8_60 : mi_Q 8 60 = none := by decide +kernel
theorem mC_8_120 : mi_C 8 120 = some (20, 2, 0) := by decide +kernel
theorem mQ_8_120 : mi_Q 8 120 = none := by decide +kernel
theorem mC_8_123 : mi_C 8 123 = some (21, 2, 0) := by decide +kernel
theorem mQ_8_123 : mi_Q 8 123 = none := by decide +kernel
theorem mC_8_63 : mi_C 8 63 = some (87, 1, 0) := by decide +kernel
theorem mQ_8_63 : mi_Q 8 63 = none := by decide +kernel
theorem mC_8_126 : mi_C 8 126 = some (88, 1, 0) := by decide +kernel
theorem mQ_8_126 : mi_Q 8 126 = none := by decide +kernel
theorem mC_8_137 : mi_C 8 137 = some (62, 1, 0) := by decide +kernel
theorem mQ_8_137 : mi_Q 8 137 = none := by decide +kernel
theorem mC_8_144 : mi_C 8 144 = some (22, 3, 0) := by decide +kernel
theorem mQ_8_144 : mi_Q 8 144 = none := by decide +kernel
theorem mC_8_148 : mi_C 8 148 = some (63, 3, 0) := by decide +kernel
theorem mQ_8_148 : mi_Q 8 148 = none := by decide +kernel
theorem mC_8_129 : mi_C 8 129 = some (23, 3, 0) := by decide +kernel
theorem mQ_8_129 : mi_Q 8 129 = none := by decide +kernel
theorem mC_8_133 : mi_C 8 133 = some (27, 6, 0) := by decide +kernel
theorem mQ_8_133 : mi_Q 8 133 = none := by decide +kernel
theorem mC_8_66 : mi_C 8 66 = some (89, 1, 0) := by decide +kernel
theorem mQ_8_66 : mi_Q 8 66 = none := by decide +kernel
theorem mC_8_151 : mi_C 8 151 = some (28, 4, 0) := by decide +kernel
theorem mQ_8_151 : mi_Q 8 151 = none := by decide +kernel
theorem mC_8_155 : mi_C 8 155 = some (29, 4, 0) := by decide +kernel
theorem mQ_8_155 : mi_Q 8 155 = none := by decide +kernel
theorem mC_8_69 : mi_C 8 69 = some (90, 1, 0) := by decide +kernel
theorem mQ_8_69 : mi_Q 8 69 = none := by decide +kernel
theorem mC_8_158 : mi_C 8 158 = some (30, 2, 0) := by decide +kernel
theorem mQ_8_158 : mi_Q 8 158 = none := by decide +kernel
theorem mC_8_162 : mi_C 8 162 = some (33, 2, 0) := by decide +kernel
theorem mQ_8_162 : mi_Q 8 162 = none := by decide +kernel
theorem mC_8_72 : mi_C 8 72 = some (91, 1, 0) := by decide +kernel
theorem mQ_8_72 : mi_Q 8 72 = none := by decide +kernel
theorem mC_8_165 : mi_C 8 165 = some (34, 2, 0) := by decide +kernel
theorem mQ_8_165 : mi_Q 8 165 = none := by decide +kernel
theorem mC_8_168 : mi_C 8 168 = some (35, 2, 0) := by decide +kernel
theorem mQ_8_168 : mi_Q 8 168 = none := by decide +kernel
theorem mC_11_177 : mi_C 11 177 = some (60, 3, 0) := by decide +kernel
theorem mQ_11_177 : mi_Q 11 177 = none := by decide +kernel
theorem mC_13_78 : mi_C 13 78 = some (127, 2, 0) := by decide +kernel
theorem mQ_13_78 : mi_Q 13 78 = none := by decide +kernel
theorem mC_13_82 : mi_C 13 82 = some (128, 3, 0) := by decide +kernel
theorem mQ_13_82 : mi_Q 13 82 = none := by decide +kernel
theorem mC_11_193 : mi_C 11 193 = some (14, 3, 0) := by decide +kernel
theorem mQ_11_193 : mi_Q 11 193 = none := by decide +kernel
theorem mC_13_86 : mi_C 13 86 = some (129, 2, 0) := by decide +kernel
theorem mQ_13_86 : mi_Q 13 86 = none := by decide +kernel
theorem mC_11_203 : mi_C 11 203 = some (11, 3, 0) := by decide +kernel
theorem mQ_11_203 : mi_Q 11 203 = none := by decide +kernel
theorem mC_0_73 : mi_C 0 73 = some (3, 2, 0) := by decide +kernel
theorem mQ_0_73 : mi_Q 0 73 = none := by decide +kernel
theorem mC_0_76 : mi_C 0 76 = some (12, 3, 0) := by decide +kernel
theorem mQ_0_76 : mi_Q 0 76 = none := by decide +kernel
theorem mC_13_91 : mi_C 13 91 = some (130, 4, 0) := by decide +kernel
theorem mQ_13_91 : mi_Q 13 91 = none := by decide +kernel
theorem mC_11_207 : mi_C 11 207 = some (36, 4, 0) := by decide +kernel
theorem mQ_11_207 : mi_Q 11 207 = none := by decide +kernel
theorem mC_1_195 : mi_C 1 195 = some (11, 3, 0) := by decide +kernel
theorem mQ_1_195 : mi_Q 1 195 = none := by decide +kernel
theorem mC_13_96 : mi_C 13 96 = some (131, 3, 0) := by decide +kernel
theorem mQ_13_96 : mi_Q 13 96 = none := by decide +kernel
theorem mC_11_215 : mi_C 11 215 = some (39, 2, 0) := by decide +kernel
theorem mQ_11_215 : mi_Q 11 215 = none := by decide +kernel
theorem mC_11_218 : mi_C 11 218 = some (47, 3, 0) := by decide +kernel
theorem mQ_11_218 : mi_Q 11 218 = none := by decide +kernel
theorem mC_13_100 : mi_C 13 100 = some (132, 4, 0) := by decide +kernel
theorem mQ_13_100 : mi_Q 13 100 = none := by decide +kernel
theorem mC_11_222 : mi_C 11 222 = some (41, 3, 0) := by decide +kernel
theorem mQ_11_222 : mi_Q 11 222 = none := by decide +kernel
theorem mC_11_225 : mi_C 11 225 = some (42, 3, 0) := by decide +kernel
theorem mQ_11_225 : mi_Q 11 225 = none := by decide +kernel
theorem mC_13_104 : mi_C 13 104 = some (133, 4, 0) := by decide +kernel
theorem mQ_13_104 : mi_Q 13 104 = none := by decide +kernel
theorem mC_11_233 : mi_C 11 233 = some (45, 4, 0) := by decide +kernel
theorem mQ_11_233 : mi_Q 11 233 = none := by decide +kernel
theorem mC_2_93 : mi_C 2 93 = some (46, 4, 1) := by decide +kernel
theorem mQ_2_93 : mi_Q 2 93 = none := by decide +kernel
theorem mC_13_108 : mi_C 13 108 = some (134, 3, 0) := by decide +kernel
theorem mQ_13_108 : mi_Q 13 108 = none := by decide +kernel
theorem mC_11_236 : mi_C 11 236 = some (71, 2, 0) := by decide +kernel
theorem mQ_11_236 : mi_Q 11 236 = none := by decide +kernel
theorem mC_11_237 : mi_C 11 237 = some (80, 3, 0) := by decide +kernel
theorem mQ_11_237 : mi_Q 11 237 = none := by decide +kernel
theorem mC_7_41 : mi_C 7 41 = some (74, 2, 0) := by decide +kernel
theorem mQ_7_41 : mi_Q 7 41 = none := by decide +kernel
theorem mC_7_44 : mi_C 7 44 = some (77, 2, 0) := by decide +kernel
theorem mQ_7_44 : mi_Q 7 44 = none := by decide +kernel
theorem mC_13_112 : mi_C 13 112 = some (135, 2, 0) := by decide +kernel
theorem mQ_13_112 : mi_Q 13 112 = none := by decide +kernel
theorem mC_11_238 : mi_C 11 238 = some (104, 2, 0) := by decide +kernel
theorem mQ_11_238 : mi_Q 11 238 = none := by decide +kernel
theorem mC_10_31 : mi_C 10 31 = some (103, 1, 0) := by decide +kernel
theorem mQ_10_31 : mi_Q 10 31 = none := by decide +kernel
theorem mC_10_34 : mi_C 10 34 = some (105, 1, 0) := by decide +kernel
theorem mQ_10_34 : mi_Q 10 34 = none := by decide +kernel
theorem mC_10_54 : mi_C 10 54 = some (3, 2, 0) := by decide +kernel
theorem mQ_10_54 : mi_Q 10 54 = none := by decide +kernel
theorem mC_10_67 : mi_C 10 67 = some (109, 2, 0) := by decide +kernel
theorem mQ_10_67 : mi_Q 10 67 = none := by decide +kernel
theorem mC_10_87 : mi_C 10 87 = some (111, 2, 0) := by decide +kernel
theorem mQ_10_87 : mi_Q 10 87 = none := by decide +kernel
theorem mC_10_100 : mi_C 10 100 = some (11, 3, 0) := by decide +kernel
theorem mQ_10_100 : mi_Q 10 100 = none := by decide +kernel
theorem mC_10_90 : mi_C 10 90 = some (110, 2, 0) := by decide +kernel
theorem mQ_10_90 : mi_Q 10 90 = none := by decide +kernel
theorem mC_10_37 : mi_C 10 37 = some (106, 4, 1) := by decide +kernel
theorem mQ_10_37 : mi_Q 10 37 = none := by decide +kernel
theorem mC_10_41 : mi_C 10 41 = some (107, 1, 0) := by decide +kernel
theorem mQ_10_41 : mi_Q 10 41 = none := by decide +kernel
theorem mC_10_76 : mi_C 10 76 = some (13, 2, 0) := by decide +kernel
theorem mQ_10_76 : mi_Q 10 76 = none := by decide +kernel
theorem mC_10_83 : mi_C 10 83 = some (108, 3, 0) := by decide +kernel
theorem mQ_10_83 : mi_Q 10 83 = none := by decide +kernel
theorem mC_13_116 : mi_C 13 116 = some (136, 2, 0) := by decide +kernel
theorem mQ_13_116 : mi_Q 13 116 = none := by decide +kernel
theorem mC_13_120 : mi_C 13 120 = some (137, 7, 0) := by decide +kernel
theorem mQ_13_120 : mi_Q 13 120 = none := by decide +kernel
theorem mC_11_248 : mi_C 11 248 = some (144, 1, 1) := by decide +kernel
theorem mQ_11_248 : mi_Q 11 248 = none := by decide +kernel
theorem mC_13_125 : mi_C 13 125 = some (138, 2, 0) := by decide +kernel
theorem mQ_13_125 : mi_Q 13 125 = none := by decide +kernel
theorem mC_11_272 : mi_C 11 272 = some (139, 2, 0) := by decide +kernel
theorem mQ_11_272 : mi_Q 11 272 = none := by decide +kernel
theorem mC_13_12 : mi_C 13 12 = some (147, 1, 2) := by decide +kernel
theorem mQ_13_12 : mi_Q 13 12 = none := by decide +kernel
theorem mC_13_17 : mi_C 13 17 = some (157, 5, 0) := by decide +kernel
theorem mQ_13_17 : mi_Q 13 17 = none := by decide +kernel
theorem mC_12_148 : mi_C 12 148 = some (149, 2, 0) := by decide +kernel
theorem mQ_12_148 : mi_Q 12 148 = none := by decide +kernel
theorem mC_12_116 : mi_C 12 116 = some (148, 3, 1) := by decide +kernel
theorem mQ_12_116 : mi_Q 12 116 = none := by decide +kernel
theorem mC_12_156 : mi_C 12 156 = some (156, 2, 0) := by decide +kernel
theorem mQ_12_156 : mi_Q 12 156 = none := by decide +kernel
theorem mC_12_159 : mi_C 12 159 = some (150, 1, 0) := by decide +kernel
theorem mQ_12_159 : mi_Q 12 159 = none := by decide +kernel
theorem mC_12_162 : mi_C 12 162 = some (151, 2, 0) := by decide +kernel
theorem mQ_12_162 : mi_Q 12 162 = none := by decide +kernel
theorem mC_12_166 : mi_C 12 166 = some (152, 1, 0) := by decide +kernel
theorem mQ_12_166 : mi_Q 12 166 = none := by decide +kernel
theorem mC_12_170 : mi_C 12 170 = some (155, 2, 0) := by decide +kernel
theorem mQ_12_170 : mi_Q 12 170 = none := by decide +kernel
theorem mC_12_140 : mi_C 12 140 = some (153, 2, 1) := by decide +kernel
theorem mQ_12_140 : mi_Q 12 140 = none := by decide +kernel
theorem mC_12_144 : mi_C 12 144 = some (154, 2, 0) := by decide +kernel
theorem mQ_12_144 : mi_Q 12 144 = none := by decide +kernel
theorem mC_13_22 : mi_C 13 22 = some (158, 3, 0) := by decide +kernel
theorem mQ_13_22 : mi_Q 13 22 = none := by decide +kernel
theorem mC_13_27 : mi_C 13 27 = some (160, 2, 0) := by decide +kernel
theorem mQ_13_27 : mi_Q 13 27 = none := by decide +kernel
theorem mC_12_176 : mi_C 12 176 = some (159, 2, 0) := by decide +kernel
theorem mQ_12_176 : mi_Q 12 176 = none := by decide +kernel
theorem mC_13_31 : mi_C 13 31 = some (161, 2, 0) := by decide +kernel
theorem mQ_13_31 : mi_Q 13 31 = none := by decide +kernel
theorem mC_13_38 : mi_C 13 38 = some (162, 3, 0) := by decide +kernel
theorem mQ_13_38 : mi_Q 13 38 = none := by decide +kernel
theorem mC_13_43 : mi_C 13 43 = some (163, 1, 0) := by decide +kernel
theorem mQ_13_43 : mi_Q 13 43 = none := by decide +kernel
theorem mC_13_48 : mi_C 13 48 = some (171, 3, 0) := by decide +kernel
theorem mQ_13_48 : mi_Q 13 48 = none := by decide +kernel
theorem mC_12_217 : mi_C 12 217 = some (164, 3, 0) := by decide +kernel
theorem mQ_12_217 : mi_Q 12 217 = none := by decide +kernel
theorem mC_12_221 : mi_C 12 221 = some (170, 3, 0) := by decide +kernel
theorem mQ_12_221 : mi_Q 12 221 = none := by decide +kernel
theorem mC_12_206 : mi_C 12 206 = some (169, 3, 0) := by decide +kernel
theorem mQ_12_206 : mi_Q 12 206 = none := by decide +kernel
theorem mC_12_210 : mi_C 12 210 = some (167, 2, 0) := by decide +kernel
theorem mQ_12_210 : mi_Q 12 210 = none := by decide +kernel
theorem mC_12_194 : mi_C 12 194 = some (165, 2, 0) := by decide +kernel
theorem mQ_12_194 : mi_Q 12 194 = none := by decide +kernel
theorem mC_12_200 : mi_C 12 200 = some (166, 1, 0) := by decide +kernel
theorem mQ_12_200 : mi_Q 12 200 = none := by decide +kernel
theorem mC_12_213 : mi_C 12 213 = some (168, 5, 0) := by decide +kernel
theorem mQ_12_213 : mi_Q 12 213 = none := by decide +kernel
theorem mC_13_52 : mi_C 13 52 = some (172, 3, 0) := by decide +kernel
theorem mQ_13_52 : mi_Q 13 52 = none := by decide +kernel
theorem mC_12_224 : mi_C 12 224 = some (173, 2, 0) := by decide +kernel
theorem mQ_12_224 : mi_Q 12 224 = none := by decide +kernel
theorem mC_13_56 : mi_C 13 56 = some (176, 1, 0) := by decide +kernel
theorem mQ_13_56 : mi_Q 13 56 = none := by decide +kernel
theorem mC_12_227 : mi_C 12 227 = some (175, 2, 0) := by decide +kernel
theorem mQ_12_227 : mi_Q 12 227 = none := by decide +kernel
theorem mC_12_230 : mi_C 12 230 = some (174, 4, 0) := by decide +kernel
theorem mQ_12_230 : mi_Q 12 230 = none := by decide +kernel
theorem mC_13_60 : mi_C 13 60 = some (177, 1, 0) := by decide +kernel
theorem mQ_13_60 : mi_Q 13 60 = none := by decide +kernel
theorem mC_13_65 : mi_C 13 65 = some (179, 5, 0) := by decide +kernel
theorem mQ_13_65 : mi_Q 13 65 = none := by decide +kernel
theorem mC_12_241 : mi_C 12 241 = some (178, 2, 0) := by decide +kernel
theorem mQ_12_241 : mi_Q 12 241 = none := by decide +kernel
theorem mC_13_124 : mi_C 13 124 = some (180, 7, 0) := by decide +kernel
theorem mQ_13_124 : mi_Q 13 124 = none := by decide +kernel
theorem mC_13_69 : mi_C 13 69 = some (181, 1, 0) := by decide +kernel
theorem mQ_13_69 : mi_Q 13 69 = none := by decide +kernel
theorem mC_13_73 : mi_C 13 73 = some (182, 3, 0) := by decide +kernel
theorem mQ_13_73 : mi_Q 13 73 = none := by decide +kernel
theorem mC_13_77 : mi_C 13 77 = some (190, 1, 0) := by decide +kernel
theorem mQ_13_77 : mi_Q 13 77 = none := by decide +kernel
theorem mC_12_313 : mi_C 12 313 = some (189, 1, 0) := by decide +kernel
theorem mQ_12_313 : mi_Q 12 313 = none := by decide +kernel
theorem mC_12_310 : mi_C 12 310 = some (187, 2, 0) := by decide +kernel
theorem mQ_12_310 : mi_Q 12 310 = none := by decide +kernel
theorem mC_12_273 : mi_C 12 273 = some (184, 1, 0) := by decide +kernel
theorem mQ_12_273 : mi_Q 12 273 = none := by decide +kernel
theorem mC_12_265 : mi_C 12 265 = some (183, 1, 0) := by decide +kernel
theorem mQ_12_265 : mi_Q 12 265 = none := by decide +kernel
theorem mC_12_277 : mi_C 12 277 = some (185, 1, 0) := by decide +kernel
theorem mQ_12_277 : mi_Q 12 277 = none := by decide +kernel
theorem mC_12_280 : mi_C 12 280 = some (186, 1, 0) := by decide +kernel
theorem mQ_12_280 : mi_Q 12 280 = none := by decide +kernel
theorem mC_12_283 : mi_C 12 283 = some (157, 5, 0) := by decide +kernel
theorem mQ_12_283 : mi_Q 12 283 = none := by decide +kernel
theorem mC_12_287 : mi_C 12 287 = some (158, 3, 0) := by decide +kernel
theorem mQ_12_287 : mi_Q 12 287 = none := by decide +kernel
theorem mC_12_291 : mi_C 12 291 = some (160, 2, 0) := by decide +kernel
theorem mQ_12_291 : mi_Q 12 291 = none := by decide +kernel
theorem mC_12_294 : mi_C 12 294 = some (161, 2, 0) := by decide +kernel
theorem mQ_12_294 : mi_Q 12 294 = none := by decide +kernel
theorem mC_12_296 : mi_C 12 296 = some (188, 1, 0) := by decide +kernel
theorem mQ_12_296 : mi_Q 12 296 = none := by decide +kernel
theorem mC_12_299 : mi_C 12 299 = some (172, 3, 0) := by decide +kernel
theorem mQ_12_299 : mi_Q 12 299 = none := by decide +kernel
theorem mC_12_302 : mi_C 12 302 = some (176, 1, 0) := by decide +kernel
theorem mQ_12_302 : mi_Q 12 302 = none := by decide +kernel
theorem mC_12_305 : mi_C 12 305 = some (177, 1, 0) := by decide +kernel
theorem mQ_12_305 : mi_Q 12 305 = none := by decide +kernel
theorem mC_13_81 : mi_C 13 81 = some (191, 2, 0) := by decide +kernel
theorem mQ_13_81 : mi_Q 13 81 = none := by decide +kernel
theorem mC_13_85 : mi_C 13 85 = some (192, 3, 0) := by decide +kernel
theorem mQ_13_85 : mi_Q 13 85 = none := by decide +kernel
theorem mC_13_90 : mi_C 13 90 = some (195, 2, 0) := by decide +kernel
theorem mQ_13_90 : mi_Q 13 90 = none := by decide +kernel
theorem mC_12_320 : mi_C 12 320 = some (194, 2, 0) := by decide +kernel
theorem mQ_12_320 : mi_Q 12 320 = none := by decide +kernel
theorem mC_12_316 : mi_C 12 316 = some (193, 3, 0) := by decide +kernel
theorem mQ_12_316 : mi_Q 12 316 = none := by decide +kernel
theorem mC_13_95 : mi_C 13 95 = some (196, 4, 0) := by decide +kernel
theorem mQ_13_95 : mi_Q 13 95 = none := by decide +kernel
theorem mC_13_99 : mi_C 13 99 = some (197, 3, 0) := by decide +kernel
theorem mQ_13_99 : mi_Q 13 99 = none := by decide +kernel
theorem mC_13_103 : mi_C 13 103 = some (198, 4, 0) := by decide +kernel
theorem mQ_13_103 : mi_Q 13 103 = none := by decide +kernel
theorem mC_13_107 : mi_C 13 107 = some (199, 4, 0) := by decide +kernel
theorem mQ_13_107 : mi_Q 13 107 = none := by decide +kernel
theorem mC_13_111 : mi_C 13 111 = some (200, 3, 0) := by decide +kernel
theorem mQ_13_111 : mi_Q 13 111 = none := by decide +kernel
theorem mC_13_115 : mi_C 13 115 = some (207, 2, 0) := by decide +kernel
theorem mQ_13_115 : mi_Q 13 115 = none := by decide +kernel
theorem mC_12_332 : mi_C 12 332 = some (203, 2, 0) := by decide +kernel
theorem mQ_12_332 : mi_Q 12 332 = none := by decide +kernel
theorem mC_12_324 : mi_C 12 324 = some (201, 2, 0) := by decide +kernel
theorem mQ_12_324 : mi_Q 12 324 = none := by decide +kernel
theorem mC_12_329 : mi_C 12 329 = some (202, 2, 0) := by decide +kernel
theorem mQ_12_329 : mi_Q 12 329 = none := by decide +kernel
theorem mC_12_338 : mi_C 12 338 = some (204, 1, 0) := by decide +kernel
theorem mQ_12_338 : mi_Q 12 338 = none := by decide +kernel
theorem mC_12_341 : mi_C 12 341 = some (206, 3, 0) := by decide +kernel
theorem mQ_12_341 : mi_Q 12 341 = none := by decide +kernel
theorem mC_12_335 : mi_C 12 335 = some (205, 2, 0) := by decide +kernel
theorem mQ_12_335 : mi_Q 12 335 = none := by decide +kernel
theorem mC_13_119 : mi_C 13 119 = some (208, 2, 0) := by decide +kernel
theorem mQ_13_119 : mi_Q 13 119 = none := by decide +kernel
theorem mC_13_128 : mi_C 13 128 = some (209, 2, 0) := by decide +kernel
theorem mQ_13_128 : mi_Q 13 128 = none := by decide +kernel
theorem mC_11_9 : mi_C 11 9 = some (15, 1, 3) := by decide +kernel
theorem mQ_11_9 : mi_Q 11 9 = none := by decide +kernel
theorem mC_1_11 : mi_C 1 11 = some (0, 1, 3) := by decide +kernel
theorem mQ_1_11 : mi_Q 1 11 = none := by decide +kernel
theorem mC_1_20 : mi_C 1 20 = some (69, 1, 3) := by decide +kernel
theorem mQ_1_20 : mi_Q 1 20 = none := by decide +kernel
theorem mC_1_27 : mi_C 1 27 = some (37, 1, 3) := by decide +kernel
theorem mQ_1_27 : mi_Q 1 27 = none := by decide +kernel
theorem mC_11_18 : mi_C 11 18 = some (51, 1, 3) := by decide +kernel
theorem mQ_11_18 : mi_Q 11 18 = none := by decide +kernel
theorem mC_11_46 : mi_C 11 46 = some (96, 1, 3) := by decide +kernel
theorem mQ_11_46 : mi_Q 11 46 = none := by decide +kernel
theorem mC_1_85 : mi_C 1 85 = some (145, 1, 4) := by decide +kernel
theorem mQ_1_85 : mi_Q 1 85 = none := by decide +kernel
theorem mC_1_127 : mi_C 1 127 = some (146, 2, 4) := by decide +kernel
theorem mQ_1_127 : mi_Q 1 127 = none := by decide +kernel
theorem mQ_11_1 : mi_Q 11 1 = some 11 := by decide +kernel
theorem mQ_1_3 : mi_Q 1 3 = some 11 := by decide +kernel
theorem mQ_0_3 : mi_Q 0 3 = some 11 := by decide +kernel
theorem mQ_0_11 : mi_Q 0 11 = some 0 := by decide +kernel
theorem mQ_3_1 : mi_Q 3 1 = some 11 := by decide +kernel
theorem mQ_0_37 : mi_Q 0 37 = some 3 := by decide +kernel
theorem mQ_6_1 : mi_Q 6 1 = some 11 := by decide +kernel
theorem mQ_7_3 : mi_Q 7 3 = some 11 := by decide +kernel
theorem mQ_7_11 : mi_Q 7 11 = some 0 := by decide +kernel
theorem mQ_2_3 : mi_Q 2 3 = some 11 := by decide +kernel
theorem mQ_2_11 : mi_Q 2 11 = some 0 := by decide +kernel
theorem mQ_2_43 : mi_Q 2 43 = some 3 := by decide +kernel
theorem mQ_1_38 : mi_Q 1 38 = some 3 := by decide +kernel
theorem mQ_4_3 : mi_Q 4 3 = some 11 := by decide +kernel
theorem mQ_4_11 : mi_Q 4 11 = some 0 := by decide +kernel
theorem mQ_8_3 : mi_Q 8 3 = some 11 := by decide +kernel
theorem mQ_5_1 : mi_Q 5 1 = some 11 := by decide +kernel
theorem mQ_5_9 : mi_Q 5 9 = some 0 := by decide +kernel
theorem mQ_5_20 : mi_Q 5 20 = some 3 := by decide +kernel
theorem mQ_9_3 : mi_Q 9 3 = some 11 := by decide +kernel
theorem mQ_9_11 : mi_Q 9 11 = some 3 := by decide +kernel
theorem mQ_9_22 : mi_Q 9 22 = some 0 := by decide +kernel
theorem mQ_10_3 : mi_Q 10 3 = some 11 := by decide +kernel
theorem mQ_10_11 : mi_Q 10 11 = some 0 := by decide +kernel
theorem mQ_0_56 : mi_Q 0 56 = some 1 := by decide +kernel
theorem mQ_4_32 : mi_Q 4 32 = some 2 := by decide +kernel
theorem mQ_3_17 : mi_Q 3 17 = some 9 := by decide +kernel
theorem mQ_3_23 : mi_Q 3 23 = some 10 := by decide +kernel
theorem mQ_4_41 : mi_Q 4 41 = some 1 := by decide +kernel
theorem mQ_0_60 : mi_Q 0 60 = some 2 := by decide +kernel
theorem mQ_0_64 : mi_Q 0 64 = some 5 := by decide +kernel
theorem mQ_6_17 : mi_Q 6 17 = some 9 := by decide +kernel
theorem mQ_6_23 : mi_Q 6 23 = some 10 := by decide +kernel
theorem mQ_7_34 : mi_Q 7 34 = some 1 := by decide +kernel
theorem mQ_7_30 : mi_Q 7 30 = some 2 := by decide +kernel
theorem mQ_1_79 : mi_Q 1 79 = some 1 := by decide +kernel
theorem mQ_5_29 : mi_Q 5 29 = some 2 := by decide +kernel
theorem mQ_5_33 : mi_Q 5 33 = some 5 := by decide +kernel
theorem mQ_5_36 : mi_Q 5 36 = some 4 := by decide +kernel
theorem mQ_1_119 : mi_Q 1 119 = some 4 := by decide +kernel
theorem mQ_11_184 : mi_Q 11 184 = some 1 := by decide +kernel
theorem mQ_11_261 : mi_Q 11 261 = some 4 := by decide +kernel
theorem mQ_0_70 : mi_Q 0 70 = some 4 := by decide +kernel
theorem mQ_2_55 : mi_Q 2 55 = some 2 := by decide +kernel
theorem mQ_2_65 : mi_Q 2 65 = some 1 := by decide +kernel
theorem mQ_2_72 : mi_Q 2 72 = some 4 := by decide +kernel
theorem mQ_2_75 : mi_Q 2 75 = some 5 := by decide +kernel
theorem mQ_1_160 : mi_Q 1 160 = some 2 := by decide +kernel
theorem mQ_2_92 : mi_Q 2 92 = some 7 := by decide +kernel
theorem mQ_9_34 : mi_Q 9 34 = some 2 := by decide +kernel
theorem mQ_9_38 : mi_Q 9 38 = some 1 := by decide +kernel
theorem mQ_9_42 : mi_Q 9 42 = some 5 := by decide +kernel
theorem mQ_9_45 : mi_Q 9 45 = some 8 := by decide +kernel
theorem mQ_9_51 : mi_Q 9 51 = some 4 := by decide +kernel
theorem mQ_4_57 : mi_Q 4 57 = some 9 := by decide +kernel
theorem mQ_8_45 : mi_Q 8 45 = some 1 := by decide +kernel
theorem mQ_10_50 : mi_Q 10 50 = some 1 := by decide +kernel
theorem mQ_10_62 : mi_Q 10 62 = some 4 := by decide +kernel
theorem mQ_10_112 : mi_Q 10 112 = some 2 := by decide +kernel
theorem mQ_10_104 : mi_Q 10 104 = some 8 := by decide +kernel
theorem mQ_12_1 : mi_Q 12 1 = some 11 := by decide +kernel
theorem mW_13_7 : mi_W 13 7 = some 11 := by decide +kernel
theorem mW_11_7 : mi_W 11 7 = some 1 := by decide +kernel
theorem mW_1_9 : mi_W 1 9 = some 0 := by decide +kernel
theorem mW_0_9 : mi_W 0 9 = some 3 := by decide +kernel
theorem mW_0_35 : mi_W 0 35 = some 6 := by decide +kernel
theorem mW_1_18 : mi_W 1 18 = some 7 := by decide +kernel
theorem mW_7_9 : mi_W 7 9 = some 3 := by decide +kernel
theorem mW_1_25 : mi_W 1 25 = some 2 := by decide +kernel
theorem mW_2_9 : mi_W 2 9 = some 3 := by decide +kernel
theorem mW_2_41 : mi_W 2 41 = some 6 := by decide +kernel
theorem mW_1_36 : mi_W 1 36 = some 6 := by decide +kernel
theorem mW_11_16 : mi_W 11 16 = some 4 := by decide +kernel
theorem mW_4_9 : mi_W 4 9 = some 3 := by decide +kernel
theorem mW_11_23 : mi_W 11 23 = some 8 := by decide +kernel
theorem mW_8_9 : mi_W 8 9 = some 5 := by decide +kernel
theorem mW_5_7 : mi_W 5 7 = some 3 := by decide +kernel
theorem mW_5_18 : mi_W 5 18 = some 6 := by decide +kernel
theorem mW_11_32 : mi_W 11 32 = some 5 := by decide +kernel
theorem mW_11_44 : mi_W 11 44 = some 9 := by decide +kernel
theorem mW_9_9 : mi_W 9 9 = some 6 := by decide +kernel
theorem mW_9_20 : mi_W 9 20 = some 3 := by decide +kernel
theorem mW_11_51 : mi_W 11 51 = some 10 := by decide +kernel
theorem mW_10_9 : mi_W 10 9 = some 3 := by decide +kernel
theorem mW_13_10 : mi_W 13 10 = some 12 := by decide +kernel
