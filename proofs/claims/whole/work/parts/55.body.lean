/-! the law's body: the calls, the loop, the start -/
abbrev lyA : List am_L := [.inl (9, [some 1, some 4, some 7, some 33, some 35, some 37, some 39, some 42, some 45, some 49]), .inl (0, [none, none, some 2, some 3]), .inr (.inl (false, 10)), .inr (.inl (false, 100)), .inl (0, [none, none, some 5, some 6]), .inr (.inl (false, 10)), .inr (.inl (false, 100)), .inl (3, [some 8, none, none]), .inr (.inr [9, 12, 15, 18, 21, 24, 27, 30]), .inl (0, [none, none, some 10, some 11]), .inr (.inl (false, 10)), .inr (.inl (false, 100)), .inl (0, [none, none, some 13, some 14]), .inr (.inl (false, 10)), .inr (.inl (false, 100)), .inl (0, [none, none, some 16, some 17]), .inr (.inl (false, 10)), .inr (.inl (false, 100)), .inl (0, [none, none, some 19, some 20]), .inr (.inl (false, 10)), .inr (.inl (false, 100)), .inl (0, [none, none, some 22, some 23]), .inr (.inl (false, 10)), .inr (.inl (false, 100)), .inl (0, [none, none, some 25, some 26]), .inr (.inl (false, 10)), .inr (.inl (false, 100)), .inl (0, [none, none, some 28, some 29]), .inr (.inl (false, 10)), .inr (.inl (false, 100)), .inl (0, [none, none, some 31, some 32]), .inr (.inl (false, 10)), .inr (.inl (false, 100)), .inl (8, [some 34, none]), .inr (.inl (false, 10)), .inl (7, [some 36, none]), .inr (.inl (true, 120)), .inl (1, [some 38]), .inr (.inl (false, 10)), .inl (6, [some 40, some 41]), .inr (.inl (false, 10)), .inr (.inl (false, 10240)), .inl (2, [some 43, some 44]), .inr (.inl (false, 10)), .inr (.inl (false, 1024)), .inl (5, [some 46, some 47, some 48, none]), .inr (.inl (false, 1024)), .inr (.inl (false, 320)), .inr (.inl (false, 320)), .inl (4, [some 50]), .inr (.inl (false, 10)), .inl (10, [some 52, some 53, some 54, none, none, some 55, none, some 56, some 57, some 58, some 59, some 60]), .inr (.inl (false, 111)), .inr (.inl (false, 111)), .inr (.inl (false, 888)), .inr (.inl (false, 10)), .inr (.inl (false, 120)), .inr (.inl (false, 10240)), .inr (.inl (false, 1024)), .inr (.inl (false, 10)), .inr (.inl (false, 10))]
theorem lyA_X0 {o : Nat} (h : o = 1 ∨ o = 4 ∨ o = 9 ∨ o = 12 ∨ o = 15 ∨ o = 18 ∨ o = 21 ∨ o = 24 ∨ o = 27 ∨ o = 30) : isX0 lyA o := by
  rcases h with rfl | rfl | rfl | rfl | rfl | rfl | rfl | rfl | rfl | rfl <;> exact ⟨rfl, rfl, rfl⟩
theorem lyA_X10 : isX10 lyA 0 := by
  refine ⟨rfl, lyA_X0 (by decide), lyA_X0 (by decide), ⟨rfl, rfl, fun j hj => lyA_X0 ?_⟩, ⟨rfl, rfl⟩, ⟨rfl, rfl⟩, ⟨rfl, rfl⟩, ⟨rfl, rfl, rfl⟩, ⟨rfl, rfl, rfl⟩, ⟨rfl, rfl, rfl, rfl⟩, ⟨rfl, rfl⟩⟩
  simp [am_hist] at hj
  omega
theorem lyA_X11 : isX11 lyA 51 := by
  refine ⟨rfl, ?_⟩
  repeat' first | exact rfl | refine And.intro rfl ?_
abbrev g_lv (ad : Nat → Nat) (b i : Nat) : List (Nat × Value) := [(3, .int (nI i)), (2, .ref (ad 51)), (1, .ref (ad 0)), (0, .ref b)]
theorem and63 (x : Int32) : ∃ k, k < 64 ∧ x &&& nI 63 = nI k := by
  have e : x = nI x.toBitVec.toNat := b_ext fun i hi => by rw [bt_n _ _ hi]; rfl
  refine ⟨x.toBitVec.toNat &&& 63, Nat.lt_of_le_of_lt Nat.and_le_right (by decide), ?_⟩
  rw [← nn_and, ← e]
theorem low4 {i L : Nat} (hi : i ≤ L) (hL : L ≤ 2048) (h : ¬ nI L - nI 4 < nI i) : i + 4 ≤ L := by
  by_cases c : 4 ≤ L
  · have e : nI L - nI 4 = nI (L - 4) := by
      have e2 : nI L = nI (L - 4) + nI 4 := by rw [nI_add]; congr 1; omega
      rw [e2, Int32.add_sub_cancel]
    rw [e, nI_ltI (by omega) (by omega)] at h
    omega
  · have k : ∀ L, L < 4 → ∀ i, i < 4 → nI L - nI 4 < nI i := by decide +kernel
    exact absurd (k L (by omega) i (by omega)) h
theorem cw_X10_reset : am_CW mX10_reset 1 := ⟨⟨by decide +kernel, by decide +kernel⟩, by decide +kernel, (am_mem 54 (by decide +kernel) rfl), (am_mem 252 (by decide +kernel) rfl), by decide⟩
theorem cw_X11_reset : am_CW mX11_reset 1 := ⟨⟨by decide +kernel, by decide +kernel⟩, by decide +kernel, (am_mem 65 (by decide +kernel) rfl), (am_mem 870 (by decide +kernel) rfl), by decide⟩
theorem cw_X10_setResult : am_CW mX10_setResult 2 := ⟨⟨by decide +kernel, by decide +kernel⟩, by decide +kernel, (am_mem 54 (by decide +kernel) rfl), (am_mem 279 (by decide +kernel) rfl), by decide⟩
theorem cw_X11_setResult : am_CW mX11_setResult 2 := ⟨⟨by decide +kernel, by decide +kernel⟩, by decide +kernel, (am_mem 65 (by decide +kernel) rfl), (am_mem 881 (by decide +kernel) rfl), by decide⟩
theorem cw_X10_setWeight : am_CW mX10_setWeight 3 := ⟨⟨by decide +kernel, by decide +kernel⟩, by decide +kernel, (am_mem 54 (by decide +kernel) rfl), (am_mem 315 (by decide +kernel) rfl), by decide⟩
theorem cw_X11_setWeight : am_CW mX11_setWeight 3 := ⟨⟨by decide +kernel, by decide +kernel⟩, by decide +kernel, (am_mem 65 (by decide +kernel) rfl), (am_mem 908 (by decide +kernel) rfl), by decide⟩
theorem cw_X10_reverseTriangle : am_CW mX10_reverseTriangle 3 := ⟨⟨by decide +kernel, by decide +kernel⟩, by decide +kernel, (am_mem 54 (by decide +kernel) rfl), (am_mem 327 (by decide +kernel) rfl), by decide⟩
theorem cw_X11_reverseTriangle : am_CW mX11_reverseTriangle 3 := ⟨⟨by decide +kernel, by decide +kernel⟩, by decide +kernel, (am_mem 65 (by decide +kernel) rfl), (am_mem 912 (by decide +kernel) rfl), by decide⟩
theorem cw_X10_reversePath : am_CW mX10_reversePath 2 := ⟨⟨by decide +kernel, by decide +kernel⟩, by decide +kernel, (am_mem 54 (by decide +kernel) rfl), (am_mem 350 (by decide +kernel) rfl), by decide⟩
theorem cw_X11_reversePath : am_CW mX11_reversePath 2 := ⟨⟨by decide +kernel, by decide +kernel⟩, by decide +kernel, (am_mem 65 (by decide +kernel) rfl), (am_mem 932 (by decide +kernel) rfl), by decide⟩
theorem cw_X10_reversePlayer : am_CW mX10_reversePlayer 1 := ⟨⟨by decide +kernel, by decide +kernel⟩, by decide +kernel, (am_mem 54 (by decide +kernel) rfl), (am_mem 382 (by decide +kernel) rfl), by decide⟩
theorem cw_X11_reversePlayer : am_CW mX11_reversePlayer 1 := ⟨⟨by decide +kernel, by decide +kernel⟩, by decide +kernel, (am_mem 65 (by decide +kernel) rfl), (am_mem 940 (by decide +kernel) rfl), by decide⟩
theorem cw_X10_exchange : am_CW mX10_exchange 2 := ⟨⟨by decide +kernel, by decide +kernel⟩, by decide +kernel, (am_mem 54 (by decide +kernel) rfl), (am_mem 388 (by decide +kernel) rfl), by decide⟩
theorem cw_X11_exchange : am_CW mX11_exchange 2 := ⟨⟨by decide +kernel, by decide +kernel⟩, by decide +kernel, (am_mem 65 (by decide +kernel) rfl), (am_mem 947 (by decide +kernel) rfl), by decide⟩
theorem cw_X10_construct : am_CW mX10_construct 0 := ⟨⟨by decide +kernel, by decide +kernel⟩, by decide +kernel, (am_mem 54 (by decide +kernel) rfl), (am_mem 402 (by decide +kernel) rfl), by decide⟩
theorem cw_X11_construct : am_CW mX11_construct 0 := ⟨⟨by decide +kernel, by decide +kernel⟩, by decide +kernel, (am_mem 65 (by decide +kernel) rfl), (am_mem 954 (by decide +kernel) rfl), by decide⟩
theorem cw_X10_enter : am_CW mX10_enter 0 := ⟨⟨by decide +kernel, by decide +kernel⟩, by decide +kernel, (am_mem 54 (by decide +kernel) rfl), (am_mem 468 (by decide +kernel) rfl), by decide⟩
theorem cw_X11_enter : am_CW mX11_enter 0 := ⟨⟨by decide +kernel, by decide +kernel⟩, by decide +kernel, (am_mem 65 (by decide +kernel) rfl), (am_mem 966 (by decide +kernel) rfl), by decide⟩
theorem cw_X10_recall : am_CW mX10_recall 0 := ⟨⟨by decide +kernel, by decide +kernel⟩, by decide +kernel, (am_mem 54 (by decide +kernel) rfl), (am_mem 490 (by decide +kernel) rfl), by decide⟩
theorem cw_X11_recall : am_CW mX11_recall 0 := ⟨⟨by decide +kernel, by decide +kernel⟩, by decide +kernel, (am_mem 65 (by decide +kernel) rfl), (am_mem 974 (by decide +kernel) rfl), by decide⟩
theorem cw_X10_undo : am_CW mX10_undo 0 := ⟨⟨by decide +kernel, by decide +kernel⟩, by decide +kernel, (am_mem 54 (by decide +kernel) rfl), (am_mem 495 (by decide +kernel) rfl), by decide⟩
theorem cw_X11_undo : am_CW mX11_undo 0 := ⟨⟨by decide +kernel, by decide +kernel⟩, by decide +kernel, (am_mem 65 (by decide +kernel) rfl), (am_mem 978 (by decide +kernel) rfl), by decide⟩
theorem cw_X10_append : am_CW mX10_append 1 := ⟨⟨by decide +kernel, by decide +kernel⟩, by decide +kernel, (am_mem 54 (by decide +kernel) rfl), (am_mem 511 (by decide +kernel) rfl), by decide⟩
theorem cw_X11_append : am_CW mX11_append 1 := ⟨⟨by decide +kernel, by decide +kernel⟩, by decide +kernel, (am_mem 65 (by decide +kernel) rfl), (am_mem 982 (by decide +kernel) rfl), by decide⟩
theorem cw_X10_clearSequence : am_CW mX10_clearSequence 0 := ⟨⟨by decide +kernel, by decide +kernel⟩, by decide +kernel, (am_mem 54 (by decide +kernel) rfl), (am_mem 520 (by decide +kernel) rfl), by decide⟩
theorem cw_X11_clearSequence : am_CW mX11_clearSequence 0 := ⟨⟨by decide +kernel, by decide +kernel⟩, by decide +kernel, (am_mem 65 (by decide +kernel) rfl), (am_mem 986 (by decide +kernel) rfl), by decide⟩
theorem cw_X10_checkSequence : am_CW mX10_checkSequence 0 := ⟨⟨by decide +kernel, by decide +kernel⟩, by decide +kernel, (am_mem 54 (by decide +kernel) rfl), (am_mem 528 (by decide +kernel) rfl), by decide⟩
theorem cw_X11_checkSequence : am_CW mX11_checkSequence 0 := ⟨⟨by decide +kernel, by decide +kernel⟩, by decide +kernel, (am_mem 65 (by decide +kernel) rfl), (am_mem 990 (by decide +kernel) rfl), by decide⟩
theorem cw_X10_type : am_CW mX10_type 1 := ⟨⟨by decide +kernel, by decide +kernel⟩, by decide +kernel, (am_mem 54 (by decide +kernel) rfl), (am_mem 532 (by decide +kernel) rfl), by decide⟩
theorem cw_X11_type : am_CW mX11_type 1 := ⟨⟨by decide +kernel, by decide +kernel⟩, by decide +kernel, (am_mem 65 (by decide +kernel) rfl), (am_mem 994 (by decide +kernel) rfl), by decide⟩
theorem cw_X10_clearText : am_CW mX10_clearText 0 := ⟨⟨by decide +kernel, by decide +kernel⟩, by decide +kernel, (am_mem 54 (by decide +kernel) rfl), (am_mem 544 (by decide +kernel) rfl), by decide⟩
theorem cw_X11_clearText : am_CW mX11_clearText 0 := ⟨⟨by decide +kernel, by decide +kernel⟩, by decide +kernel, (am_mem 65 (by decide +kernel) rfl), (am_mem 998 (by decide +kernel) rfl), by decide⟩
theorem cw_X10_fault : am_CW mX10_fault 0 := ⟨⟨by decide +kernel, by decide +kernel⟩, by decide +kernel, (am_mem 54 (by decide +kernel) rfl), (am_mem 552 (by decide +kernel) rfl), by decide⟩
theorem cw_X11_fault : am_CW mX11_fault 0 := ⟨⟨by decide +kernel, by decide +kernel⟩, by decide +kernel, (am_mem 65 (by decide +kernel) rfl), (am_mem 1002 (by decide +kernel) rfl), by decide⟩
theorem cw_X10_players : am_CW mX10_players 0 := ⟨⟨by decide +kernel, by decide +kernel⟩, by decide +kernel, (am_mem 54 (by decide +kernel) rfl), (am_mem 556 (by decide +kernel) rfl), by decide⟩
theorem cw_X11_players : am_CW mX11_players 0 := ⟨⟨by decide +kernel, by decide +kernel⟩, by decide +kernel, (am_mem 65 (by decide +kernel) rfl), (am_mem 1006 (by decide +kernel) rfl), by decide⟩
theorem cw_X10_beats : am_CW mX10_beats 2 := ⟨⟨by decide +kernel, by decide +kernel⟩, by decide +kernel, (am_mem 54 (by decide +kernel) rfl), (am_mem 560 (by decide +kernel) rfl), by decide⟩
theorem cw_X11_beats : am_CW mX11_beats 2 := ⟨⟨by decide +kernel, by decide +kernel⟩, by decide +kernel, (am_mem 65 (by decide +kernel) rfl), (am_mem 1010 (by decide +kernel) rfl), by decide⟩
theorem cw_X10_weight : am_CW mX10_weight 2 := ⟨⟨by decide +kernel, by decide +kernel⟩, by decide +kernel, (am_mem 54 (by decide +kernel) rfl), (am_mem 564 (by decide +kernel) rfl), by decide⟩
theorem cw_X11_weight : am_CW mX11_weight 2 := ⟨⟨by decide +kernel, by decide +kernel⟩, by decide +kernel, (am_mem 65 (by decide +kernel) rfl), (am_mem 1014 (by decide +kernel) rfl), by decide⟩
theorem cw_X10_score : am_CW mX10_score 1 := ⟨⟨by decide +kernel, by decide +kernel⟩, by decide +kernel, (am_mem 54 (by decide +kernel) rfl), (am_mem 568 (by decide +kernel) rfl), by decide⟩
theorem cw_X11_score : am_CW mX11_score 1 := ⟨⟨by decide +kernel, by decide +kernel⟩, by decide +kernel, (am_mem 65 (by decide +kernel) rfl), (am_mem 1018 (by decide +kernel) rfl), by decide⟩
theorem cw_X10_scoreAt : am_CW mX10_scoreAt 1 := ⟨⟨by decide +kernel, by decide +kernel⟩, by decide +kernel, (am_mem 54 (by decide +kernel) rfl), (am_mem 572 (by decide +kernel) rfl), by decide⟩
theorem cw_X11_scoreAt : am_CW mX11_scoreAt 1 := ⟨⟨by decide +kernel, by decide +kernel⟩, by decide +kernel, (am_mem 65 (by decide +kernel) rfl), (am_mem 1022 (by decide +kernel) rfl), by decide⟩
theorem cw_X10_triangles : am_CW mX10_triangles 0 := ⟨⟨by decide +kernel, by decide +kernel⟩, by decide +kernel, (am_mem 54 (by decide +kernel) rfl), (am_mem 580 (by decide +kernel) rfl), by decide⟩
theorem cw_X10_distance : am_CW mX10_distance 2 := ⟨⟨by decide +kernel, by decide +kernel⟩, by decide +kernel, (am_mem 54 (by decide +kernel) rfl), (am_mem 584 (by decide +kernel) rfl), by decide⟩
theorem cw_X11_distance : am_CW mX11_distance 2 := ⟨⟨by decide +kernel, by decide +kernel⟩, by decide +kernel, (am_mem 65 (by decide +kernel) rfl), (am_mem 1027 (by decide +kernel) rfl), by decide⟩
theorem cw_X10_components : am_CW mX10_components 0 := ⟨⟨by decide +kernel, by decide +kernel⟩, by decide +kernel, (am_mem 54 (by decide +kernel) rfl), (am_mem 588 (by decide +kernel) rfl), by decide⟩
theorem cw_X11_components : am_CW mX11_components 0 := ⟨⟨by decide +kernel, by decide +kernel⟩, by decide +kernel, (am_mem 65 (by decide +kernel) rfl), (am_mem 1031 (by decide +kernel) rfl), by decide⟩
theorem cw_X10_componentOf : am_CW mX10_componentOf 1 := ⟨⟨by decide +kernel, by decide +kernel⟩, by decide +kernel, (am_mem 54 (by decide +kernel) rfl), (am_mem 607 (by decide +kernel) rfl), by decide⟩
theorem cw_X11_componentOf : am_CW mX11_componentOf 1 := ⟨⟨by decide +kernel, by decide +kernel⟩, by decide +kernel, (am_mem 65 (by decide +kernel) rfl), (am_mem 1043 (by decide +kernel) rfl), by decide⟩
theorem cw_X10_spanningPaths : am_CW mX10_spanningPaths 0 := ⟨⟨by decide +kernel, by decide +kernel⟩, by decide +kernel, (am_mem 54 (by decide +kernel) rfl), (am_mem 614 (by decide +kernel) rfl), by decide⟩
theorem cw_X11_spanningPaths : am_CW mX11_spanningPaths 0 := ⟨⟨by decide +kernel, by decide +kernel⟩, by decide +kernel, (am_mem 65 (by decide +kernel) rfl), (am_mem 1051 (by decide +kernel) rfl), by decide⟩
theorem cw_X10_pathAt : am_CW mX10_pathAt 1 := ⟨⟨by decide +kernel, by decide +kernel⟩, by decide +kernel, (am_mem 54 (by decide +kernel) rfl), (am_mem 637 (by decide +kernel) rfl), by decide⟩
theorem cw_X11_pathAt : am_CW mX11_pathAt 1 := ⟨⟨by decide +kernel, by decide +kernel⟩, by decide +kernel, (am_mem 65 (by decide +kernel) rfl), (am_mem 1059 (by decide +kernel) rfl), by decide⟩
theorem cw_X10_cycleAt : am_CW mX10_cycleAt 3 := ⟨⟨by decide +kernel, by decide +kernel⟩, by decide +kernel, (am_mem 54 (by decide +kernel) rfl), (am_mem 646 (by decide +kernel) rfl), by decide⟩
theorem cw_X11_cycleAt : am_CW mX11_cycleAt 3 := ⟨⟨by decide +kernel, by decide +kernel⟩, by decide +kernel, (am_mem 65 (by decide +kernel) rfl), (am_mem 1063 (by decide +kernel) rfl), by decide⟩
theorem cw_X10_cycleLengths : am_CW mX10_cycleLengths 1 := ⟨⟨by decide +kernel, by decide +kernel⟩, by decide +kernel, (am_mem 54 (by decide +kernel) rfl), (am_mem 670 (by decide +kernel) rfl), by decide⟩
theorem cw_X11_cycleLengths : am_CW mX11_cycleLengths 1 := ⟨⟨by decide +kernel, by decide +kernel⟩, by decide +kernel, (am_mem 65 (by decide +kernel) rfl), (am_mem 1075 (by decide +kernel) rfl), by decide⟩
theorem cw_X10_leastCost : am_CW mX10_leastCost 0 := ⟨⟨by decide +kernel, by decide +kernel⟩, by decide +kernel, (am_mem 54 (by decide +kernel) rfl), (am_mem 678 (by decide +kernel) rfl), by decide⟩
theorem cw_X11_leastCost : am_CW mX11_leastCost 0 := ⟨⟨by decide +kernel, by decide +kernel⟩, by decide +kernel, (am_mem 65 (by decide +kernel) rfl), (am_mem 1079 (by decide +kernel) rfl), by decide⟩
theorem cw_X10_orderAt : am_CW mX10_orderAt 1 := ⟨⟨by decide +kernel, by decide +kernel⟩, by decide +kernel, (am_mem 54 (by decide +kernel) rfl), (am_mem 720 (by decide +kernel) rfl), by decide⟩
theorem cw_X11_orderAt : am_CW mX11_orderAt 1 := ⟨⟨by decide +kernel, by decide +kernel⟩, by decide +kernel, (am_mem 65 (by decide +kernel) rfl), (am_mem 1091 (by decide +kernel) rfl), by decide⟩
theorem cw_X10_winners : am_CW mX10_winners 1 := ⟨⟨by decide +kernel, by decide +kernel⟩, by decide +kernel, (am_mem 54 (by decide +kernel) rfl), (am_mem 733 (by decide +kernel) rfl), by decide⟩
theorem cw_X11_winners : am_CW mX11_winners 1 := ⟨⟨by decide +kernel, by decide +kernel⟩, by decide +kernel, (am_mem 65 (by decide +kernel) rfl), (am_mem 1099 (by decide +kernel) rfl), by decide⟩
theorem cw_X10_undisputed : am_CW mX10_undisputed 0 := ⟨⟨by decide +kernel, by decide +kernel⟩, by decide +kernel, (am_mem 54 (by decide +kernel) rfl), (am_mem 766 (by decide +kernel) rfl), by decide⟩
theorem cw_X11_undisputed : am_CW mX11_undisputed 0 := ⟨⟨by decide +kernel, by decide +kernel⟩, by decide +kernel, (am_mem 65 (by decide +kernel) rfl), (am_mem 1127 (by decide +kernel) rfl), by decide⟩
theorem cw_X10_store : am_CW mX10_store 0 := ⟨⟨by decide +kernel, by decide +kernel⟩, by decide +kernel, (am_mem 54 (by decide +kernel) rfl), (am_mem 770 (by decide +kernel) rfl), by decide⟩
theorem cw_X11_store : am_CW mX11_store 0 := ⟨⟨by decide +kernel, by decide +kernel⟩, by decide +kernel, (am_mem 65 (by decide +kernel) rfl), (am_mem 1131 (by decide +kernel) rfl), by decide⟩
theorem cw_X10_difference : am_CW mX10_difference 0 := ⟨⟨by decide +kernel, by decide +kernel⟩, by decide +kernel, (am_mem 54 (by decide +kernel) rfl), (am_mem 774 (by decide +kernel) rfl), by decide⟩
theorem cw_X11_difference : am_CW mX11_difference 0 := ⟨⟨by decide +kernel, by decide +kernel⟩, by decide +kernel, (am_mem 65 (by decide +kernel) rfl), (am_mem 1135 (by decide +kernel) rfl), by decide⟩
theorem cw_X10_isLikeStored : am_CW mX10_isLikeStored 0 := ⟨⟨by decide +kernel, by decide +kernel⟩, by decide +kernel, (am_mem 54 (by decide +kernel) rfl), (am_mem 784 (by decide +kernel) rfl), by decide⟩
theorem cw_X11_isLikeStored : am_CW mX11_isLikeStored 0 := ⟨⟨by decide +kernel, by decide +kernel⟩, by decide +kernel, (am_mem 65 (by decide +kernel) rfl), (am_mem 1143 (by decide +kernel) rfl), by decide⟩
theorem cw_X10_towardsStored : am_CW mX10_towardsStored 0 := ⟨⟨by decide +kernel, by decide +kernel⟩, by decide +kernel, (am_mem 54 (by decide +kernel) rfl), (am_mem 803 (by decide +kernel) rfl), by decide⟩
theorem cw_X11_towardsStored : am_CW mX11_towardsStored 0 := ⟨⟨by decide +kernel, by decide +kernel⟩, by decide +kernel, (am_mem 65 (by decide +kernel) rfl), (am_mem 1151 (by decide +kernel) rfl), by decide⟩
section LAWB
variable {p : Program} {l : Launch} {e : Env} {s : State} {m : MethodId} {below : List Frame} {meth : Method} {c : Code} {b L i B : Nat} {xs : Nat → Int32} {G : va_G} {cs : am_cs} {ad : Nat → Nat} {D : am_D} {T T' : am_T} {Hh : List am_T} {sq tx : List Nat}
theorem law_0 (C0 : lw_At p s m meth c b L xs) (E0 : g_E G cs s) (hL : L ≤ 2048) (hi : i + 4 ≤ L) (h : LS2 D B (T, T', Hh, sq, tx)) (hB : B < 2 ^ 31) (kk : ∀ D2 B2 st2, LS2 D2 B2 st2 → B2 ≤ B + 101 → g_W p l e s m below meth c b G 1014 (g_lv ad b i) [] (am_W (G, cs, ad) lyA D2) 600000 7302250) : g_W p l e s m below meth c b G 200 (g_lv ad b i) [] (am_W (G, cs, ad) lyA D) 600000 7302250 := by
  obtain ⟨x, D1, D2, B2, st2, m1, m2, h2, hb⟩ := j_reset lyA_X10 lyA_X11 h (xs (nI (i + 1)).toNatClampNeg)
  refine g_aload (i := 2) C0 dL_law_200 rfl ?_
  refine g_aload (i := 3) C0 dL_law_201 rfl ?_
  refine g_iload (i := 0) C0 dL_law_202 rfl ?_
  refine g_iconst (v := nI 1) C0 dL_law_203 (by decide) ?_
  refine g_iadd (v := nI (i + 1)) C0 dL_law_204 (nI_add _ _) ?_
  refine g_ald (v := (xs (nI (i + 1)).toNatClampNeg)) C0 dL_law_205 (vp_in_nI (by omega) (by omega)) rfl ?_
  refine g_call (bk := 0) (ad := ad) (av := [.int (xs (nI (i + 1)).toNatClampNeg)]) (st := []) C0 E0 dL_law_206 cw_X10_reset (am_mem 249 (by decide +kernel) rfl) (am_mem 250 (by decide +kernel) rfl) (am_mem 251 (by decide +kernel) rfl) rfl rfl rfl m1 (Nat.le_of_ble_eq_true rfl) ?_
  refine g_aload (i := 1) C0 dL_law_209 rfl ?_
  refine g_aload (i := 3) C0 dL_law_210 rfl ?_
  refine g_iload (i := 0) C0 dL_law_211 rfl ?_
  refine g_iconst (v := nI 1) C0 dL_law_212 (by decide) ?_
  refine g_iadd (v := nI (i + 1)) C0 dL_law_213 (nI_add _ _) ?_
  refine g_ald (v := (xs (nI (i + 1)).toNatClampNeg)) C0 dL_law_214 (vp_in_nI (by omega) (by omega)) rfl ?_
  refine g_call (bk := 51) (ad := ad) (av := [.int (xs (nI (i + 1)).toNatClampNeg)]) (st := [.int x]) C0 E0 dL_law_215 cw_X11_reset (am_mem 867 (by decide +kernel) rfl) (am_mem 868 (by decide +kernel) rfl) (am_mem 869 (by decide +kernel) rfl) rfl rfl rfl m2 (Nat.le_of_ble_eq_true rfl) ?_
  exact g_eq (tgt := 1014) C0 dL_law_218 (by decide) (kk D2 B2 st2 h2 hb)
theorem law_1 (C0 : lw_At p s m meth c b L xs) (E0 : g_E G cs s) (hL : L ≤ 2048) (hi : i + 4 ≤ L) (h : LS2 D B (T, T', Hh, sq, tx)) (hB : B < 2 ^ 31) (kk : ∀ D2 B2 st2, LS2 D2 B2 st2 → B2 ≤ B + 101 → g_W p l e s m below meth c b G 1014 (g_lv ad b i) [] (am_W (G, cs, ad) lyA D2) 600000 7302250) : g_W p l e s m below meth c b G 223 (g_lv ad b i) [] (am_W (G, cs, ad) lyA D) 600000 7302250 := by
  obtain ⟨x, D1, D2, B2, st2, m1, m2, h2, hb⟩ := j_setResult lyA_X10 lyA_X11 h (xs (nI (i + 1)).toNatClampNeg) (xs (nI (i + 2)).toNatClampNeg)
  refine g_aload (i := 2) C0 dL_law_223 rfl ?_
  refine g_aload (i := 3) C0 dL_law_224 rfl ?_
  refine g_iload (i := 0) C0 dL_law_225 rfl ?_
  refine g_iconst (v := nI 1) C0 dL_law_226 (by decide) ?_
  refine g_iadd (v := nI (i + 1)) C0 dL_law_227 (nI_add _ _) ?_
  refine g_ald (v := (xs (nI (i + 1)).toNatClampNeg)) C0 dL_law_228 (vp_in_nI (by omega) (by omega)) rfl ?_
  refine g_aload (i := 3) C0 dL_law_229 rfl ?_
  refine g_iload (i := 0) C0 dL_law_230 rfl ?_
  refine g_iconst (v := nI 2) C0 dL_law_231 (by decide) ?_
  refine g_iadd (v := nI (i + 2)) C0 dL_law_232 (nI_add _ _) ?_
  refine g_ald (v := (xs (nI (i + 2)).toNatClampNeg)) C0 dL_law_233 (vp_in_nI (by omega) (by omega)) rfl ?_
  refine g_call (bk := 0) (ad := ad) (av := [.int (xs (nI (i + 1)).toNatClampNeg), .int (xs (nI (i + 2)).toNatClampNeg)]) (st := []) C0 E0 dL_law_234 cw_X10_setResult (am_mem 276 (by decide +kernel) rfl) (am_mem 277 (by decide +kernel) rfl) (am_mem 278 (by decide +kernel) rfl) rfl rfl rfl m1 (Nat.le_of_ble_eq_true rfl) ?_
  refine g_aload (i := 1) C0 dL_law_237 rfl ?_
  refine g_aload (i := 3) C0 dL_law_238 rfl ?_
  refine g_iload (i := 0) C0 dL_law_239 rfl ?_
  refine g_iconst (v := nI 1) C0 dL_law_240 (by decide) ?_
  refine g_iadd (v := nI (i + 1)) C0 dL_law_241 (nI_add _ _) ?_
  refine g_ald (v := (xs (nI (i + 1)).toNatClampNeg)) C0 dL_law_242 (vp_in_nI (by omega) (by omega)) rfl ?_
  refine g_aload (i := 3) C0 dL_law_243 rfl ?_
  refine g_iload (i := 0) C0 dL_law_244 rfl ?_
  refine g_iconst (v := nI 2) C0 dL_law_245 (by decide) ?_
  refine g_iadd (v := nI (i + 2)) C0 dL_law_246 (nI_add _ _) ?_
  refine g_ald (v := (xs (nI (i + 2)).toNatClampNeg)) C0 dL_law_247 (vp_in_nI (by omega) (by omega)) rfl ?_
  refine g_call (bk := 51) (ad := ad) (av := [.int (xs (nI (i + 1)).toNatClampNeg), .int (xs (nI (i + 2)).toNatClampNeg)]) (st := [.int x]) C0 E0 dL_law_248 cw_X11_setResult (am_mem 878 (by decide +kernel) rfl) (am_mem 879 (by decide +kernel) rfl) (am_mem 880 (by decide +kernel) rfl) rfl rfl rfl m2 (Nat.le_of_ble_eq_true rfl) ?_
  exact g_eq (tgt := 1014) C0 dL_law_251 (by decide) (kk D2 B2 st2 h2 hb)
theorem law_2 (C0 : lw_At p s m meth c b L xs) (E0 : g_E G cs s) (hL : L ≤ 2048) (hi : i + 4 ≤ L) (h : LS2 D B (T, T', Hh, sq, tx)) (hB : B < 2 ^ 31) (kk : ∀ D2 B2 st2, LS2 D2 B2 st2 → B2 ≤ B + 101 → g_W p l e s m below meth c b G 1014 (g_lv ad b i) [] (am_W (G, cs, ad) lyA D2) 600000 7302250) : g_W p l e s m below meth c b G 256 (g_lv ad b i) [] (am_W (G, cs, ad) lyA D) 600000 7302250 := by
  obtain ⟨x, D1, D2, B2, st2, m1, m2, h2, hb⟩ := j_setWeight lyA_X10 lyA_X11 h (xs (nI (i + 1)).toNatClampNeg) (xs (nI (i + 2)).toNatClampNeg) (xs (nI (i + 3)).toNatClampNeg)
  refine g_aload (i := 2) C0 dL_law_256 rfl ?_
  refine g_aload (i := 3) C0 dL_law_257 rfl ?_
  refine g_iload (i := 0) C0 dL_law_258 rfl ?_
  refine g_iconst (v := nI 1) C0 dL_law_259 (by decide) ?_
  refine g_iadd (v := nI (i + 1)) C0 dL_law_260 (nI_add _ _) ?_
  refine g_ald (v := (xs (nI (i + 1)).toNatClampNeg)) C0 dL_law_261 (vp_in_nI (by omega) (by omega)) rfl ?_
  refine g_aload (i := 3) C0 dL_law_262 rfl ?_
  refine g_iload (i := 0) C0 dL_law_263 rfl ?_
  refine g_iconst (v := nI 2) C0 dL_law_264 (by decide) ?_
  refine g_iadd (v := nI (i + 2)) C0 dL_law_265 (nI_add _ _) ?_
  refine g_ald (v := (xs (nI (i + 2)).toNatClampNeg)) C0 dL_law_266 (vp_in_nI (by omega) (by omega)) rfl ?_
  refine g_aload (i := 3) C0 dL_law_267 rfl ?_
  refine g_iload (i := 0) C0 dL_law_268 rfl ?_
  refine g_iconst (v := nI 3) C0 dL_law_269 (by decide) ?_
  refine g_iadd (v := nI (i + 3)) C0 dL_law_270 (nI_add _ _) ?_
  refine g_ald (v := (xs (nI (i + 3)).toNatClampNeg)) C0 dL_law_271 (vp_in_nI (by omega) (by omega)) rfl ?_
  refine g_call (bk := 0) (ad := ad) (av := [.int (xs (nI (i + 1)).toNatClampNeg), .int (xs (nI (i + 2)).toNatClampNeg), .int (xs (nI (i + 3)).toNatClampNeg)]) (st := []) C0 E0 dL_law_272 cw_X10_setWeight (am_mem 312 (by decide +kernel) rfl) (am_mem 313 (by decide +kernel) rfl) (am_mem 314 (by decide +kernel) rfl) rfl rfl rfl m1 (Nat.le_of_ble_eq_true rfl) ?_
  refine g_aload (i := 1) C0 dL_law_275 rfl ?_
  refine g_aload (i := 3) C0 dL_law_276 rfl ?_
  refine g_iload (i := 0) C0 dL_law_277 rfl ?_
  refine g_iconst (v := nI 1) C0 dL_law_278 (by decide) ?_
  refine g_iadd (v := nI (i + 1)) C0 dL_law_279 (nI_add _ _) ?_
  refine g_ald (v := (xs (nI (i + 1)).toNatClampNeg)) C0 dL_law_280 (vp_in_nI (by omega) (by omega)) rfl ?_
  refine g_aload (i := 3) C0 dL_law_281 rfl ?_
  refine g_iload (i := 0) C0 dL_law_282 rfl ?_
  refine g_iconst (v := nI 2) C0 dL_law_283 (by decide) ?_
  refine g_iadd (v := nI (i + 2)) C0 dL_law_284 (nI_add _ _) ?_
  refine g_ald (v := (xs (nI (i + 2)).toNatClampNeg)) C0 dL_law_285 (vp_in_nI (by omega) (by omega)) rfl ?_
  refine g_aload (i := 3) C0 dL_law_286 rfl ?_
  refine g_iload (i := 0) C0 dL_law_287 rfl ?_
  refine g_iconst (v := nI 3) C0 dL_law_288 (by decide) ?_
  refine g_iadd (v := nI (i + 3)) C0 dL_law_289 (nI_add _ _) ?_
  refine g_ald (v := (xs (nI (i + 3)).toNatClampNeg)) C0 dL_law_290 (vp_in_nI (by omega) (by omega)) rfl ?_
  refine g_call (bk := 51) (ad := ad) (av := [.int (xs (nI (i + 1)).toNatClampNeg), .int (xs (nI (i + 2)).toNatClampNeg), .int (xs (nI (i + 3)).toNatClampNeg)]) (st := [.int x]) C0 E0 dL_law_291 cw_X11_setWeight (am_mem 905 (by decide +kernel) rfl) (am_mem 906 (by decide +kernel) rfl) (am_mem 907 (by decide +kernel) rfl) rfl rfl rfl m2 (Nat.le_of_ble_eq_true rfl) ?_
  exact g_eq (tgt := 1014) C0 dL_law_294 (by decide) (kk D2 B2 st2 h2 hb)
theorem law_3 (C0 : lw_At p s m meth c b L xs) (E0 : g_E G cs s) (hL : L ≤ 2048) (hi : i + 4 ≤ L) (h : LS2 D B (T, T', Hh, sq, tx)) (hB : B < 2 ^ 31) (kk : ∀ D2 B2 st2, LS2 D2 B2 st2 → B2 ≤ B + 101 → g_W p l e s m below meth c b G 1014 (g_lv ad b i) [] (am_W (G, cs, ad) lyA D2) 600000 7302250) : g_W p l e s m below meth c b G 299 (g_lv ad b i) [] (am_W (G, cs, ad) lyA D) 600000 7302250 := by
  obtain ⟨x, D1, D2, B2, st2, m1, m2, h2, hb⟩ := j_reverseTriangle lyA_X10 lyA_X11 h (xs (nI (i + 1)).toNatClampNeg) (xs (nI (i + 2)).toNatClampNeg) (xs (nI (i + 3)).toNatClampNeg)
  refine g_aload (i := 2) C0 dL_law_299 rfl ?_
  refine g_aload (i := 3) C0 dL_law_300 rfl ?_
  refine g_iload (i := 0) C0 dL_law_301 rfl ?_
  refine g_iconst (v := nI 1) C0 dL_law_302 (by decide) ?_
  refine g_iadd (v := nI (i + 1)) C0 dL_law_303 (nI_add _ _) ?_
  refine g_ald (v := (xs (nI (i + 1)).toNatClampNeg)) C0 dL_law_304 (vp_in_nI (by omega) (by omega)) rfl ?_
  refine g_aload (i := 3) C0 dL_law_305 rfl ?_
  refine g_iload (i := 0) C0 dL_law_306 rfl ?_
  refine g_iconst (v := nI 2) C0 dL_law_307 (by decide) ?_
  refine g_iadd (v := nI (i + 2)) C0 dL_law_308 (nI_add _ _) ?_
  refine g_ald (v := (xs (nI (i + 2)).toNatClampNeg)) C0 dL_law_309 (vp_in_nI (by omega) (by omega)) rfl ?_
  refine g_aload (i := 3) C0 dL_law_310 rfl ?_
  refine g_iload (i := 0) C0 dL_law_311 rfl ?_
  refine g_iconst (v := nI 3) C0 dL_law_312 (by decide) ?_
  refine g_iadd (v := nI (i + 3)) C0 dL_law_313 (nI_add _ _) ?_
  refine g_ald (v := (xs (nI (i + 3)).toNatClampNeg)) C0 dL_law_314 (vp_in_nI (by omega) (by omega)) rfl ?_
  refine g_call (bk := 0) (ad := ad) (av := [.int (xs (nI (i + 1)).toNatClampNeg), .int (xs (nI (i + 2)).toNatClampNeg), .int (xs (nI (i + 3)).toNatClampNeg)]) (st := []) C0 E0 dL_law_315 cw_X10_reverseTriangle (am_mem 324 (by decide +kernel) rfl) (am_mem 325 (by decide +kernel) rfl) (am_mem 326 (by decide +kernel) rfl) rfl rfl rfl m1 (Nat.le_of_ble_eq_true rfl) ?_
  refine g_aload (i := 1) C0 dL_law_318 rfl ?_
  refine g_aload (i := 3) C0 dL_law_319 rfl ?_
  refine g_iload (i := 0) C0 dL_law_320 rfl ?_
  refine g_iconst (v := nI 1) C0 dL_law_321 (by decide) ?_
  refine g_iadd (v := nI (i + 1)) C0 dL_law_322 (nI_add _ _) ?_
  refine g_ald (v := (xs (nI (i + 1)).toNatClampNeg)) C0 dL_law_323 (vp_in_nI (by omega) (by omega)) rfl ?_
  refine g_aload (i := 3) C0 dL_law_324 rfl ?_
  refine g_iload (i := 0) C0 dL_law_325 rfl ?_
  refine g_iconst (v := nI 2) C0 dL_law_326 (by decide) ?_
  refine g_iadd (v := nI (i + 2)) C0 dL_law_327 (nI_add _ _) ?_
  refine g_ald (v := (xs (nI (i + 2)).toNatClampNeg)) C0 dL_law_328 (vp_in_nI (by omega) (by omega)) rfl ?_
  refine g_aload (i := 3) C0 dL_law_329 rfl ?_
  refine g_iload (i := 0) C0 dL_law_330 rfl ?_
  refine g_iconst (v := nI 3) C0 dL_law_331 (by decide) ?_
  refine g_iadd (v := nI (i + 3)) C0 dL_law_332 (nI_add _ _) ?_
  refine g_ald (v := (xs (nI (i + 3)).toNatClampNeg)) C0 dL_law_333 (vp_in_nI (by omega) (by omega)) rfl ?_
  refine g_call (bk := 51) (ad := ad) (av := [.int (xs (nI (i + 1)).toNatClampNeg), .int (xs (nI (i + 2)).toNatClampNeg), .int (xs (nI (i + 3)).toNatClampNeg)]) (st := [.int x]) C0 E0 dL_law_334 cw_X11_reverseTriangle (am_mem 909 (by decide +kernel) rfl) (am_mem 910 (by decide +kernel) rfl) (am_mem 911 (by decide +kernel) rfl) rfl rfl rfl m2 (Nat.le_of_ble_eq_true rfl) ?_
  exact g_eq (tgt := 1014) C0 dL_law_337 (by decide) (kk D2 B2 st2 h2 hb)
theorem law_4 (C0 : lw_At p s m meth c b L xs) (E0 : g_E G cs s) (hL : L ≤ 2048) (hi : i + 4 ≤ L) (h : LS2 D B (T, T', Hh, sq, tx)) (hB : B < 2 ^ 31) (kk : ∀ D2 B2 st2, LS2 D2 B2 st2 → B2 ≤ B + 101 → g_W p l e s m below meth c b G 1014 (g_lv ad b i) [] (am_W (G, cs, ad) lyA D2) 600000 7302250) : g_W p l e s m below meth c b G 342 (g_lv ad b i) [] (am_W (G, cs, ad) lyA D) 600000 7302250 := by
  obtain ⟨x, D1, D2, B2, st2, m1, m2, h2, hb⟩ := j_reversePath lyA_X10 lyA_X11 h (xs (nI (i + 1)).toNatClampNeg) (xs (nI (i + 2)).toNatClampNeg)
  refine g_aload (i := 2) C0 dL_law_342 rfl ?_
  refine g_aload (i := 3) C0 dL_law_343 rfl ?_
  refine g_iload (i := 0) C0 dL_law_344 rfl ?_
  refine g_iconst (v := nI 1) C0 dL_law_345 (by decide) ?_
  refine g_iadd (v := nI (i + 1)) C0 dL_law_346 (nI_add _ _) ?_
  refine g_ald (v := (xs (nI (i + 1)).toNatClampNeg)) C0 dL_law_347 (vp_in_nI (by omega) (by omega)) rfl ?_
  refine g_aload (i := 3) C0 dL_law_348 rfl ?_
  refine g_iload (i := 0) C0 dL_law_349 rfl ?_
  refine g_iconst (v := nI 2) C0 dL_law_350 (by decide) ?_
  refine g_iadd (v := nI (i + 2)) C0 dL_law_351 (nI_add _ _) ?_
  refine g_ald (v := (xs (nI (i + 2)).toNatClampNeg)) C0 dL_law_352 (vp_in_nI (by omega) (by omega)) rfl ?_
  refine g_call (bk := 0) (ad := ad) (av := [.int (xs (nI (i + 1)).toNatClampNeg), .int (xs (nI (i + 2)).toNatClampNeg)]) (st := []) C0 E0 dL_law_353 cw_X10_reversePath (am_mem 347 (by decide +kernel) rfl) (am_mem 348 (by decide +kernel) rfl) (am_mem 349 (by decide +kernel) rfl) rfl rfl rfl m1 (Nat.le_of_ble_eq_true rfl) ?_
  refine g_aload (i := 1) C0 dL_law_356 rfl ?_
  refine g_aload (i := 3) C0 dL_law_357 rfl ?_
  refine g_iload (i := 0) C0 dL_law_358 rfl ?_
  refine g_iconst (v := nI 1) C0 dL_law_359 (by decide) ?_
  refine g_iadd (v := nI (i + 1)) C0 dL_law_360 (nI_add _ _) ?_
  refine g_ald (v := (xs (nI (i + 1)).toNatClampNeg)) C0 dL_law_361 (vp_in_nI (by omega) (by omega)) rfl ?_
  refine g_aload (i := 3) C0 dL_law_362 rfl ?_
  refine g_iload (i := 0) C0 dL_law_363 rfl ?_
  refine g_iconst (v := nI 2) C0 dL_law_364 (by decide) ?_
  refine g_iadd (v := nI (i + 2)) C0 dL_law_365 (nI_add _ _) ?_
  refine g_ald (v := (xs (nI (i + 2)).toNatClampNeg)) C0 dL_law_366 (vp_in_nI (by omega) (by omega)) rfl ?_
  refine g_call (bk := 51) (ad := ad) (av := [.int (xs (nI (i + 1)).toNatClampNeg), .int (xs (nI (i + 2)).toNatClampNeg)]) (st := [.int x]) C0 E0 dL_law_367 cw_X11_reversePath (am_mem 929 (by decide +kernel) rfl) (am_mem 930 (by decide +kernel) rfl) (am_mem 931 (by decide +kernel) rfl) rfl rfl rfl m2 (Nat.le_of_ble_eq_true rfl) ?_
  exact g_eq (tgt := 1014) C0 dL_law_370 (by decide) (kk D2 B2 st2 h2 hb)
theorem law_5 (C0 : lw_At p s m meth c b L xs) (E0 : g_E G cs s) (hL : L ≤ 2048) (hi : i + 4 ≤ L) (h : LS2 D B (T, T', Hh, sq, tx)) (hB : B < 2 ^ 31) (kk : ∀ D2 B2 st2, LS2 D2 B2 st2 → B2 ≤ B + 101 → g_W p l e s m below meth c b G 1014 (g_lv ad b i) [] (am_W (G, cs, ad) lyA D2) 600000 7302250) : g_W p l e s m below meth c b G 375 (g_lv ad b i) [] (am_W (G, cs, ad) lyA D) 600000 7302250 := by
  obtain ⟨x, D1, D2, B2, st2, m1, m2, h2, hb⟩ := j_reversePlayer lyA_X10 lyA_X11 h (xs (nI (i + 1)).toNatClampNeg)
  refine g_aload (i := 2) C0 dL_law_375 rfl ?_
  refine g_aload (i := 3) C0 dL_law_376 rfl ?_
  refine g_iload (i := 0) C0 dL_law_377 rfl ?_
  refine g_iconst (v := nI 1) C0 dL_law_378 (by decide) ?_
  refine g_iadd (v := nI (i + 1)) C0 dL_law_379 (nI_add _ _) ?_
  refine g_ald (v := (xs (nI (i + 1)).toNatClampNeg)) C0 dL_law_380 (vp_in_nI (by omega) (by omega)) rfl ?_
  refine g_call (bk := 0) (ad := ad) (av := [.int (xs (nI (i + 1)).toNatClampNeg)]) (st := []) C0 E0 dL_law_381 cw_X10_reversePlayer (am_mem 379 (by decide +kernel) rfl) (am_mem 380 (by decide +kernel) rfl) (am_mem 381 (by decide +kernel) rfl) rfl rfl rfl m1 (Nat.le_of_ble_eq_true rfl) ?_
  refine g_aload (i := 1) C0 dL_law_384 rfl ?_
  refine g_aload (i := 3) C0 dL_law_385 rfl ?_
  refine g_iload (i := 0) C0 dL_law_386 rfl ?_
  refine g_iconst (v := nI 1) C0 dL_law_387 (by decide) ?_
  refine g_iadd (v := nI (i + 1)) C0 dL_law_388 (nI_add _ _) ?_
  refine g_ald (v := (xs (nI (i + 1)).toNatClampNeg)) C0 dL_law_389 (vp_in_nI (by omega) (by omega)) rfl ?_
  refine g_call (bk := 51) (ad := ad) (av := [.int (xs (nI (i + 1)).toNatClampNeg)]) (st := [.int x]) C0 E0 dL_law_390 cw_X11_reversePlayer (am_mem 937 (by decide +kernel) rfl) (am_mem 938 (by decide +kernel) rfl) (am_mem 939 (by decide +kernel) rfl) rfl rfl rfl m2 (Nat.le_of_ble_eq_true rfl) ?_
  exact g_eq (tgt := 1014) C0 dL_law_393 (by decide) (kk D2 B2 st2 h2 hb)
theorem law_6 (C0 : lw_At p s m meth c b L xs) (E0 : g_E G cs s) (hL : L ≤ 2048) (hi : i + 4 ≤ L) (h : LS2 D B (T, T', Hh, sq, tx)) (hB : B < 2 ^ 31) (kk : ∀ D2 B2 st2, LS2 D2 B2 st2 → B2 ≤ B + 101 → g_W p l e s m below meth c b G 1014 (g_lv ad b i) [] (am_W (G, cs, ad) lyA D2) 600000 7302250) : g_W p l e s m below meth c b G 398 (g_lv ad b i) [] (am_W (G, cs, ad) lyA D) 600000 7302250 := by
  obtain ⟨x, D1, D2, B2, st2, m1, m2, h2, hb⟩ := j_exchange lyA_X10 lyA_X11 h (xs (nI (i + 1)).toNatClampNeg) (xs (nI (i + 2)).toNatClampNeg)
  refine g_aload (i := 2) C0 dL_law_398 rfl ?_
  refine g_aload (i := 3) C0 dL_law_399 rfl ?_
  refine g_iload (i := 0) C0 dL_law_400 rfl ?_
  refine g_iconst (v := nI 1) C0 dL_law_401 (by decide) ?_
  refine g_iadd (v := nI (i + 1)) C0 dL_law_402 (nI_add _ _) ?_
  refine g_ald (v := (xs (nI (i + 1)).toNatClampNeg)) C0 dL_law_403 (vp_in_nI (by omega) (by omega)) rfl ?_
  refine g_aload (i := 3) C0 dL_law_404 rfl ?_
  refine g_iload (i := 0) C0 dL_law_405 rfl ?_
  refine g_iconst (v := nI 2) C0 dL_law_406 (by decide) ?_
  refine g_iadd (v := nI (i + 2)) C0 dL_law_407 (nI_add _ _) ?_
  refine g_ald (v := (xs (nI (i + 2)).toNatClampNeg)) C0 dL_law_408 (vp_in_nI (by omega) (by omega)) rfl ?_
  refine g_call (bk := 0) (ad := ad) (av := [.int (xs (nI (i + 1)).toNatClampNeg), .int (xs (nI (i + 2)).toNatClampNeg)]) (st := []) C0 E0 dL_law_409 cw_X10_exchange (am_mem 385 (by decide +kernel) rfl) (am_mem 386 (by decide +kernel) rfl) (am_mem 387 (by decide +kernel) rfl) rfl rfl rfl m1 (Nat.le_of_ble_eq_true rfl) ?_
  refine g_aload (i := 1) C0 dL_law_412 rfl ?_
  refine g_aload (i := 3) C0 dL_law_413 rfl ?_
  refine g_iload (i := 0) C0 dL_law_414 rfl ?_
  refine g_iconst (v := nI 1) C0 dL_law_415 (by decide) ?_
  refine g_iadd (v := nI (i + 1)) C0 dL_law_416 (nI_add _ _) ?_
  refine g_ald (v := (xs (nI (i + 1)).toNatClampNeg)) C0 dL_law_417 (vp_in_nI (by omega) (by omega)) rfl ?_
  refine g_aload (i := 3) C0 dL_law_418 rfl ?_
  refine g_iload (i := 0) C0 dL_law_419 rfl ?_
  refine g_iconst (v := nI 2) C0 dL_law_420 (by decide) ?_
  refine g_iadd (v := nI (i + 2)) C0 dL_law_421 (nI_add _ _) ?_
  refine g_ald (v := (xs (nI (i + 2)).toNatClampNeg)) C0 dL_law_422 (vp_in_nI (by omega) (by omega)) rfl ?_
  refine g_call (bk := 51) (ad := ad) (av := [.int (xs (nI (i + 1)).toNatClampNeg), .int (xs (nI (i + 2)).toNatClampNeg)]) (st := [.int x]) C0 E0 dL_law_423 cw_X11_exchange (am_mem 944 (by decide +kernel) rfl) (am_mem 945 (by decide +kernel) rfl) (am_mem 946 (by decide +kernel) rfl) rfl rfl rfl m2 (Nat.le_of_ble_eq_true rfl) ?_
  exact g_eq (tgt := 1014) C0 dL_law_426 (by decide) (kk D2 B2 st2 h2 hb)
theorem law_7 (C0 : lw_At p s m meth c b L xs) (E0 : g_E G cs s) (hL : L ≤ 2048) (hi : i + 4 ≤ L) (h : LS2 D B (T, T', Hh, sq, tx)) (hB : B < 2 ^ 31) (kk : ∀ D2 B2 st2, LS2 D2 B2 st2 → B2 ≤ B + 101 → g_W p l e s m below meth c b G 1014 (g_lv ad b i) [] (am_W (G, cs, ad) lyA D2) 600000 7302250) : g_W p l e s m below meth c b G 431 (g_lv ad b i) [] (am_W (G, cs, ad) lyA D) 600000 7302250 := by
  obtain ⟨x, D1, D2, B2, st2, m1, m2, h2, hb⟩ := j_construct lyA_X10 lyA_X11 h 
  refine g_aload (i := 2) C0 dL_law_431 rfl ?_
  refine g_call (bk := 0) (ad := ad) (av := []) (st := []) C0 E0 dL_law_432 cw_X10_construct (am_mem 399 (by decide +kernel) rfl) (am_mem 400 (by decide +kernel) rfl) (am_mem 401 (by decide +kernel) rfl) rfl rfl rfl m1 (Nat.le_of_ble_eq_true rfl) ?_
  refine g_aload (i := 1) C0 dL_law_435 rfl ?_
  refine g_call (bk := 51) (ad := ad) (av := []) (st := [.int x]) C0 E0 dL_law_436 cw_X11_construct (am_mem 951 (by decide +kernel) rfl) (am_mem 952 (by decide +kernel) rfl) (am_mem 953 (by decide +kernel) rfl) rfl rfl rfl m2 (Nat.le_of_ble_eq_true rfl) ?_
  exact g_eq (tgt := 1014) C0 dL_law_439 (by decide) (kk D2 B2 st2 h2 hb)
theorem law_8 (C0 : lw_At p s m meth c b L xs) (E0 : g_E G cs s) (hL : L ≤ 2048) (hi : i + 4 ≤ L) (h : LS2 D B (T, T', Hh, sq, tx)) (hB : B < 2 ^ 31) (kk : ∀ D2 B2 st2, LS2 D2 B2 st2 → B2 ≤ B + 101 → g_W p l e s m below meth c b G 1014 (g_lv ad b i) [] (am_W (G, cs, ad) lyA D2) 600000 7302250) : g_W p l e s m below meth c b G 444 (g_lv ad b i) [] (am_W (G, cs, ad) lyA D) 600000 7302250 := by
  obtain ⟨x, D1, D2, B2, st2, m1, m2, h2, hb⟩ := j_enter lyA_X10 lyA_X11 h 
  refine g_aload (i := 2) C0 dL_law_444 rfl ?_
  refine g_call (bk := 0) (ad := ad) (av := []) (st := []) C0 E0 dL_law_445 cw_X10_enter (am_mem 465 (by decide +kernel) rfl) (am_mem 466 (by decide +kernel) rfl) (am_mem 467 (by decide +kernel) rfl) rfl rfl rfl m1 (Nat.le_of_ble_eq_true rfl) ?_
  refine g_aload (i := 1) C0 dL_law_448 rfl ?_
  refine g_call (bk := 51) (ad := ad) (av := []) (st := [.int x]) C0 E0 dL_law_449 cw_X11_enter (am_mem 963 (by decide +kernel) rfl) (am_mem 964 (by decide +kernel) rfl) (am_mem 965 (by decide +kernel) rfl) rfl rfl rfl m2 (Nat.le_of_ble_eq_true rfl) ?_
  exact g_eq (tgt := 1014) C0 dL_law_452 (by decide) (kk D2 B2 st2 h2 hb)
theorem law_9 (C0 : lw_At p s m meth c b L xs) (E0 : g_E G cs s) (hL : L ≤ 2048) (hi : i + 4 ≤ L) (h : LS2 D B (T, T', Hh, sq, tx)) (hB : B < 2 ^ 31) (kk : ∀ D2 B2 st2, LS2 D2 B2 st2 → B2 ≤ B + 101 → g_W p l e s m below meth c b G 1014 (g_lv ad b i) [] (am_W (G, cs, ad) lyA D2) 600000 7302250) : g_W p l e s m below meth c b G 457 (g_lv ad b i) [] (am_W (G, cs, ad) lyA D) 600000 7302250 := by
  obtain ⟨x, D1, D2, B2, st2, m1, m2, h2, hb⟩ := j_recall lyA_X10 lyA_X11 h 
  refine g_aload (i := 2) C0 dL_law_457 rfl ?_
  refine g_call (bk := 0) (ad := ad) (av := []) (st := []) C0 E0 dL_law_458 cw_X10_recall (am_mem 487 (by decide +kernel) rfl) (am_mem 488 (by decide +kernel) rfl) (am_mem 489 (by decide +kernel) rfl) rfl rfl rfl m1 (Nat.le_of_ble_eq_true rfl) ?_
  refine g_aload (i := 1) C0 dL_law_461 rfl ?_
  refine g_call (bk := 51) (ad := ad) (av := []) (st := [.int x]) C0 E0 dL_law_462 cw_X11_recall (am_mem 971 (by decide +kernel) rfl) (am_mem 972 (by decide +kernel) rfl) (am_mem 973 (by decide +kernel) rfl) rfl rfl rfl m2 (Nat.le_of_ble_eq_true rfl) ?_
  exact g_eq (tgt := 1014) C0 dL_law_465 (by decide) (kk D2 B2 st2 h2 hb)
theorem law_10 (C0 : lw_At p s m meth c b L xs) (E0 : g_E G cs s) (hL : L ≤ 2048) (hi : i + 4 ≤ L) (h : LS2 D B (T, T', Hh, sq, tx)) (hB : B < 2 ^ 31) (kk : ∀ D2 B2 st2, LS2 D2 B2 st2 → B2 ≤ B + 101 → g_W p l e s m below meth c b G 1014 (g_lv ad b i) [] (am_W (G, cs, ad) lyA D2) 600000 7302250) : g_W p l e s m below meth c b G 470 (g_lv ad b i) [] (am_W (G, cs, ad) lyA D) 600000 7302250 := by
  obtain ⟨x, D1, D2, B2, st2, m1, m2, h2, hb⟩ := j_undo lyA_X10 lyA_X11 h 
  refine g_aload (i := 2) C0 dL_law_470 rfl ?_
  refine g_call (bk := 0) (ad := ad) (av := []) (st := []) C0 E0 dL_law_471 cw_X10_undo (am_mem 492 (by decide +kernel) rfl) (am_mem 493 (by decide +kernel) rfl) (am_mem 494 (by decide +kernel) rfl) rfl rfl rfl m1 (Nat.le_of_ble_eq_true rfl) ?_
  refine g_aload (i := 1) C0 dL_law_474 rfl ?_
  refine g_call (bk := 51) (ad := ad) (av := []) (st := [.int x]) C0 E0 dL_law_475 cw_X11_undo (am_mem 975 (by decide +kernel) rfl) (am_mem 976 (by decide +kernel) rfl) (am_mem 977 (by decide +kernel) rfl) rfl rfl rfl m2 (Nat.le_of_ble_eq_true rfl) ?_
  exact g_eq (tgt := 1014) C0 dL_law_478 (by decide) (kk D2 B2 st2 h2 hb)
theorem law_11 (C0 : lw_At p s m meth c b L xs) (E0 : g_E G cs s) (hL : L ≤ 2048) (hi : i + 4 ≤ L) (h : LS2 D B (T, T', Hh, sq, tx)) (hB : B < 2 ^ 31) (kk : ∀ D2 B2 st2, LS2 D2 B2 st2 → B2 ≤ B + 101 → g_W p l e s m below meth c b G 1014 (g_lv ad b i) [] (am_W (G, cs, ad) lyA D2) 600000 7302250) : g_W p l e s m below meth c b G 483 (g_lv ad b i) [] (am_W (G, cs, ad) lyA D) 600000 7302250 := by
  obtain ⟨x, D1, D2, B2, st2, m1, m2, h2, hb⟩ := j_append lyA_X10 lyA_X11 h (xs (nI (i + 1)).toNatClampNeg)
  refine g_aload (i := 2) C0 dL_law_483 rfl ?_
  refine g_aload (i := 3) C0 dL_law_484 rfl ?_
  refine g_iload (i := 0) C0 dL_law_485 rfl ?_
  refine g_iconst (v := nI 1) C0 dL_law_486 (by decide) ?_
  refine g_iadd (v := nI (i + 1)) C0 dL_law_487 (nI_add _ _) ?_
  refine g_ald (v := (xs (nI (i + 1)).toNatClampNeg)) C0 dL_law_488 (vp_in_nI (by omega) (by omega)) rfl ?_
  refine g_call (bk := 0) (ad := ad) (av := [.int (xs (nI (i + 1)).toNatClampNeg)]) (st := []) C0 E0 dL_law_489 cw_X10_append (am_mem 508 (by decide +kernel) rfl) (am_mem 509 (by decide +kernel) rfl) (am_mem 510 (by decide +kernel) rfl) rfl rfl rfl m1 (Nat.le_of_ble_eq_true rfl) ?_
  refine g_aload (i := 1) C0 dL_law_492 rfl ?_
  refine g_aload (i := 3) C0 dL_law_493 rfl ?_
  refine g_iload (i := 0) C0 dL_law_494 rfl ?_
  refine g_iconst (v := nI 1) C0 dL_law_495 (by decide) ?_
  refine g_iadd (v := nI (i + 1)) C0 dL_law_496 (nI_add _ _) ?_
  refine g_ald (v := (xs (nI (i + 1)).toNatClampNeg)) C0 dL_law_497 (vp_in_nI (by omega) (by omega)) rfl ?_
  refine g_call (bk := 51) (ad := ad) (av := [.int (xs (nI (i + 1)).toNatClampNeg)]) (st := [.int x]) C0 E0 dL_law_498 cw_X11_append (am_mem 979 (by decide +kernel) rfl) (am_mem 980 (by decide +kernel) rfl) (am_mem 981 (by decide +kernel) rfl) rfl rfl rfl m2 (Nat.le_of_ble_eq_true rfl) ?_
  exact g_eq (tgt := 1014) C0 dL_law_501 (by decide) (kk D2 B2 st2 h2 hb)
theorem law_12 (C0 : lw_At p s m meth c b L xs) (E0 : g_E G cs s) (hL : L ≤ 2048) (hi : i + 4 ≤ L) (h : LS2 D B (T, T', Hh, sq, tx)) (hB : B < 2 ^ 31) (kk : ∀ D2 B2 st2, LS2 D2 B2 st2 → B2 ≤ B + 101 → g_W p l e s m below meth c b G 1014 (g_lv ad b i) [] (am_W (G, cs, ad) lyA D2) 600000 7302250) : g_W p l e s m below meth c b G 506 (g_lv ad b i) [] (am_W (G, cs, ad) lyA D) 600000 7302250 := by
  obtain ⟨x, D1, D2, B2, st2, m1, m2, h2, hb⟩ := j_clearSequence lyA_X10 lyA_X11 h 
  refine g_aload (i := 2) C0 dL_law_506 rfl ?_
  refine g_call (bk := 0) (ad := ad) (av := []) (st := []) C0 E0 dL_law_507 cw_X10_clearSequence (am_mem 517 (by decide +kernel) rfl) (am_mem 518 (by decide +kernel) rfl) (am_mem 519 (by decide +kernel) rfl) rfl rfl rfl m1 (Nat.le_of_ble_eq_true rfl) ?_
  refine g_aload (i := 1) C0 dL_law_510 rfl ?_
  refine g_call (bk := 51) (ad := ad) (av := []) (st := [.int x]) C0 E0 dL_law_511 cw_X11_clearSequence (am_mem 983 (by decide +kernel) rfl) (am_mem 984 (by decide +kernel) rfl) (am_mem 985 (by decide +kernel) rfl) rfl rfl rfl m2 (Nat.le_of_ble_eq_true rfl) ?_
  exact g_eq (tgt := 1014) C0 dL_law_514 (by decide) (kk D2 B2 st2 h2 hb)
theorem law_13 (C0 : lw_At p s m meth c b L xs) (E0 : g_E G cs s) (hL : L ≤ 2048) (hi : i + 4 ≤ L) (h : LS2 D B (T, T', Hh, sq, tx)) (hB : B < 2 ^ 31) (kk : ∀ D2 B2 st2, LS2 D2 B2 st2 → B2 ≤ B + 101 → g_W p l e s m below meth c b G 1014 (g_lv ad b i) [] (am_W (G, cs, ad) lyA D2) 600000 7302250) : g_W p l e s m below meth c b G 519 (g_lv ad b i) [] (am_W (G, cs, ad) lyA D) 600000 7302250 := by
  obtain ⟨x, D1, D2, B2, st2, m1, m2, h2, hb⟩ := j_checkSequence lyA_X10 lyA_X11 h 
  refine g_aload (i := 2) C0 dL_law_519 rfl ?_
  refine g_call (bk := 0) (ad := ad) (av := []) (st := []) C0 E0 dL_law_520 cw_X10_checkSequence (am_mem 525 (by decide +kernel) rfl) (am_mem 526 (by decide +kernel) rfl) (am_mem 527 (by decide +kernel) rfl) rfl rfl rfl m1 (Nat.le_of_ble_eq_true rfl) ?_
  refine g_aload (i := 1) C0 dL_law_523 rfl ?_
  refine g_call (bk := 51) (ad := ad) (av := []) (st := [.int x]) C0 E0 dL_law_524 cw_X11_checkSequence (am_mem 987 (by decide +kernel) rfl) (am_mem 988 (by decide +kernel) rfl) (am_mem 989 (by decide +kernel) rfl) rfl rfl rfl m2 (Nat.le_of_ble_eq_true rfl) ?_
  exact g_eq (tgt := 1014) C0 dL_law_527 (by decide) (kk D2 B2 st2 h2 hb)
theorem law_14 (C0 : lw_At p s m meth c b L xs) (E0 : g_E G cs s) (hL : L ≤ 2048) (hi : i + 4 ≤ L) (h : LS2 D B (T, T', Hh, sq, tx)) (hB : B < 2 ^ 31) (kk : ∀ D2 B2 st2, LS2 D2 B2 st2 → B2 ≤ B + 101 → g_W p l e s m below meth c b G 1014 (g_lv ad b i) [] (am_W (G, cs, ad) lyA D2) 600000 7302250) : g_W p l e s m below meth c b G 532 (g_lv ad b i) [] (am_W (G, cs, ad) lyA D) 600000 7302250 := by
  obtain ⟨x, D1, D2, B2, st2, m1, m2, h2, hb⟩ := j_type lyA_X10 lyA_X11 h (xs (nI (i + 1)).toNatClampNeg)
  refine g_aload (i := 2) C0 dL_law_532 rfl ?_
  refine g_aload (i := 3) C0 dL_law_533 rfl ?_
  refine g_iload (i := 0) C0 dL_law_534 rfl ?_
  refine g_iconst (v := nI 1) C0 dL_law_535 (by decide) ?_
  refine g_iadd (v := nI (i + 1)) C0 dL_law_536 (nI_add _ _) ?_
  refine g_ald (v := (xs (nI (i + 1)).toNatClampNeg)) C0 dL_law_537 (vp_in_nI (by omega) (by omega)) rfl ?_
  refine g_call (bk := 0) (ad := ad) (av := [.int (xs (nI (i + 1)).toNatClampNeg)]) (st := []) C0 E0 dL_law_538 cw_X10_type (am_mem 529 (by decide +kernel) rfl) (am_mem 530 (by decide +kernel) rfl) (am_mem 531 (by decide +kernel) rfl) rfl rfl rfl m1 (Nat.le_of_ble_eq_true rfl) ?_
  refine g_aload (i := 1) C0 dL_law_541 rfl ?_
  refine g_aload (i := 3) C0 dL_law_542 rfl ?_
  refine g_iload (i := 0) C0 dL_law_543 rfl ?_
  refine g_iconst (v := nI 1) C0 dL_law_544 (by decide) ?_
  refine g_iadd (v := nI (i + 1)) C0 dL_law_545 (nI_add _ _) ?_
  refine g_ald (v := (xs (nI (i + 1)).toNatClampNeg)) C0 dL_law_546 (vp_in_nI (by omega) (by omega)) rfl ?_
  refine g_call (bk := 51) (ad := ad) (av := [.int (xs (nI (i + 1)).toNatClampNeg)]) (st := [.int x]) C0 E0 dL_law_547 cw_X11_type (am_mem 991 (by decide +kernel) rfl) (am_mem 992 (by decide +kernel) rfl) (am_mem 993 (by decide +kernel) rfl) rfl rfl rfl m2 (Nat.le_of_ble_eq_true rfl) ?_
  exact g_eq (tgt := 1014) C0 dL_law_550 (by decide) (kk D2 B2 st2 h2 hb)
theorem law_15 (C0 : lw_At p s m meth c b L xs) (E0 : g_E G cs s) (hL : L ≤ 2048) (hi : i + 4 ≤ L) (h : LS2 D B (T, T', Hh, sq, tx)) (hB : B < 2 ^ 31) (kk : ∀ D2 B2 st2, LS2 D2 B2 st2 → B2 ≤ B + 101 → g_W p l e s m below meth c b G 1014 (g_lv ad b i) [] (am_W (G, cs, ad) lyA D2) 600000 7302250) : g_W p l e s m below meth c b G 555 (g_lv ad b i) [] (am_W (G, cs, ad) lyA D) 600000 7302250 := by
  obtain ⟨x, D1, D2, B2, st2, m1, m2, h2, hb⟩ := j_clearText lyA_X10 lyA_X11 h 
  refine g_aload (i := 2) C0 dL_law_555 rfl ?_
  refine g_call (bk := 0) (ad := ad) (av := []) (st := []) C0 E0 dL_law_556 cw_X10_clearText (am_mem 541 (by decide +kernel) rfl) (am_mem 542 (by decide +kernel) rfl) (am_mem 543 (by decide +kernel) rfl) rfl rfl rfl m1 (Nat.le_of_ble_eq_true rfl) ?_
  refine g_aload (i := 1) C0 dL_law_559 rfl ?_
  refine g_call (bk := 51) (ad := ad) (av := []) (st := [.int x]) C0 E0 dL_law_560 cw_X11_clearText (am_mem 995 (by decide +kernel) rfl) (am_mem 996 (by decide +kernel) rfl) (am_mem 997 (by decide +kernel) rfl) rfl rfl rfl m2 (Nat.le_of_ble_eq_true rfl) ?_
  exact g_eq (tgt := 1014) C0 dL_law_563 (by decide) (kk D2 B2 st2 h2 hb)
theorem law_16 (C0 : lw_At p s m meth c b L xs) (E0 : g_E G cs s) (hL : L ≤ 2048) (hi : i + 4 ≤ L) (h : LS2 D B (T, T', Hh, sq, tx)) (hB : B < 2 ^ 31) (kk : ∀ D2 B2 st2, LS2 D2 B2 st2 → B2 ≤ B + 101 → g_W p l e s m below meth c b G 1014 (g_lv ad b i) [] (am_W (G, cs, ad) lyA D2) 600000 7302250) : g_W p l e s m below meth c b G 568 (g_lv ad b i) [] (am_W (G, cs, ad) lyA D) 600000 7302250 := by
  obtain ⟨x, D1, D2, B2, st2, m1, m2, h2, hb⟩ := j_fault lyA_X10 lyA_X11 h 
  refine g_aload (i := 2) C0 dL_law_568 rfl ?_
  refine g_call (bk := 0) (ad := ad) (av := []) (st := []) C0 E0 dL_law_569 cw_X10_fault (am_mem 549 (by decide +kernel) rfl) (am_mem 550 (by decide +kernel) rfl) (am_mem 551 (by decide +kernel) rfl) rfl rfl rfl m1 (Nat.le_of_ble_eq_true rfl) ?_
  refine g_aload (i := 1) C0 dL_law_572 rfl ?_
  refine g_call (bk := 51) (ad := ad) (av := []) (st := [.int x]) C0 E0 dL_law_573 cw_X11_fault (am_mem 999 (by decide +kernel) rfl) (am_mem 1000 (by decide +kernel) rfl) (am_mem 1001 (by decide +kernel) rfl) rfl rfl rfl m2 (Nat.le_of_ble_eq_true rfl) ?_
  exact g_eq (tgt := 1014) C0 dL_law_576 (by decide) (kk D2 B2 st2 h2 hb)
theorem law_17 (C0 : lw_At p s m meth c b L xs) (E0 : g_E G cs s) (hL : L ≤ 2048) (hi : i + 4 ≤ L) (h : LS2 D B (T, T', Hh, sq, tx)) (hB : B < 2 ^ 31) (kk : ∀ D2 B2 st2, LS2 D2 B2 st2 → B2 ≤ B + 101 → g_W p l e s m below meth c b G 1014 (g_lv ad b i) [] (am_W (G, cs, ad) lyA D2) 600000 7302250) : g_W p l e s m below meth c b G 581 (g_lv ad b i) [] (am_W (G, cs, ad) lyA D) 600000 7302250 := by
  obtain ⟨x, D1, D2, B2, st2, m1, m2, h2, hb⟩ := j_players lyA_X10 lyA_X11 h 
  refine g_aload (i := 2) C0 dL_law_581 rfl ?_
  refine g_call (bk := 0) (ad := ad) (av := []) (st := []) C0 E0 dL_law_582 cw_X10_players (am_mem 553 (by decide +kernel) rfl) (am_mem 554 (by decide +kernel) rfl) (am_mem 555 (by decide +kernel) rfl) rfl rfl rfl m1 (Nat.le_of_ble_eq_true rfl) ?_
  refine g_aload (i := 1) C0 dL_law_585 rfl ?_
  refine g_call (bk := 51) (ad := ad) (av := []) (st := [.int x]) C0 E0 dL_law_586 cw_X11_players (am_mem 1003 (by decide +kernel) rfl) (am_mem 1004 (by decide +kernel) rfl) (am_mem 1005 (by decide +kernel) rfl) rfl rfl rfl m2 (Nat.le_of_ble_eq_true rfl) ?_
  exact g_eq (tgt := 1014) C0 dL_law_589 (by decide) (kk D2 B2 st2 h2 hb)
theorem law_18 (C0 : lw_At p s m meth c b L xs) (E0 : g_E G cs s) (hL : L ≤ 2048) (hi : i + 4 ≤ L) (h : LS2 D B (T, T', Hh, sq, tx)) (hB : B < 2 ^ 31) (kk : ∀ D2 B2 st2, LS2 D2 B2 st2 → B2 ≤ B + 101 → g_W p l e s m below meth c b G 1014 (g_lv ad b i) [] (am_W (G, cs, ad) lyA D2) 600000 7302250) : g_W p l e s m below meth c b G 594 (g_lv ad b i) [] (am_W (G, cs, ad) lyA D) 600000 7302250 := by
  obtain ⟨x, D1, D2, B2, st2, m1, m2, h2, hb⟩ := j_beats lyA_X10 lyA_X11 h (xs (nI (i + 1)).toNatClampNeg) (xs (nI (i + 2)).toNatClampNeg)
  refine g_aload (i := 2) C0 dL_law_594 rfl ?_
  refine g_aload (i := 3) C0 dL_law_595 rfl ?_
  refine g_iload (i := 0) C0 dL_law_596 rfl ?_
  refine g_iconst (v := nI 1) C0 dL_law_597 (by decide) ?_
  refine g_iadd (v := nI (i + 1)) C0 dL_law_598 (nI_add _ _) ?_
  refine g_ald (v := (xs (nI (i + 1)).toNatClampNeg)) C0 dL_law_599 (vp_in_nI (by omega) (by omega)) rfl ?_
  refine g_aload (i := 3) C0 dL_law_600 rfl ?_
  refine g_iload (i := 0) C0 dL_law_601 rfl ?_
  refine g_iconst (v := nI 2) C0 dL_law_602 (by decide) ?_
  refine g_iadd (v := nI (i + 2)) C0 dL_law_603 (nI_add _ _) ?_
  refine g_ald (v := (xs (nI (i + 2)).toNatClampNeg)) C0 dL_law_604 (vp_in_nI (by omega) (by omega)) rfl ?_
  refine g_call (bk := 0) (ad := ad) (av := [.int (xs (nI (i + 1)).toNatClampNeg), .int (xs (nI (i + 2)).toNatClampNeg)]) (st := []) C0 E0 dL_law_605 cw_X10_beats (am_mem 557 (by decide +kernel) rfl) (am_mem 558 (by decide +kernel) rfl) (am_mem 559 (by decide +kernel) rfl) rfl rfl rfl m1 (Nat.le_of_ble_eq_true rfl) ?_
  refine g_aload (i := 1) C0 dL_law_608 rfl ?_
  refine g_aload (i := 3) C0 dL_law_609 rfl ?_
  refine g_iload (i := 0) C0 dL_law_610 rfl ?_
  refine g_iconst (v := nI 1) C0 dL_law_611 (by decide) ?_
  refine g_iadd (v := nI (i + 1)) C0 dL_law_612 (nI_add _ _) ?_
  refine g_ald (v := (xs (nI (i + 1)).toNatClampNeg)) C0 dL_law_613 (vp_in_nI (by omega) (by omega)) rfl ?_
  refine g_aload (i := 3) C0 dL_law_614 rfl ?_
  refine g_iload (i := 0) C0 dL_law_615 rfl ?_
  refine g_iconst (v := nI 2) C0 dL_law_616 (by decide) ?_
  refine g_iadd (v := nI (i + 2)) C0 dL_law_617 (nI_add _ _) ?_
  refine g_ald (v := (xs (nI (i + 2)).toNatClampNeg)) C0 dL_law_618 (vp_in_nI (by omega) (by omega)) rfl ?_
  refine g_call (bk := 51) (ad := ad) (av := [.int (xs (nI (i + 1)).toNatClampNeg), .int (xs (nI (i + 2)).toNatClampNeg)]) (st := [.int x]) C0 E0 dL_law_619 cw_X11_beats (am_mem 1007 (by decide +kernel) rfl) (am_mem 1008 (by decide +kernel) rfl) (am_mem 1009 (by decide +kernel) rfl) rfl rfl rfl m2 (Nat.le_of_ble_eq_true rfl) ?_
  exact g_eq (tgt := 1014) C0 dL_law_622 (by decide) (kk D2 B2 st2 h2 hb)
theorem law_19 (C0 : lw_At p s m meth c b L xs) (E0 : g_E G cs s) (hL : L ≤ 2048) (hi : i + 4 ≤ L) (h : LS2 D B (T, T', Hh, sq, tx)) (hB : B < 2 ^ 31) (kk : ∀ D2 B2 st2, LS2 D2 B2 st2 → B2 ≤ B + 101 → g_W p l e s m below meth c b G 1014 (g_lv ad b i) [] (am_W (G, cs, ad) lyA D2) 600000 7302250) : g_W p l e s m below meth c b G 627 (g_lv ad b i) [] (am_W (G, cs, ad) lyA D) 600000 7302250 := by
  obtain ⟨x, D1, D2, B2, st2, m1, m2, h2, hb⟩ := j_weight lyA_X10 lyA_X11 h (xs (nI (i + 1)).toNatClampNeg) (xs (nI (i + 2)).toNatClampNeg)
  refine g_aload (i := 2) C0 dL_law_627 rfl ?_
  refine g_aload (i := 3) C0 dL_law_628 rfl ?_
  refine g_iload (i := 0) C0 dL_law_629 rfl ?_
  refine g_iconst (v := nI 1) C0 dL_law_630 (by decide) ?_
  refine g_iadd (v := nI (i + 1)) C0 dL_law_631 (nI_add _ _) ?_
  refine g_ald (v := (xs (nI (i + 1)).toNatClampNeg)) C0 dL_law_632 (vp_in_nI (by omega) (by omega)) rfl ?_
  refine g_aload (i := 3) C0 dL_law_633 rfl ?_
  refine g_iload (i := 0) C0 dL_law_634 rfl ?_
  refine g_iconst (v := nI 2) C0 dL_law_635 (by decide) ?_
  refine g_iadd (v := nI (i + 2)) C0 dL_law_636 (nI_add _ _) ?_
  refine g_ald (v := (xs (nI (i + 2)).toNatClampNeg)) C0 dL_law_637 (vp_in_nI (by omega) (by omega)) rfl ?_
  refine g_call (bk := 0) (ad := ad) (av := [.int (xs (nI (i + 1)).toNatClampNeg), .int (xs (nI (i + 2)).toNatClampNeg)]) (st := []) C0 E0 dL_law_638 cw_X10_weight (am_mem 561 (by decide +kernel) rfl) (am_mem 562 (by decide +kernel) rfl) (am_mem 563 (by decide +kernel) rfl) rfl rfl rfl m1 (Nat.le_of_ble_eq_true rfl) ?_
  refine g_aload (i := 1) C0 dL_law_641 rfl ?_
  refine g_aload (i := 3) C0 dL_law_642 rfl ?_
  refine g_iload (i := 0) C0 dL_law_643 rfl ?_
  refine g_iconst (v := nI 1) C0 dL_law_644 (by decide) ?_
  refine g_iadd (v := nI (i + 1)) C0 dL_law_645 (nI_add _ _) ?_
  refine g_ald (v := (xs (nI (i + 1)).toNatClampNeg)) C0 dL_law_646 (vp_in_nI (by omega) (by omega)) rfl ?_
  refine g_aload (i := 3) C0 dL_law_647 rfl ?_
  refine g_iload (i := 0) C0 dL_law_648 rfl ?_
  refine g_iconst (v := nI 2) C0 dL_law_649 (by decide) ?_
  refine g_iadd (v := nI (i + 2)) C0 dL_law_650 (nI_add _ _) ?_
  refine g_ald (v := (xs (nI (i + 2)).toNatClampNeg)) C0 dL_law_651 (vp_in_nI (by omega) (by omega)) rfl ?_
  refine g_call (bk := 51) (ad := ad) (av := [.int (xs (nI (i + 1)).toNatClampNeg), .int (xs (nI (i + 2)).toNatClampNeg)]) (st := [.int x]) C0 E0 dL_law_652 cw_X11_weight (am_mem 1011 (by decide +kernel) rfl) (am_mem 1012 (by decide +kernel) rfl) (am_mem 1013 (by decide +kernel) rfl) rfl rfl rfl m2 (Nat.le_of_ble_eq_true rfl) ?_
  exact g_eq (tgt := 1014) C0 dL_law_655 (by decide) (kk D2 B2 st2 h2 hb)
theorem law_20 (C0 : lw_At p s m meth c b L xs) (E0 : g_E G cs s) (hL : L ≤ 2048) (hi : i + 4 ≤ L) (h : LS2 D B (T, T', Hh, sq, tx)) (hB : B < 2 ^ 31) (kk : ∀ D2 B2 st2, LS2 D2 B2 st2 → B2 ≤ B + 101 → g_W p l e s m below meth c b G 1014 (g_lv ad b i) [] (am_W (G, cs, ad) lyA D2) 600000 7302250) : g_W p l e s m below meth c b G 660 (g_lv ad b i) [] (am_W (G, cs, ad) lyA D) 600000 7302250 := by
  obtain ⟨x, D1, D2, B2, st2, m1, m2, h2, hb⟩ := j_score lyA_X10 lyA_X11 h (xs (nI (i + 1)).toNatClampNeg)
  refine g_aload (i := 2) C0 dL_law_660 rfl ?_
  refine g_aload (i := 3) C0 dL_law_661 rfl ?_
  refine g_iload (i := 0) C0 dL_law_662 rfl ?_
  refine g_iconst (v := nI 1) C0 dL_law_663 (by decide) ?_
  refine g_iadd (v := nI (i + 1)) C0 dL_law_664 (nI_add _ _) ?_
  refine g_ald (v := (xs (nI (i + 1)).toNatClampNeg)) C0 dL_law_665 (vp_in_nI (by omega) (by omega)) rfl ?_
  refine g_call (bk := 0) (ad := ad) (av := [.int (xs (nI (i + 1)).toNatClampNeg)]) (st := []) C0 E0 dL_law_666 cw_X10_score (am_mem 565 (by decide +kernel) rfl) (am_mem 566 (by decide +kernel) rfl) (am_mem 567 (by decide +kernel) rfl) rfl rfl rfl m1 (Nat.le_of_ble_eq_true rfl) ?_
  refine g_aload (i := 1) C0 dL_law_669 rfl ?_
  refine g_aload (i := 3) C0 dL_law_670 rfl ?_
  refine g_iload (i := 0) C0 dL_law_671 rfl ?_
  refine g_iconst (v := nI 1) C0 dL_law_672 (by decide) ?_
  refine g_iadd (v := nI (i + 1)) C0 dL_law_673 (nI_add _ _) ?_
  refine g_ald (v := (xs (nI (i + 1)).toNatClampNeg)) C0 dL_law_674 (vp_in_nI (by omega) (by omega)) rfl ?_
  refine g_call (bk := 51) (ad := ad) (av := [.int (xs (nI (i + 1)).toNatClampNeg)]) (st := [.int x]) C0 E0 dL_law_675 cw_X11_score (am_mem 1015 (by decide +kernel) rfl) (am_mem 1016 (by decide +kernel) rfl) (am_mem 1017 (by decide +kernel) rfl) rfl rfl rfl m2 (Nat.le_of_ble_eq_true rfl) ?_
  exact g_eq (tgt := 1014) C0 dL_law_678 (by decide) (kk D2 B2 st2 h2 hb)
theorem law_21 (C0 : lw_At p s m meth c b L xs) (E0 : g_E G cs s) (hL : L ≤ 2048) (hi : i + 4 ≤ L) (h : LS2 D B (T, T', Hh, sq, tx)) (hB : B < 2 ^ 31) (kk : ∀ D2 B2 st2, LS2 D2 B2 st2 → B2 ≤ B + 101 → g_W p l e s m below meth c b G 1014 (g_lv ad b i) [] (am_W (G, cs, ad) lyA D2) 600000 7302250) : g_W p l e s m below meth c b G 683 (g_lv ad b i) [] (am_W (G, cs, ad) lyA D) 600000 7302250 := by
  obtain ⟨x, D1, D2, B2, st2, m1, m2, h2, hb⟩ := j_scoreAt lyA_X10 lyA_X11 h (xs (nI (i + 1)).toNatClampNeg)
  refine g_aload (i := 2) C0 dL_law_683 rfl ?_
  refine g_aload (i := 3) C0 dL_law_684 rfl ?_
  refine g_iload (i := 0) C0 dL_law_685 rfl ?_
  refine g_iconst (v := nI 1) C0 dL_law_686 (by decide) ?_
  refine g_iadd (v := nI (i + 1)) C0 dL_law_687 (nI_add _ _) ?_
  refine g_ald (v := (xs (nI (i + 1)).toNatClampNeg)) C0 dL_law_688 (vp_in_nI (by omega) (by omega)) rfl ?_
  refine g_call (bk := 0) (ad := ad) (av := [.int (xs (nI (i + 1)).toNatClampNeg)]) (st := []) C0 E0 dL_law_689 cw_X10_scoreAt (am_mem 569 (by decide +kernel) rfl) (am_mem 570 (by decide +kernel) rfl) (am_mem 571 (by decide +kernel) rfl) rfl rfl rfl m1 (Nat.le_of_ble_eq_true rfl) ?_
  refine g_aload (i := 1) C0 dL_law_692 rfl ?_
  refine g_aload (i := 3) C0 dL_law_693 rfl ?_
  refine g_iload (i := 0) C0 dL_law_694 rfl ?_
  refine g_iconst (v := nI 1) C0 dL_law_695 (by decide) ?_
  refine g_iadd (v := nI (i + 1)) C0 dL_law_696 (nI_add _ _) ?_
  refine g_ald (v := (xs (nI (i + 1)).toNatClampNeg)) C0 dL_law_697 (vp_in_nI (by omega) (by omega)) rfl ?_
  refine g_call (bk := 51) (ad := ad) (av := [.int (xs (nI (i + 1)).toNatClampNeg)]) (st := [.int x]) C0 E0 dL_law_698 cw_X11_scoreAt (am_mem 1019 (by decide +kernel) rfl) (am_mem 1020 (by decide +kernel) rfl) (am_mem 1021 (by decide +kernel) rfl) rfl rfl rfl m2 (Nat.le_of_ble_eq_true rfl) ?_
  exact g_eq (tgt := 1014) C0 dL_law_701 (by decide) (kk D2 B2 st2 h2 hb)
theorem law_22 (C0 : lw_At p s m meth c b L xs) (E0 : g_E G cs s) (hL : L ≤ 2048) (hi : i + 4 ≤ L) (h : LS2 D B (T, T', Hh, sq, tx)) (hB : B < 2 ^ 31) (kk : ∀ D2 B2 st2, LS2 D2 B2 st2 → B2 ≤ B + 101 → g_W p l e s m below meth c b G 1014 (g_lv ad b i) [] (am_W (G, cs, ad) lyA D2) 600000 7302250) : g_W p l e s m below meth c b G 706 (g_lv ad b i) [] (am_W (G, cs, ad) lyA D) 600000 7302250 := by
  obtain ⟨x, D1, D2, B2, st2, m1, m2, h2, hb⟩ := j_triangles lyA_X10 lyA_X11 h 
  refine g_aload (i := 2) C0 dL_law_706 rfl ?_
  refine g_call (bk := 0) (ad := ad) (av := []) (st := []) C0 E0 dL_law_707 cw_X10_triangles (am_mem 577 (by decide +kernel) rfl) (am_mem 578 (by decide +kernel) rfl) (am_mem 579 (by decide +kernel) rfl) rfl rfl rfl m1 (Nat.le_of_ble_eq_true rfl) ?_
  refine g_aload (i := 1) C0 dL_law_710 rfl ?_
  refine g_call (bk := 51) (ad := ad) (av := []) (st := [.int x]) C0 E0 dL_law_711 cw_X11_triangles (am_mem 1023 (by decide +kernel) rfl) (am_mem 922 (by decide +kernel) rfl) (am_mem 923 (by decide +kernel) rfl) rfl rfl rfl m2 (Nat.le_of_ble_eq_true rfl) ?_
  exact g_eq (tgt := 1014) C0 dL_law_714 (by decide) (kk D2 B2 st2 h2 hb)
theorem law_23 (C0 : lw_At p s m meth c b L xs) (E0 : g_E G cs s) (hL : L ≤ 2048) (hi : i + 4 ≤ L) (h : LS2 D B (T, T', Hh, sq, tx)) (hB : B < 2 ^ 31) (kk : ∀ D2 B2 st2, LS2 D2 B2 st2 → B2 ≤ B + 101 → g_W p l e s m below meth c b G 1014 (g_lv ad b i) [] (am_W (G, cs, ad) lyA D2) 600000 7302250) : g_W p l e s m below meth c b G 719 (g_lv ad b i) [] (am_W (G, cs, ad) lyA D) 600000 7302250 := by
  obtain ⟨x, D1, D2, B2, st2, m1, m2, h2, hb⟩ := j_distance lyA_X10 lyA_X11 h (xs (nI (i + 1)).toNatClampNeg) (xs (nI (i + 2)).toNatClampNeg)
  refine g_aload (i := 2) C0 dL_law_719 rfl ?_
  refine g_aload (i := 3) C0 dL_law_720 rfl ?_
  refine g_iload (i := 0) C0 dL_law_721 rfl ?_
  refine g_iconst (v := nI 1) C0 dL_law_722 (by decide) ?_
  refine g_iadd (v := nI (i + 1)) C0 dL_law_723 (nI_add _ _) ?_
  refine g_ald (v := (xs (nI (i + 1)).toNatClampNeg)) C0 dL_law_724 (vp_in_nI (by omega) (by omega)) rfl ?_
  refine g_aload (i := 3) C0 dL_law_725 rfl ?_
  refine g_iload (i := 0) C0 dL_law_726 rfl ?_
  refine g_iconst (v := nI 2) C0 dL_law_727 (by decide) ?_
  refine g_iadd (v := nI (i + 2)) C0 dL_law_728 (nI_add _ _) ?_
  refine g_ald (v := (xs (nI (i + 2)).toNatClampNeg)) C0 dL_law_729 (vp_in_nI (by omega) (by omega)) rfl ?_
  refine g_call (bk := 0) (ad := ad) (av := [.int (xs (nI (i + 1)).toNatClampNeg), .int (xs (nI (i + 2)).toNatClampNeg)]) (st := []) C0 E0 dL_law_730 cw_X10_distance (am_mem 581 (by decide +kernel) rfl) (am_mem 582 (by decide +kernel) rfl) (am_mem 583 (by decide +kernel) rfl) rfl rfl rfl m1 (Nat.le_of_ble_eq_true rfl) ?_
  refine g_aload (i := 1) C0 dL_law_733 rfl ?_
  refine g_aload (i := 3) C0 dL_law_734 rfl ?_
  refine g_iload (i := 0) C0 dL_law_735 rfl ?_
  refine g_iconst (v := nI 1) C0 dL_law_736 (by decide) ?_
  refine g_iadd (v := nI (i + 1)) C0 dL_law_737 (nI_add _ _) ?_
  refine g_ald (v := (xs (nI (i + 1)).toNatClampNeg)) C0 dL_law_738 (vp_in_nI (by omega) (by omega)) rfl ?_
  refine g_aload (i := 3) C0 dL_law_739 rfl ?_
  refine g_iload (i := 0) C0 dL_law_740 rfl ?_
  refine g_iconst (v := nI 2) C0 dL_law_741 (by decide) ?_
  refine g_iadd (v := nI (i + 2)) C0 dL_law_742 (nI_add _ _) ?_
  refine g_ald (v := (xs (nI (i + 2)).toNatClampNeg)) C0 dL_law_743 (vp_in_nI (by omega) (by omega)) rfl ?_
  refine g_call (bk := 51) (ad := ad) (av := [.int (xs (nI (i + 1)).toNatClampNeg), .int (xs (nI (i + 2)).toNatClampNeg)]) (st := [.int x]) C0 E0 dL_law_744 cw_X11_distance (am_mem 1024 (by decide +kernel) rfl) (am_mem 1025 (by decide +kernel) rfl) (am_mem 1026 (by decide +kernel) rfl) rfl rfl rfl m2 (Nat.le_of_ble_eq_true rfl) ?_
  exact g_eq (tgt := 1014) C0 dL_law_747 (by decide) (kk D2 B2 st2 h2 hb)
theorem law_24 (C0 : lw_At p s m meth c b L xs) (E0 : g_E G cs s) (hL : L ≤ 2048) (hi : i + 4 ≤ L) (h : LS2 D B (T, T', Hh, sq, tx)) (hB : B < 2 ^ 31) (kk : ∀ D2 B2 st2, LS2 D2 B2 st2 → B2 ≤ B + 101 → g_W p l e s m below meth c b G 1014 (g_lv ad b i) [] (am_W (G, cs, ad) lyA D2) 600000 7302250) : g_W p l e s m below meth c b G 752 (g_lv ad b i) [] (am_W (G, cs, ad) lyA D) 600000 7302250 := by
  obtain ⟨x, D1, D2, B2, st2, m1, m2, h2, hb⟩ := j_components lyA_X10 lyA_X11 h 
  refine g_aload (i := 2) C0 dL_law_752 rfl ?_
  refine g_call (bk := 0) (ad := ad) (av := []) (st := []) C0 E0 dL_law_753 cw_X10_components (am_mem 585 (by decide +kernel) rfl) (am_mem 586 (by decide +kernel) rfl) (am_mem 587 (by decide +kernel) rfl) rfl rfl rfl m1 (Nat.le_of_ble_eq_true rfl) ?_
  refine g_aload (i := 1) C0 dL_law_756 rfl ?_
  refine g_call (bk := 51) (ad := ad) (av := []) (st := [.int x]) C0 E0 dL_law_757 cw_X11_components (am_mem 1028 (by decide +kernel) rfl) (am_mem 1029 (by decide +kernel) rfl) (am_mem 1030 (by decide +kernel) rfl) rfl rfl rfl m2 (Nat.le_of_ble_eq_true rfl) ?_
  exact g_eq (tgt := 1014) C0 dL_law_760 (by decide) (kk D2 B2 st2 h2 hb)
theorem law_25 (C0 : lw_At p s m meth c b L xs) (E0 : g_E G cs s) (hL : L ≤ 2048) (hi : i + 4 ≤ L) (h : LS2 D B (T, T', Hh, sq, tx)) (hB : B < 2 ^ 31) (kk : ∀ D2 B2 st2, LS2 D2 B2 st2 → B2 ≤ B + 101 → g_W p l e s m below meth c b G 1014 (g_lv ad b i) [] (am_W (G, cs, ad) lyA D2) 600000 7302250) : g_W p l e s m below meth c b G 765 (g_lv ad b i) [] (am_W (G, cs, ad) lyA D) 600000 7302250 := by
  obtain ⟨x, D1, D2, B2, st2, m1, m2, h2, hb⟩ := j_componentOf lyA_X10 lyA_X11 h (xs (nI (i + 1)).toNatClampNeg)
  refine g_aload (i := 2) C0 dL_law_765 rfl ?_
  refine g_aload (i := 3) C0 dL_law_766 rfl ?_
  refine g_iload (i := 0) C0 dL_law_767 rfl ?_
  refine g_iconst (v := nI 1) C0 dL_law_768 (by decide) ?_
  refine g_iadd (v := nI (i + 1)) C0 dL_law_769 (nI_add _ _) ?_
  refine g_ald (v := (xs (nI (i + 1)).toNatClampNeg)) C0 dL_law_770 (vp_in_nI (by omega) (by omega)) rfl ?_
  refine g_call (bk := 0) (ad := ad) (av := [.int (xs (nI (i + 1)).toNatClampNeg)]) (st := []) C0 E0 dL_law_771 cw_X10_componentOf (am_mem 604 (by decide +kernel) rfl) (am_mem 605 (by decide +kernel) rfl) (am_mem 606 (by decide +kernel) rfl) rfl rfl rfl m1 (Nat.le_of_ble_eq_true rfl) ?_
  refine g_aload (i := 1) C0 dL_law_774 rfl ?_
  refine g_aload (i := 3) C0 dL_law_775 rfl ?_
  refine g_iload (i := 0) C0 dL_law_776 rfl ?_
  refine g_iconst (v := nI 1) C0 dL_law_777 (by decide) ?_
  refine g_iadd (v := nI (i + 1)) C0 dL_law_778 (nI_add _ _) ?_
  refine g_ald (v := (xs (nI (i + 1)).toNatClampNeg)) C0 dL_law_779 (vp_in_nI (by omega) (by omega)) rfl ?_
  refine g_call (bk := 51) (ad := ad) (av := [.int (xs (nI (i + 1)).toNatClampNeg)]) (st := [.int x]) C0 E0 dL_law_780 cw_X11_componentOf (am_mem 1040 (by decide +kernel) rfl) (am_mem 1041 (by decide +kernel) rfl) (am_mem 1042 (by decide +kernel) rfl) rfl rfl rfl m2 (Nat.le_of_ble_eq_true rfl) ?_
  exact g_eq (tgt := 1014) C0 dL_law_783 (by decide) (kk D2 B2 st2 h2 hb)
theorem law_26 (C0 : lw_At p s m meth c b L xs) (E0 : g_E G cs s) (hL : L ≤ 2048) (hi : i + 4 ≤ L) (h : LS2 D B (T, T', Hh, sq, tx)) (hB : B < 2 ^ 31) (kk : ∀ D2 B2 st2, LS2 D2 B2 st2 → B2 ≤ B + 101 → g_W p l e s m below meth c b G 1014 (g_lv ad b i) [] (am_W (G, cs, ad) lyA D2) 600000 7302250) : g_W p l e s m below meth c b G 788 (g_lv ad b i) [] (am_W (G, cs, ad) lyA D) 600000 7302250 := by
  obtain ⟨x, D1, D2, B2, st2, m1, m2, h2, hb⟩ := j_spanningPaths lyA_X10 lyA_X11 h 
  refine g_aload (i := 2) C0 dL_law_788 rfl ?_
  refine g_call (bk := 0) (ad := ad) (av := []) (st := []) C0 E0 dL_law_789 cw_X10_spanningPaths (am_mem 611 (by decide +kernel) rfl) (am_mem 612 (by decide +kernel) rfl) (am_mem 613 (by decide +kernel) rfl) rfl rfl rfl m1 (Nat.le_of_ble_eq_true rfl) ?_
  refine g_aload (i := 1) C0 dL_law_792 rfl ?_
  refine g_call (bk := 51) (ad := ad) (av := []) (st := [.int x]) C0 E0 dL_law_793 cw_X11_spanningPaths (am_mem 1048 (by decide +kernel) rfl) (am_mem 1049 (by decide +kernel) rfl) (am_mem 1050 (by decide +kernel) rfl) rfl rfl rfl m2 (Nat.le_of_ble_eq_true rfl) ?_
  exact g_eq (tgt := 1014) C0 dL_law_796 (by decide) (kk D2 B2 st2 h2 hb)
theorem law_27 (C0 : lw_At p s m meth c b L xs) (E0 : g_E G cs s) (hL : L ≤ 2048) (hi : i + 4 ≤ L) (h : LS2 D B (T, T', Hh, sq, tx)) (hB : B < 2 ^ 31) (kk : ∀ D2 B2 st2, LS2 D2 B2 st2 → B2 ≤ B + 101 → g_W p l e s m below meth c b G 1014 (g_lv ad b i) [] (am_W (G, cs, ad) lyA D2) 600000 7302250) : g_W p l e s m below meth c b G 801 (g_lv ad b i) [] (am_W (G, cs, ad) lyA D) 600000 7302250 := by
  obtain ⟨x, D1, D2, B2, st2, m1, m2, h2, hb⟩ := j_pathAt lyA_X10 lyA_X11 h (xs (nI (i + 1)).toNatClampNeg)
  refine g_aload (i := 2) C0 dL_law_801 rfl ?_
  refine g_aload (i := 3) C0 dL_law_802 rfl ?_
  refine g_iload (i := 0) C0 dL_law_803 rfl ?_
  refine g_iconst (v := nI 1) C0 dL_law_804 (by decide) ?_
  refine g_iadd (v := nI (i + 1)) C0 dL_law_805 (nI_add _ _) ?_
  refine g_ald (v := (xs (nI (i + 1)).toNatClampNeg)) C0 dL_law_806 (vp_in_nI (by omega) (by omega)) rfl ?_
  refine g_call (bk := 0) (ad := ad) (av := [.int (xs (nI (i + 1)).toNatClampNeg)]) (st := []) C0 E0 dL_law_807 cw_X10_pathAt (am_mem 634 (by decide +kernel) rfl) (am_mem 635 (by decide +kernel) rfl) (am_mem 636 (by decide +kernel) rfl) rfl rfl rfl m1 (Nat.le_of_ble_eq_true rfl) ?_
  refine g_aload (i := 1) C0 dL_law_810 rfl ?_
  refine g_aload (i := 3) C0 dL_law_811 rfl ?_
  refine g_iload (i := 0) C0 dL_law_812 rfl ?_
  refine g_iconst (v := nI 1) C0 dL_law_813 (by decide) ?_
  refine g_iadd (v := nI (i + 1)) C0 dL_law_814 (nI_add _ _) ?_
  refine g_ald (v := (xs (nI (i + 1)).toNatClampNeg)) C0 dL_law_815 (vp_in_nI (by omega) (by omega)) rfl ?_
  refine g_call (bk := 51) (ad := ad) (av := [.int (xs (nI (i + 1)).toNatClampNeg)]) (st := [.int x]) C0 E0 dL_law_816 cw_X11_pathAt (am_mem 1056 (by decide +kernel) rfl) (am_mem 1057 (by decide +kernel) rfl) (am_mem 1058 (by decide +kernel) rfl) rfl rfl rfl m2 (Nat.le_of_ble_eq_true rfl) ?_
  exact g_eq (tgt := 1014) C0 dL_law_819 (by decide) (kk D2 B2 st2 h2 hb)
theorem law_28 (C0 : lw_At p s m meth c b L xs) (E0 : g_E G cs s) (hL : L ≤ 2048) (hi : i + 4 ≤ L) (h : LS2 D B (T, T', Hh, sq, tx)) (hB : B < 2 ^ 31) (kk : ∀ D2 B2 st2, LS2 D2 B2 st2 → B2 ≤ B + 101 → g_W p l e s m below meth c b G 1014 (g_lv ad b i) [] (am_W (G, cs, ad) lyA D2) 600000 7302250) : g_W p l e s m below meth c b G 824 (g_lv ad b i) [] (am_W (G, cs, ad) lyA D) 600000 7302250 := by
  obtain ⟨x, D1, D2, B2, st2, m1, m2, h2, hb⟩ := j_cycleAt lyA_X10 lyA_X11 h (xs (nI (i + 1)).toNatClampNeg) (xs (nI (i + 2)).toNatClampNeg) (xs (nI (i + 3)).toNatClampNeg)
  refine g_aload (i := 2) C0 dL_law_824 rfl ?_
  refine g_aload (i := 3) C0 dL_law_825 rfl ?_
  refine g_iload (i := 0) C0 dL_law_826 rfl ?_
  refine g_iconst (v := nI 1) C0 dL_law_827 (by decide) ?_
  refine g_iadd (v := nI (i + 1)) C0 dL_law_828 (nI_add _ _) ?_
  refine g_ald (v := (xs (nI (i + 1)).toNatClampNeg)) C0 dL_law_829 (vp_in_nI (by omega) (by omega)) rfl ?_
  refine g_aload (i := 3) C0 dL_law_830 rfl ?_
  refine g_iload (i := 0) C0 dL_law_831 rfl ?_
  refine g_iconst (v := nI 2) C0 dL_law_832 (by decide) ?_
  refine g_iadd (v := nI (i + 2)) C0 dL_law_833 (nI_add _ _) ?_
  refine g_ald (v := (xs (nI (i + 2)).toNatClampNeg)) C0 dL_law_834 (vp_in_nI (by omega) (by omega)) rfl ?_
  refine g_aload (i := 3) C0 dL_law_835 rfl ?_
  refine g_iload (i := 0) C0 dL_law_836 rfl ?_
  refine g_iconst (v := nI 3) C0 dL_law_837 (by decide) ?_
  refine g_iadd (v := nI (i + 3)) C0 dL_law_838 (nI_add _ _) ?_
  refine g_ald (v := (xs (nI (i + 3)).toNatClampNeg)) C0 dL_law_839 (vp_in_nI (by omega) (by omega)) rfl ?_
  refine g_call (bk := 0) (ad := ad) (av := [.int (xs (nI (i + 1)).toNatClampNeg), .int (xs (nI (i + 2)).toNatClampNeg), .int (xs (nI (i + 3)).toNatClampNeg)]) (st := []) C0 E0 dL_law_840 cw_X10_cycleAt (am_mem 643 (by decide +kernel) rfl) (am_mem 644 (by decide +kernel) rfl) (am_mem 645 (by decide +kernel) rfl) rfl rfl rfl m1 (Nat.le_of_ble_eq_true rfl) ?_
  refine g_aload (i := 1) C0 dL_law_843 rfl ?_
  refine g_aload (i := 3) C0 dL_law_844 rfl ?_
  refine g_iload (i := 0) C0 dL_law_845 rfl ?_
  refine g_iconst (v := nI 1) C0 dL_law_846 (by decide) ?_
  refine g_iadd (v := nI (i + 1)) C0 dL_law_847 (nI_add _ _) ?_
  refine g_ald (v := (xs (nI (i + 1)).toNatClampNeg)) C0 dL_law_848 (vp_in_nI (by omega) (by omega)) rfl ?_
  refine g_aload (i := 3) C0 dL_law_849 rfl ?_
  refine g_iload (i := 0) C0 dL_law_850 rfl ?_
  refine g_iconst (v := nI 2) C0 dL_law_851 (by decide) ?_
  refine g_iadd (v := nI (i + 2)) C0 dL_law_852 (nI_add _ _) ?_
  refine g_ald (v := (xs (nI (i + 2)).toNatClampNeg)) C0 dL_law_853 (vp_in_nI (by omega) (by omega)) rfl ?_
  refine g_aload (i := 3) C0 dL_law_854 rfl ?_
  refine g_iload (i := 0) C0 dL_law_855 rfl ?_
  refine g_iconst (v := nI 3) C0 dL_law_856 (by decide) ?_
  refine g_iadd (v := nI (i + 3)) C0 dL_law_857 (nI_add _ _) ?_
  refine g_ald (v := (xs (nI (i + 3)).toNatClampNeg)) C0 dL_law_858 (vp_in_nI (by omega) (by omega)) rfl ?_
  refine g_call (bk := 51) (ad := ad) (av := [.int (xs (nI (i + 1)).toNatClampNeg), .int (xs (nI (i + 2)).toNatClampNeg), .int (xs (nI (i + 3)).toNatClampNeg)]) (st := [.int x]) C0 E0 dL_law_859 cw_X11_cycleAt (am_mem 1060 (by decide +kernel) rfl) (am_mem 1061 (by decide +kernel) rfl) (am_mem 1062 (by decide +kernel) rfl) rfl rfl rfl m2 (Nat.le_of_ble_eq_true rfl) ?_
  exact g_eq (tgt := 1014) C0 dL_law_862 (by decide) (kk D2 B2 st2 h2 hb)
theorem law_29 (C0 : lw_At p s m meth c b L xs) (E0 : g_E G cs s) (hL : L ≤ 2048) (hi : i + 4 ≤ L) (h : LS2 D B (T, T', Hh, sq, tx)) (hB : B < 2 ^ 31) (kk : ∀ D2 B2 st2, LS2 D2 B2 st2 → B2 ≤ B + 101 → g_W p l e s m below meth c b G 1014 (g_lv ad b i) [] (am_W (G, cs, ad) lyA D2) 600000 7302250) : g_W p l e s m below meth c b G 867 (g_lv ad b i) [] (am_W (G, cs, ad) lyA D) 600000 7302250 := by
  obtain ⟨x, D1, D2, B2, st2, m1, m2, h2, hb⟩ := j_cycleLengths lyA_X10 lyA_X11 h (xs (nI (i + 1)).toNatClampNeg)
  refine g_aload (i := 2) C0 dL_law_867 rfl ?_
  refine g_aload (i := 3) C0 dL_law_868 rfl ?_
  refine g_iload (i := 0) C0 dL_law_869 rfl ?_
  refine g_iconst (v := nI 1) C0 dL_law_870 (by decide) ?_
  refine g_iadd (v := nI (i + 1)) C0 dL_law_871 (nI_add _ _) ?_
  refine g_ald (v := (xs (nI (i + 1)).toNatClampNeg)) C0 dL_law_872 (vp_in_nI (by omega) (by omega)) rfl ?_
  refine g_call (bk := 0) (ad := ad) (av := [.int (xs (nI (i + 1)).toNatClampNeg)]) (st := []) C0 E0 dL_law_873 cw_X10_cycleLengths (am_mem 667 (by decide +kernel) rfl) (am_mem 668 (by decide +kernel) rfl) (am_mem 669 (by decide +kernel) rfl) rfl rfl rfl m1 (Nat.le_of_ble_eq_true rfl) ?_
  refine g_aload (i := 1) C0 dL_law_876 rfl ?_
  refine g_aload (i := 3) C0 dL_law_877 rfl ?_
  refine g_iload (i := 0) C0 dL_law_878 rfl ?_
  refine g_iconst (v := nI 1) C0 dL_law_879 (by decide) ?_
  refine g_iadd (v := nI (i + 1)) C0 dL_law_880 (nI_add _ _) ?_
  refine g_ald (v := (xs (nI (i + 1)).toNatClampNeg)) C0 dL_law_881 (vp_in_nI (by omega) (by omega)) rfl ?_
  refine g_call (bk := 51) (ad := ad) (av := [.int (xs (nI (i + 1)).toNatClampNeg)]) (st := [.int x]) C0 E0 dL_law_882 cw_X11_cycleLengths (am_mem 1072 (by decide +kernel) rfl) (am_mem 1073 (by decide +kernel) rfl) (am_mem 1074 (by decide +kernel) rfl) rfl rfl rfl m2 (Nat.le_of_ble_eq_true rfl) ?_
  exact g_eq (tgt := 1014) C0 dL_law_885 (by decide) (kk D2 B2 st2 h2 hb)
theorem law_30 (C0 : lw_At p s m meth c b L xs) (E0 : g_E G cs s) (hL : L ≤ 2048) (hi : i + 4 ≤ L) (h : LS2 D B (T, T', Hh, sq, tx)) (hB : B < 2 ^ 31) (kk : ∀ D2 B2 st2, LS2 D2 B2 st2 → B2 ≤ B + 101 → g_W p l e s m below meth c b G 1014 (g_lv ad b i) [] (am_W (G, cs, ad) lyA D2) 600000 7302250) : g_W p l e s m below meth c b G 890 (g_lv ad b i) [] (am_W (G, cs, ad) lyA D) 600000 7302250 := by
  obtain ⟨x, D1, D2, B2, st2, m1, m2, h2, hb⟩ := j_leastCost lyA_X10 lyA_X11 h hB 
  refine g_aload (i := 2) C0 dL_law_890 rfl ?_
  refine g_call (bk := 0) (ad := ad) (av := []) (st := []) C0 E0 dL_law_891 cw_X10_leastCost (am_mem 675 (by decide +kernel) rfl) (am_mem 676 (by decide +kernel) rfl) (am_mem 677 (by decide +kernel) rfl) rfl rfl rfl m1 (Nat.le_of_ble_eq_true rfl) ?_
  refine g_aload (i := 1) C0 dL_law_894 rfl ?_
  refine g_call (bk := 51) (ad := ad) (av := []) (st := [.int x]) C0 E0 dL_law_895 cw_X11_leastCost (am_mem 1076 (by decide +kernel) rfl) (am_mem 1077 (by decide +kernel) rfl) (am_mem 1078 (by decide +kernel) rfl) rfl rfl rfl m2 (Nat.le_of_ble_eq_true rfl) ?_
  exact g_eq (tgt := 1014) C0 dL_law_898 (by decide) (kk D2 B2 st2 h2 hb)
theorem law_31 (C0 : lw_At p s m meth c b L xs) (E0 : g_E G cs s) (hL : L ≤ 2048) (hi : i + 4 ≤ L) (h : LS2 D B (T, T', Hh, sq, tx)) (hB : B < 2 ^ 31) (kk : ∀ D2 B2 st2, LS2 D2 B2 st2 → B2 ≤ B + 101 → g_W p l e s m below meth c b G 1014 (g_lv ad b i) [] (am_W (G, cs, ad) lyA D2) 600000 7302250) : g_W p l e s m below meth c b G 903 (g_lv ad b i) [] (am_W (G, cs, ad) lyA D) 600000 7302250 := by
  obtain ⟨x, D1, D2, B2, st2, m1, m2, h2, hb⟩ := j_orderAt lyA_X10 lyA_X11 h hB (xs (nI (i + 1)).toNatClampNeg)
  refine g_aload (i := 2) C0 dL_law_903 rfl ?_
  refine g_aload (i := 3) C0 dL_law_904 rfl ?_
  refine g_iload (i := 0) C0 dL_law_905 rfl ?_
  refine g_iconst (v := nI 1) C0 dL_law_906 (by decide) ?_
  refine g_iadd (v := nI (i + 1)) C0 dL_law_907 (nI_add _ _) ?_
  refine g_ald (v := (xs (nI (i + 1)).toNatClampNeg)) C0 dL_law_908 (vp_in_nI (by omega) (by omega)) rfl ?_
  refine g_call (bk := 0) (ad := ad) (av := [.int (xs (nI (i + 1)).toNatClampNeg)]) (st := []) C0 E0 dL_law_909 cw_X10_orderAt (am_mem 717 (by decide +kernel) rfl) (am_mem 718 (by decide +kernel) rfl) (am_mem 719 (by decide +kernel) rfl) rfl rfl rfl m1 (Nat.le_of_ble_eq_true rfl) ?_
  refine g_aload (i := 1) C0 dL_law_912 rfl ?_
  refine g_aload (i := 3) C0 dL_law_913 rfl ?_
  refine g_iload (i := 0) C0 dL_law_914 rfl ?_
  refine g_iconst (v := nI 1) C0 dL_law_915 (by decide) ?_
  refine g_iadd (v := nI (i + 1)) C0 dL_law_916 (nI_add _ _) ?_
  refine g_ald (v := (xs (nI (i + 1)).toNatClampNeg)) C0 dL_law_917 (vp_in_nI (by omega) (by omega)) rfl ?_
  refine g_call (bk := 51) (ad := ad) (av := [.int (xs (nI (i + 1)).toNatClampNeg)]) (st := [.int x]) C0 E0 dL_law_918 cw_X11_orderAt (am_mem 1088 (by decide +kernel) rfl) (am_mem 1089 (by decide +kernel) rfl) (am_mem 1090 (by decide +kernel) rfl) rfl rfl rfl m2 (Nat.le_of_ble_eq_true rfl) ?_
  exact g_eq (tgt := 1014) C0 dL_law_921 (by decide) (kk D2 B2 st2 h2 hb)
theorem law_32 (C0 : lw_At p s m meth c b L xs) (E0 : g_E G cs s) (hL : L ≤ 2048) (hi : i + 4 ≤ L) (h : LS2 D B (T, T', Hh, sq, tx)) (hB : B < 2 ^ 31) (kk : ∀ D2 B2 st2, LS2 D2 B2 st2 → B2 ≤ B + 101 → g_W p l e s m below meth c b G 1014 (g_lv ad b i) [] (am_W (G, cs, ad) lyA D2) 600000 7302250) : g_W p l e s m below meth c b G 926 (g_lv ad b i) [] (am_W (G, cs, ad) lyA D) 600000 7302250 := by
  obtain ⟨x, D1, D2, B2, st2, m1, m2, h2, hb⟩ := j_winners lyA_X10 lyA_X11 h hB (xs (nI (i + 1)).toNatClampNeg)
  refine g_aload (i := 2) C0 dL_law_926 rfl ?_
  refine g_aload (i := 3) C0 dL_law_927 rfl ?_
  refine g_iload (i := 0) C0 dL_law_928 rfl ?_
  refine g_iconst (v := nI 1) C0 dL_law_929 (by decide) ?_
  refine g_iadd (v := nI (i + 1)) C0 dL_law_930 (nI_add _ _) ?_
  refine g_ald (v := (xs (nI (i + 1)).toNatClampNeg)) C0 dL_law_931 (vp_in_nI (by omega) (by omega)) rfl ?_
  refine g_call (bk := 0) (ad := ad) (av := [.int (xs (nI (i + 1)).toNatClampNeg)]) (st := []) C0 E0 dL_law_932 cw_X10_winners (am_mem 730 (by decide +kernel) rfl) (am_mem 731 (by decide +kernel) rfl) (am_mem 732 (by decide +kernel) rfl) rfl rfl rfl m1 (Nat.le_of_ble_eq_true rfl) ?_
  refine g_aload (i := 1) C0 dL_law_935 rfl ?_
  refine g_aload (i := 3) C0 dL_law_936 rfl ?_
  refine g_iload (i := 0) C0 dL_law_937 rfl ?_
  refine g_iconst (v := nI 1) C0 dL_law_938 (by decide) ?_
  refine g_iadd (v := nI (i + 1)) C0 dL_law_939 (nI_add _ _) ?_
  refine g_ald (v := (xs (nI (i + 1)).toNatClampNeg)) C0 dL_law_940 (vp_in_nI (by omega) (by omega)) rfl ?_
  refine g_call (bk := 51) (ad := ad) (av := [.int (xs (nI (i + 1)).toNatClampNeg)]) (st := [.int x]) C0 E0 dL_law_941 cw_X11_winners (am_mem 1096 (by decide +kernel) rfl) (am_mem 1097 (by decide +kernel) rfl) (am_mem 1098 (by decide +kernel) rfl) rfl rfl rfl m2 (Nat.le_of_ble_eq_true rfl) ?_
  exact g_eq (tgt := 1014) C0 dL_law_944 (by decide) (kk D2 B2 st2 h2 hb)
theorem law_33 (C0 : lw_At p s m meth c b L xs) (E0 : g_E G cs s) (hL : L ≤ 2048) (hi : i + 4 ≤ L) (h : LS2 D B (T, T', Hh, sq, tx)) (hB : B < 2 ^ 31) (kk : ∀ D2 B2 st2, LS2 D2 B2 st2 → B2 ≤ B + 101 → g_W p l e s m below meth c b G 1014 (g_lv ad b i) [] (am_W (G, cs, ad) lyA D2) 600000 7302250) : g_W p l e s m below meth c b G 949 (g_lv ad b i) [] (am_W (G, cs, ad) lyA D) 600000 7302250 := by
  obtain ⟨x, D1, D2, B2, st2, m1, m2, h2, hb⟩ := j_undisputed lyA_X10 lyA_X11 h hB 
  refine g_aload (i := 2) C0 dL_law_949 rfl ?_
  refine g_call (bk := 0) (ad := ad) (av := []) (st := []) C0 E0 dL_law_950 cw_X10_undisputed (am_mem 763 (by decide +kernel) rfl) (am_mem 764 (by decide +kernel) rfl) (am_mem 765 (by decide +kernel) rfl) rfl rfl rfl m1 (Nat.le_of_ble_eq_true rfl) ?_
  refine g_aload (i := 1) C0 dL_law_953 rfl ?_
  refine g_call (bk := 51) (ad := ad) (av := []) (st := [.int x]) C0 E0 dL_law_954 cw_X11_undisputed (am_mem 1124 (by decide +kernel) rfl) (am_mem 1125 (by decide +kernel) rfl) (am_mem 1126 (by decide +kernel) rfl) rfl rfl rfl m2 (Nat.le_of_ble_eq_true rfl) ?_
  exact g_eq (tgt := 1014) C0 dL_law_957 (by decide) (kk D2 B2 st2 h2 hb)
theorem law_34 (C0 : lw_At p s m meth c b L xs) (E0 : g_E G cs s) (hL : L ≤ 2048) (hi : i + 4 ≤ L) (h : LS2 D B (T, T', Hh, sq, tx)) (hB : B < 2 ^ 31) (kk : ∀ D2 B2 st2, LS2 D2 B2 st2 → B2 ≤ B + 101 → g_W p l e s m below meth c b G 1014 (g_lv ad b i) [] (am_W (G, cs, ad) lyA D2) 600000 7302250) : g_W p l e s m below meth c b G 962 (g_lv ad b i) [] (am_W (G, cs, ad) lyA D) 600000 7302250 := by
  obtain ⟨x, D1, D2, B2, st2, m1, m2, h2, hb⟩ := j_store lyA_X10 lyA_X11 h 
  refine g_aload (i := 2) C0 dL_law_962 rfl ?_
  refine g_call (bk := 0) (ad := ad) (av := []) (st := []) C0 E0 dL_law_963 cw_X10_store (am_mem 767 (by decide +kernel) rfl) (am_mem 768 (by decide +kernel) rfl) (am_mem 769 (by decide +kernel) rfl) rfl rfl rfl m1 (Nat.le_of_ble_eq_true rfl) ?_
  refine g_aload (i := 1) C0 dL_law_966 rfl ?_
  refine g_call (bk := 51) (ad := ad) (av := []) (st := [.int x]) C0 E0 dL_law_967 cw_X11_store (am_mem 1128 (by decide +kernel) rfl) (am_mem 1129 (by decide +kernel) rfl) (am_mem 1130 (by decide +kernel) rfl) rfl rfl rfl m2 (Nat.le_of_ble_eq_true rfl) ?_
  exact g_eq (tgt := 1014) C0 dL_law_970 (by decide) (kk D2 B2 st2 h2 hb)
theorem law_35 (C0 : lw_At p s m meth c b L xs) (E0 : g_E G cs s) (hL : L ≤ 2048) (hi : i + 4 ≤ L) (h : LS2 D B (T, T', Hh, sq, tx)) (hB : B < 2 ^ 31) (kk : ∀ D2 B2 st2, LS2 D2 B2 st2 → B2 ≤ B + 101 → g_W p l e s m below meth c b G 1014 (g_lv ad b i) [] (am_W (G, cs, ad) lyA D2) 600000 7302250) : g_W p l e s m below meth c b G 975 (g_lv ad b i) [] (am_W (G, cs, ad) lyA D) 600000 7302250 := by
  obtain ⟨x, D1, D2, B2, st2, m1, m2, h2, hb⟩ := j_difference lyA_X10 lyA_X11 h 
  refine g_aload (i := 2) C0 dL_law_975 rfl ?_
  refine g_call (bk := 0) (ad := ad) (av := []) (st := []) C0 E0 dL_law_976 cw_X10_difference (am_mem 771 (by decide +kernel) rfl) (am_mem 772 (by decide +kernel) rfl) (am_mem 773 (by decide +kernel) rfl) rfl rfl rfl m1 (Nat.le_of_ble_eq_true rfl) ?_
  refine g_aload (i := 1) C0 dL_law_979 rfl ?_
  refine g_call (bk := 51) (ad := ad) (av := []) (st := [.int x]) C0 E0 dL_law_980 cw_X11_difference (am_mem 1132 (by decide +kernel) rfl) (am_mem 1133 (by decide +kernel) rfl) (am_mem 1134 (by decide +kernel) rfl) rfl rfl rfl m2 (Nat.le_of_ble_eq_true rfl) ?_
  exact g_eq (tgt := 1014) C0 dL_law_983 (by decide) (kk D2 B2 st2 h2 hb)
theorem law_36 (C0 : lw_At p s m meth c b L xs) (E0 : g_E G cs s) (hL : L ≤ 2048) (hi : i + 4 ≤ L) (h : LS2 D B (T, T', Hh, sq, tx)) (hB : B < 2 ^ 31) (kk : ∀ D2 B2 st2, LS2 D2 B2 st2 → B2 ≤ B + 101 → g_W p l e s m below meth c b G 1014 (g_lv ad b i) [] (am_W (G, cs, ad) lyA D2) 600000 7302250) : g_W p l e s m below meth c b G 988 (g_lv ad b i) [] (am_W (G, cs, ad) lyA D) 600000 7302250 := by
  obtain ⟨x, D1, D2, B2, st2, m1, m2, h2, hb⟩ := j_isLikeStored lyA_X10 lyA_X11 h 
  refine g_aload (i := 2) C0 dL_law_988 rfl ?_
  refine g_call (bk := 0) (ad := ad) (av := []) (st := []) C0 E0 dL_law_989 cw_X10_isLikeStored (am_mem 781 (by decide +kernel) rfl) (am_mem 782 (by decide +kernel) rfl) (am_mem 783 (by decide +kernel) rfl) rfl rfl rfl m1 (Nat.le_of_ble_eq_true rfl) ?_
  refine g_aload (i := 1) C0 dL_law_992 rfl ?_
  refine g_call (bk := 51) (ad := ad) (av := []) (st := [.int x]) C0 E0 dL_law_993 cw_X11_isLikeStored (am_mem 1140 (by decide +kernel) rfl) (am_mem 1141 (by decide +kernel) rfl) (am_mem 1142 (by decide +kernel) rfl) rfl rfl rfl m2 (Nat.le_of_ble_eq_true rfl) ?_
  exact g_eq (tgt := 1014) C0 dL_law_996 (by decide) (kk D2 B2 st2 h2 hb)
theorem law_37 (C0 : lw_At p s m meth c b L xs) (E0 : g_E G cs s) (hL : L ≤ 2048) (hi : i + 4 ≤ L) (h : LS2 D B (T, T', Hh, sq, tx)) (hB : B < 2 ^ 31) (kk : ∀ D2 B2 st2, LS2 D2 B2 st2 → B2 ≤ B + 101 → g_W p l e s m below meth c b G 1014 (g_lv ad b i) [] (am_W (G, cs, ad) lyA D2) 600000 7302250) : g_W p l e s m below meth c b G 1001 (g_lv ad b i) [] (am_W (G, cs, ad) lyA D) 600000 7302250 := by
  obtain ⟨x, D1, D2, B2, st2, m1, m2, h2, hb⟩ := j_towardsStored lyA_X10 lyA_X11 h 
  refine g_aload (i := 2) C0 dL_law_1001 rfl ?_
  refine g_call (bk := 0) (ad := ad) (av := []) (st := []) C0 E0 dL_law_1002 cw_X10_towardsStored (am_mem 800 (by decide +kernel) rfl) (am_mem 801 (by decide +kernel) rfl) (am_mem 802 (by decide +kernel) rfl) rfl rfl rfl m1 (Nat.le_of_ble_eq_true rfl) ?_
  refine g_aload (i := 1) C0 dL_law_1005 rfl ?_
  refine g_call (bk := 51) (ad := ad) (av := []) (st := [.int x]) C0 E0 dL_law_1006 cw_X11_towardsStored (am_mem 1148 (by decide +kernel) rfl) (am_mem 1149 (by decide +kernel) rfl) (am_mem 1150 (by decide +kernel) rfl) rfl rfl rfl m2 (Nat.le_of_ble_eq_true rfl) ?_
  exact g_eq (tgt := 1014) C0 dL_law_1009 (by decide) (kk D2 B2 st2 h2 hb)
theorem g_loop (C0 : lw_At p s m meth c b L xs) (E0 : g_E G cs s) (hL : L ≤ 2048) : ∀ n i D B st2, L < i + 4 * n + 4 → i ≤ L → LS2 D B st2 → B + 101 * n ≤ 100000 → g_W p l e s m below meth c b G 18 (g_lv ad b i) [] (am_W (G, cs, ad) lyA D) 600000 7302250 := by
  have head : ∀ i D, i ≤ L → (i + 4 ≤ L → g_W p l e s m below meth c b G 26 (g_lv ad b i) [] (am_W (G, cs, ad) lyA D) 600000 7302250) → g_W p l e s m below meth c b G 18 (g_lv ad b i) [] (am_W (G, cs, ad) lyA D) 600000 7302250 := by
    intro i D hi kk
    refine g_iload (i := 0) C0 dL_law_18 rfl ?_
    refine g_aload (i := 3) C0 dL_law_19 rfl ?_
    refine g_len C0 dL_law_20 ?_
    refine g_iconst (v := nI 4) C0 dL_law_21 (by decide) ?_
    refine g_isub (v := nI L - nI 4) C0 dL_law_22 rfl ?_
    refine g_gt (tgt := 1020) C0 dL_law_23 (by decide) (fun _ => ?_) fun h => kk (low4 hi hL h)
    refine g_iconst (v := 1) C0 dL_law_1020 (by decide) ?_
    exact g_end C0 dL_law_1021
  intro n
  induction n with
  | zero => exact fun i D B st2 h1 h2 h3 h4 => head i D h2 fun h => by omega
  | succ n ih =>
    intro i D B st2 h1 h2 h3 h4
    refine head i D h2 fun hi => ?_
    have next : ∀ D2 B2 st2, LS2 D2 B2 st2 → B2 ≤ B + 101 → g_W p l e s m below meth c b G 1014 (g_lv ad b i) [] (am_W (G, cs, ad) lyA D2) 600000 7302250 := by
      intro D2 B2 st2 g1 g2
      refine g_iinc (i := 3) (k := 0) (v := nI (i + 4)) C0 dL_law_1014 rfl (by rw [← nI_add]; rfl) (by decide) rfl ?_
      exact g_goto (tgt := 18) C0 dL_law_1017 (by decide) (ih (i + 4) D2 B2 st2 (by omega) hi g1 (by omega))
    have hB : B < 2 ^ 31 := by omega
    obtain ⟨T, T', Hh, sq, tx⟩ := st2
    refine g_aload (i := 3) C0 dL_law_26 rfl ?_
    refine g_iload (i := 0) C0 dL_law_27 rfl ?_
    refine g_ald (v := xs (nI i).toNatClampNeg) C0 dL_law_28 (vp_in_nI (by omega) (by omega)) rfl ?_
    refine g_bipush (v := nI 63) C0 dL_law_29 (by decide) ?_
    obtain ⟨k, hk, ek⟩ := and63 (xs (nI i).toNatClampNeg)
    refine g_iand (v := nI k) C0 dL_law_31 ek ?_
    match k, hk with
    | 0, _ => exact g_tin (tgt := 200) C0 dL_law_32 (by decide) (by decide) rfl (by decide) (law_0 C0 E0 hL hi h3 hB next)
    | 1, _ => exact g_tin (tgt := 223) C0 dL_law_32 (by decide) (by decide) rfl (by decide) (law_1 C0 E0 hL hi h3 hB next)
    | 2, _ => exact g_tin (tgt := 256) C0 dL_law_32 (by decide) (by decide) rfl (by decide) (law_2 C0 E0 hL hi h3 hB next)
    | 3, _ => exact g_tin (tgt := 299) C0 dL_law_32 (by decide) (by decide) rfl (by decide) (law_3 C0 E0 hL hi h3 hB next)
    | 4, _ => exact g_tin (tgt := 342) C0 dL_law_32 (by decide) (by decide) rfl (by decide) (law_4 C0 E0 hL hi h3 hB next)
    | 5, _ => exact g_tin (tgt := 375) C0 dL_law_32 (by decide) (by decide) rfl (by decide) (law_5 C0 E0 hL hi h3 hB next)
    | 6, _ => exact g_tin (tgt := 398) C0 dL_law_32 (by decide) (by decide) rfl (by decide) (law_6 C0 E0 hL hi h3 hB next)
    | 7, _ => exact g_tin (tgt := 431) C0 dL_law_32 (by decide) (by decide) rfl (by decide) (law_7 C0 E0 hL hi h3 hB next)
    | 8, _ => exact g_tin (tgt := 444) C0 dL_law_32 (by decide) (by decide) rfl (by decide) (law_8 C0 E0 hL hi h3 hB next)
    | 9, _ => exact g_tin (tgt := 457) C0 dL_law_32 (by decide) (by decide) rfl (by decide) (law_9 C0 E0 hL hi h3 hB next)
    | 10, _ => exact g_tin (tgt := 470) C0 dL_law_32 (by decide) (by decide) rfl (by decide) (law_10 C0 E0 hL hi h3 hB next)
    | 11, _ => exact g_tin (tgt := 483) C0 dL_law_32 (by decide) (by decide) rfl (by decide) (law_11 C0 E0 hL hi h3 hB next)
    | 12, _ => exact g_tin (tgt := 506) C0 dL_law_32 (by decide) (by decide) rfl (by decide) (law_12 C0 E0 hL hi h3 hB next)
    | 13, _ => exact g_tin (tgt := 519) C0 dL_law_32 (by decide) (by decide) rfl (by decide) (law_13 C0 E0 hL hi h3 hB next)
    | 14, _ => exact g_tin (tgt := 532) C0 dL_law_32 (by decide) (by decide) rfl (by decide) (law_14 C0 E0 hL hi h3 hB next)
    | 15, _ => exact g_tin (tgt := 555) C0 dL_law_32 (by decide) (by decide) rfl (by decide) (law_15 C0 E0 hL hi h3 hB next)
    | 16, _ => exact g_tin (tgt := 568) C0 dL_law_32 (by decide) (by decide) rfl (by decide) (law_16 C0 E0 hL hi h3 hB next)
    | 17, _ => exact g_tin (tgt := 581) C0 dL_law_32 (by decide) (by decide) rfl (by decide) (law_17 C0 E0 hL hi h3 hB next)
    | 18, _ => exact g_tin (tgt := 594) C0 dL_law_32 (by decide) (by decide) rfl (by decide) (law_18 C0 E0 hL hi h3 hB next)
    | 19, _ => exact g_tin (tgt := 627) C0 dL_law_32 (by decide) (by decide) rfl (by decide) (law_19 C0 E0 hL hi h3 hB next)
    | 20, _ => exact g_tin (tgt := 660) C0 dL_law_32 (by decide) (by decide) rfl (by decide) (law_20 C0 E0 hL hi h3 hB next)
    | 21, _ => exact g_tin (tgt := 683) C0 dL_law_32 (by decide) (by decide) rfl (by decide) (law_21 C0 E0 hL hi h3 hB next)
    | 22, _ => exact g_tin (tgt := 706) C0 dL_law_32 (by decide) (by decide) rfl (by decide) (law_22 C0 E0 hL hi h3 hB next)
    | 23, _ => exact g_tin (tgt := 719) C0 dL_law_32 (by decide) (by decide) rfl (by decide) (law_23 C0 E0 hL hi h3 hB next)
    | 24, _ => exact g_tin (tgt := 752) C0 dL_law_32 (by decide) (by decide) rfl (by decide) (law_24 C0 E0 hL hi h3 hB next)
    | 25, _ => exact g_tin (tgt := 765) C0 dL_law_32 (by decide) (by decide) rfl (by decide) (law_25 C0 E0 hL hi h3 hB next)
    | 26, _ => exact g_tin (tgt := 788) C0 dL_law_32 (by decide) (by decide) rfl (by decide) (law_26 C0 E0 hL hi h3 hB next)
    | 27, _ => exact g_tin (tgt := 801) C0 dL_law_32 (by decide) (by decide) rfl (by decide) (law_27 C0 E0 hL hi h3 hB next)
    | 28, _ => exact g_tin (tgt := 824) C0 dL_law_32 (by decide) (by decide) rfl (by decide) (law_28 C0 E0 hL hi h3 hB next)
    | 29, _ => exact g_tin (tgt := 867) C0 dL_law_32 (by decide) (by decide) rfl (by decide) (law_29 C0 E0 hL hi h3 hB next)
    | 30, _ => exact g_tin (tgt := 890) C0 dL_law_32 (by decide) (by decide) rfl (by decide) (law_30 C0 E0 hL hi h3 hB next)
    | 31, _ => exact g_tin (tgt := 903) C0 dL_law_32 (by decide) (by decide) rfl (by decide) (law_31 C0 E0 hL hi h3 hB next)
    | 32, _ => exact g_tin (tgt := 926) C0 dL_law_32 (by decide) (by decide) rfl (by decide) (law_32 C0 E0 hL hi h3 hB next)
    | 33, _ => exact g_tin (tgt := 949) C0 dL_law_32 (by decide) (by decide) rfl (by decide) (law_33 C0 E0 hL hi h3 hB next)
    | 34, _ => exact g_tin (tgt := 962) C0 dL_law_32 (by decide) (by decide) rfl (by decide) (law_34 C0 E0 hL hi h3 hB next)
    | 35, _ => exact g_tin (tgt := 975) C0 dL_law_32 (by decide) (by decide) rfl (by decide) (law_35 C0 E0 hL hi h3 hB next)
    | 36, _ => exact g_tin (tgt := 988) C0 dL_law_32 (by decide) (by decide) rfl (by decide) (law_36 C0 E0 hL hi h3 hB next)
    | 37, _ => exact g_tin (tgt := 1001) C0 dL_law_32 (by decide) (by decide) rfl (by decide) (law_37 C0 E0 hL hi h3 hB next)
    | k + 38, hk => exact g_tout (tgt := 1014) C0 dL_law_32 (Or.inr (by rw [nI_toInt (by omega)]; omega)) (by decide) (next D B _ h3 (by omega))
end LAWB
