theorem xrf_off {ci f d : Nat} (hc : ci < 8) (h : ∀ a, a < 82 → xcl a = ci → xrf a f = a + d) : ∀ a, xcl a = ci → xrf a f = a + d := fun a ha => h a (xlv_lt (xcl_lt ha hc).1) ha
theorem iwX0 : Cond.initialized RX0 ∈ XB := xb_m1 11 (by decide +kernel) rfl
theorem iwX4 : Cond.initialized RX4 ∈ XB := xb_m1 3 (by decide +kernel) rfl
theorem iwX1 : Cond.initialized RX1 ∈ XB := xb_m1 5 (by decide +kernel) rfl
theorem iwX3 : Cond.initialized RX3 ∈ XB := xb_m1 2 (by decide +kernel) rfl
theorem iwJ6 : Cond.initialized RJ6 ∈ XB := xb_m1 12 (by decide +kernel) rfl
theorem iwX2 : Cond.initialized RX2 ∈ XB := xb_m1 17 (by decide +kernel) rfl
theorem iwX5 : Cond.initialized RX5 ∈ XB := xb_m1 8 (by decide +kernel) rfl
theorem iwX6 : Cond.initialized RX6 ∈ XB := xb_m1 7 (by decide +kernel) rfl
theorem iwJ0 : Cond.initialized RJ0 ∈ XB := xb_m1 13 (by decide +kernel) rfl
theorem iwJ3 : Cond.initialized RJ3 ∈ XB := xb_m1 15 (by decide +kernel) rfl
theorem iwJ1 : Cond.initialized RJ1 ∈ XB := xb_m1 14 (by decide +kernel) rfl
theorem iwX7 : Cond.initialized RX7 ∈ XB := xb_m1 6 (by decide +kernel) rfl
theorem iwX8 : Cond.initialized RX8 ∈ XB := xb_m1 1 (by decide +kernel) rfl
theorem iwX9 : Cond.initialized RX9 ∈ XB := xb_m1 9 (by decide +kernel) rfl
theorem iwSys : Cond.initialized "java/lang/System" ∈ XB := xb_m1 10 (by decide +kernel) rfl
theorem acN : Cond.native arraycopyName ∈ XB := xb_m2 63 (by decide +kernel) rfl
theorem acS : Cond.static arraycopyName ∈ XB := xb_m2 62 (by decide +kernel) rfl
theorem fokX0 : ∀ n, xfldok RX0 n (xlkF flX0 n) := xlkF_ok (fun _ h => absurd h List.not_mem_nil)
theorem ckX0_15s : xcstok RX0 100015 (.ref 200) := ⟨fun h => absurd h (by decide), fun k h => by
  obtain rfl : k = 15 := by omega
  exact Or.inr (Or.inl ⟨rfl, xb_m3 142 (by decide +kernel) rfl⟩)⟩
theorem ckX0_19s : xcstok RX0 100019 (.ref 201) := ⟨fun h => absurd h (by decide), fun k h => by
  obtain rfl : k = 19 := by omega
  exact Or.inr (Or.inr (Or.inl ⟨rfl, xb_m3 147 (by decide +kernel) rfl⟩))⟩
theorem cokX0 : ∀ n, xcstok RX0 n (xlkV csX0 n) := xlkV_ok (List.forall_mem_cons.mpr ⟨ckX0_15s, List.forall_mem_cons.mpr ⟨ckX0_19s, fun _ h => absurd h List.not_mem_nil⟩⟩)
theorem fkX4_9 : xfldok RX4 9 (2, 4, 4, 6) := ⟨fun _ => ⟨RX4, TX4, 7, rfl, by decide, xb_m1 105 (by decide +kernel) rfl, (fun h => absurd h (by decide)), (fun h => absurd h (by decide)), (fun _ => ⟨rfl, xrf_off (by decide) (by decide +kernel)⟩), by decide⟩, (fun h => absurd h (by decide)), (fun h => absurd h (by decide))⟩
theorem fkX4_17 : xfldok RX4 17 (2, 5, 4, 7) := ⟨fun _ => ⟨RX4, TX4, 7, rfl, by decide, xb_m1 106 (by decide +kernel) rfl, (fun h => absurd h (by decide)), (fun h => absurd h (by decide)), (fun _ => ⟨rfl, xrf_off (by decide) (by decide +kernel)⟩), by decide⟩, (fun h => absurd h (by decide)), (fun h => absurd h (by decide))⟩
theorem fkX4_20 : xfldok RX4 20 (2, 6, 4, 8) := ⟨fun _ => ⟨RX4, TX4, 7, rfl, by decide, xb_m1 107 (by decide +kernel) rfl, (fun h => absurd h (by decide)), (fun h => absurd h (by decide)), (fun _ => ⟨rfl, xrf_off (by decide) (by decide +kernel)⟩), by decide⟩, (fun h => absurd h (by decide)), (fun h => absurd h (by decide))⟩
theorem fkX4_30 : xfldok RX4 30 (2, 0, 7, 0) := ⟨fun _ => ⟨RX4, TX4, 7, rfl, by decide, xb_m1 101 (by decide +kernel) rfl, (fun _ => rfl), (fun h => absurd h (by decide)), (fun h => absurd h (by decide)), by decide⟩, (fun h => absurd h (by decide)), (fun h => absurd h (by decide))⟩
theorem fkX4_34 : xfldok RX4 34 (2, 1, 7, 0) := ⟨fun _ => ⟨RX4, TX4, 7, rfl, by decide, xb_m1 102 (by decide +kernel) rfl, (fun _ => rfl), (fun h => absurd h (by decide)), (fun h => absurd h (by decide)), by decide⟩, (fun h => absurd h (by decide)), (fun h => absurd h (by decide))⟩
theorem fkX4_37 : xfldok RX4 37 (2, 3, 4, 1) := ⟨fun _ => ⟨RX4, TX4, 7, rfl, by decide, xb_m1 104 (by decide +kernel) rfl, (fun h => absurd h (by decide)), (fun h => absurd h (by decide)), (fun _ => ⟨rfl, xrf_off (by decide) (by decide +kernel)⟩), by decide⟩, (fun h => absurd h (by decide)), (fun h => absurd h (by decide))⟩
theorem fkX4_40 : xfldok RX4 40 (2, 2, 0, 0) := ⟨fun _ => ⟨RX4, TX4, 7, rfl, by decide, xb_m1 103 (by decide +kernel) rfl, (fun h => absurd h (by decide)), (fun _ => ⟨rfl, rfl⟩), (fun h => absurd h (by decide)), by decide⟩, (fun h => absurd h (by decide)), (fun h => absurd h (by decide))⟩
theorem fkX4_74 : xfldok RX4 74 (1, 2, 4, 1) := ⟨fun _ => ⟨RX3, TX3, 11, rfl, by decide, xb_m1 44 (by decide +kernel) rfl, (fun h => absurd h (by decide)), (fun h => absurd h (by decide)), (fun _ => ⟨rfl, xrf_off (by decide) (by decide +kernel)⟩), by decide⟩, (fun h => absurd h (by decide)), (fun h => absurd h (by decide))⟩
theorem fkX4_77 : xfldok RX4 77 (1, 3, 4, 2) := ⟨fun _ => ⟨RX3, TX3, 11, rfl, by decide, xb_m1 49 (by decide +kernel) rfl, (fun h => absurd h (by decide)), (fun h => absurd h (by decide)), (fun _ => ⟨rfl, xrf_off (by decide) (by decide +kernel)⟩), by decide⟩, (fun h => absurd h (by decide)), (fun h => absurd h (by decide))⟩
theorem fkX4_84 : xfldok RX4 84 (1, 0, 0, 0) := ⟨fun _ => ⟨RX3, TX3, 11, rfl, by decide, xb_m1 35 (by decide +kernel) rfl, (fun h => absurd h (by decide)), (fun _ => ⟨rfl, rfl⟩), (fun h => absurd h (by decide)), by decide⟩, (fun h => absurd h (by decide)), (fun h => absurd h (by decide))⟩
theorem fokX4 : ∀ n, xfldok RX4 n (xlkF flX4 n) := xlkF_ok (List.forall_mem_cons.mpr ⟨fkX4_9, List.forall_mem_cons.mpr ⟨fkX4_17, List.forall_mem_cons.mpr ⟨fkX4_20, List.forall_mem_cons.mpr ⟨fkX4_30, List.forall_mem_cons.mpr ⟨fkX4_34, List.forall_mem_cons.mpr ⟨fkX4_37, List.forall_mem_cons.mpr ⟨fkX4_40, List.forall_mem_cons.mpr ⟨fkX4_74, List.forall_mem_cons.mpr ⟨fkX4_77, List.forall_mem_cons.mpr ⟨fkX4_84, fun _ h => absurd h List.not_mem_nil⟩⟩⟩⟩⟩⟩⟩⟩⟩⟩)
theorem ckX4_47 : xcstok RX4 47 (.int 16777215) := ⟨fun _ => Or.inr (Or.inl ⟨_, rfl, xb_m3 153 (by decide +kernel) rfl⟩), (fun k h => absurd h (by omega))⟩
theorem cokX4 : ∀ n, xcstok RX4 n (xlkV csX4 n) := xlkV_ok (List.forall_mem_cons.mpr ⟨ckX4_47, fun _ h => absurd h List.not_mem_nil⟩)
theorem fkX1_14 : xfldok RX1 14 (0, 2, 4, 1) := ⟨fun _ => ⟨RX1, TX1, 5, rfl, by decide, xb_m1 136 (by decide +kernel) rfl, (fun h => absurd h (by decide)), (fun h => absurd h (by decide)), (fun _ => ⟨rfl, xrf_off (by decide) (by decide +kernel)⟩), by decide⟩, (fun h => absurd h (by decide)), (fun h => absurd h (by decide))⟩
theorem fkX1_20 : xfldok RX1 20 (0, 3, 4, 10) := ⟨fun _ => ⟨RX1, TX1, 5, rfl, by decide, xb_m1 137 (by decide +kernel) rfl, (fun h => absurd h (by decide)), (fun h => absurd h (by decide)), (fun _ => ⟨rfl, xrf_off (by decide) (by decide +kernel)⟩), by decide⟩, (fun h => absurd h (by decide)), (fun h => absurd h (by decide))⟩
theorem fkX1_24 : xfldok RX1 24 (0, 4, 4, 11) := ⟨fun _ => ⟨RX1, TX1, 5, rfl, by decide, xb_m1 138 (by decide +kernel) rfl, (fun h => absurd h (by decide)), (fun h => absurd h (by decide)), (fun _ => ⟨rfl, xrf_off (by decide) (by decide +kernel)⟩), by decide⟩, (fun h => absurd h (by decide)), (fun h => absurd h (by decide))⟩
theorem fkX1_27 : xfldok RX1 27 (1, 7, 0, 0) := ⟨fun _ => ⟨RX3, TX3, 11, rfl, by decide, xb_m1 58 (by decide +kernel) rfl, (fun h => absurd h (by decide)), (fun _ => ⟨rfl, rfl⟩), (fun h => absurd h (by decide)), by decide⟩, (fun h => absurd h (by decide)), (fun h => absurd h (by decide))⟩
theorem fkX1_33 : xfldok RX1 33 (1, 8, 4, 6) := ⟨fun _ => ⟨RX3, TX3, 11, rfl, by decide, xb_m1 62 (by decide +kernel) rfl, (fun h => absurd h (by decide)), (fun h => absurd h (by decide)), (fun _ => ⟨rfl, xrf_off (by decide) (by decide +kernel)⟩), by decide⟩, (fun h => absurd h (by decide)), (fun h => absurd h (by decide))⟩
theorem fkX1_44 : xfldok RX1 44 (1, 0, 0, 0) := ⟨fun _ => ⟨RX3, TX3, 11, rfl, by decide, xb_m1 33 (by decide +kernel) rfl, (fun h => absurd h (by decide)), (fun _ => ⟨rfl, rfl⟩), (fun h => absurd h (by decide)), by decide⟩, (fun h => absurd h (by decide)), (fun h => absurd h (by decide))⟩
theorem fkX1_60 : xfldok RX1 60 (1, 1, 0, 0) := ⟨fun _ => ⟨RX3, TX3, 11, rfl, by decide, xb_m1 37 (by decide +kernel) rfl, (fun h => absurd h (by decide)), (fun _ => ⟨rfl, rfl⟩), (fun h => absurd h (by decide)), by decide⟩, (fun h => absurd h (by decide)), (fun h => absurd h (by decide))⟩
theorem fkX1_63 : xfldok RX1 63 (0, 0, 0, 0) := ⟨fun _ => ⟨RX1, TX1, 5, rfl, by decide, xb_m1 132 (by decide +kernel) rfl, (fun h => absurd h (by decide)), (fun _ => ⟨rfl, rfl⟩), (fun h => absurd h (by decide)), by decide⟩, (fun h => absurd h (by decide)), (fun h => absurd h (by decide))⟩
theorem fkX1_66 : xfldok RX1 66 (0, 1, 0, 0) := ⟨fun _ => ⟨RX1, TX1, 5, rfl, by decide, xb_m1 134 (by decide +kernel) rfl, (fun h => absurd h (by decide)), (fun _ => ⟨rfl, rfl⟩), (fun h => absurd h (by decide)), by decide⟩, (fun h => absurd h (by decide)), (fun h => absurd h (by decide))⟩
theorem fkX1_89 : xfldok RX1 89 (1, 3, 4, 2) := ⟨fun _ => ⟨RX3, TX3, 11, rfl, by decide, xb_m1 47 (by decide +kernel) rfl, (fun h => absurd h (by decide)), (fun h => absurd h (by decide)), (fun _ => ⟨rfl, xrf_off (by decide) (by decide +kernel)⟩), by decide⟩, (fun h => absurd h (by decide)), (fun h => absurd h (by decide))⟩
theorem fokX1 : ∀ n, xfldok RX1 n (xlkF flX1 n) := xlkF_ok (List.forall_mem_cons.mpr ⟨fkX1_14, List.forall_mem_cons.mpr ⟨fkX1_20, List.forall_mem_cons.mpr ⟨fkX1_24, List.forall_mem_cons.mpr ⟨fkX1_27, List.forall_mem_cons.mpr ⟨fkX1_33, List.forall_mem_cons.mpr ⟨fkX1_44, List.forall_mem_cons.mpr ⟨fkX1_60, List.forall_mem_cons.mpr ⟨fkX1_63, List.forall_mem_cons.mpr ⟨fkX1_66, List.forall_mem_cons.mpr ⟨fkX1_89, fun _ h => absurd h List.not_mem_nil⟩⟩⟩⟩⟩⟩⟩⟩⟩⟩)
theorem cokX1 : ∀ n, xcstok RX1 n (xlkV csX1 n) := xlkV_ok (fun _ h => absurd h List.not_mem_nil)
theorem fkX3_11 : xfldok RX3 11 (1, 2, 4, 1) := ⟨fun _ => ⟨RX3, TX3, 11, rfl, by decide, xb_m1 40 (by decide +kernel) rfl, (fun h => absurd h (by decide)), (fun h => absurd h (by decide)), (fun _ => ⟨rfl, xrf_off (by decide) (by decide +kernel)⟩), by decide⟩, (fun h => absurd h (by decide)), (fun h => absurd h (by decide))⟩
theorem fkX3_15 : xfldok RX3 15 (1, 3, 4, 2) := ⟨fun _ => ⟨RX3, TX3, 11, rfl, by decide, xb_m1 45 (by decide +kernel) rfl, (fun h => absurd h (by decide)), (fun h => absurd h (by decide)), (fun _ => ⟨rfl, xrf_off (by decide) (by decide +kernel)⟩), by decide⟩, (fun h => absurd h (by decide)), (fun h => absurd h (by decide))⟩
theorem fkX3_18 : xfldok RX3 18 (1, 4, 4, 3) := ⟨fun _ => ⟨RX3, TX3, 11, rfl, by decide, xb_m1 50 (by decide +kernel) rfl, (fun h => absurd h (by decide)), (fun h => absurd h (by decide)), (fun _ => ⟨rfl, xrf_off (by decide) (by decide +kernel)⟩), by decide⟩, (fun h => absurd h (by decide)), (fun h => absurd h (by decide))⟩
theorem fkX3_21 : xfldok RX3 21 (1, 5, 4, 4) := ⟨fun _ => ⟨RX3, TX3, 11, rfl, by decide, xb_m1 53 (by decide +kernel) rfl, (fun h => absurd h (by decide)), (fun h => absurd h (by decide)), (fun _ => ⟨rfl, xrf_off (by decide) (by decide +kernel)⟩), by decide⟩, (fun h => absurd h (by decide)), (fun h => absurd h (by decide))⟩
theorem fkX3_24 : xfldok RX3 24 (1, 6, 4, 5) := ⟨fun _ => ⟨RX3, TX3, 11, rfl, by decide, xb_m1 56 (by decide +kernel) rfl, (fun h => absurd h (by decide)), (fun h => absurd h (by decide)), (fun _ => ⟨rfl, xrf_off (by decide) (by decide +kernel)⟩), by decide⟩, (fun h => absurd h (by decide)), (fun h => absurd h (by decide))⟩
theorem fkX3_27 : xfldok RX3 27 (1, 8, 4, 6) := ⟨fun _ => ⟨RX3, TX3, 11, rfl, by decide, xb_m1 61 (by decide +kernel) rfl, (fun h => absurd h (by decide)), (fun h => absurd h (by decide)), (fun _ => ⟨rfl, xrf_off (by decide) (by decide +kernel)⟩), by decide⟩, (fun h => absurd h (by decide)), (fun h => absurd h (by decide))⟩
theorem fkX3_30 : xfldok RX3 30 (1, 10, 0, 0) := ⟨fun _ => ⟨RX3, TX3, 11, rfl, by decide, xb_m1 66 (by decide +kernel) rfl, (fun h => absurd h (by decide)), (fun _ => ⟨rfl, rfl⟩), (fun h => absurd h (by decide)), by decide⟩, (fun h => absurd h (by decide)), (fun h => absurd h (by decide))⟩
theorem fkX3_40 : xfldok RX3 40 (1, 0, 0, 0) := ⟨fun _ => ⟨RX3, TX3, 11, rfl, by decide, xb_m1 34 (by decide +kernel) rfl, (fun h => absurd h (by decide)), (fun _ => ⟨rfl, rfl⟩), (fun h => absurd h (by decide)), by decide⟩, (fun h => absurd h (by decide)), (fun h => absurd h (by decide))⟩
theorem fkX3_43 : xfldok RX3 43 (1, 1, 0, 0) := ⟨fun _ => ⟨RX3, TX3, 11, rfl, by decide, xb_m1 38 (by decide +kernel) rfl, (fun h => absurd h (by decide)), (fun _ => ⟨rfl, rfl⟩), (fun h => absurd h (by decide)), by decide⟩, (fun h => absurd h (by decide)), (fun h => absurd h (by decide))⟩
theorem fkX3_52 : xfldok RX3 52 (1, 7, 0, 0) := ⟨fun _ => ⟨RX3, TX3, 11, rfl, by decide, xb_m1 59 (by decide +kernel) rfl, (fun h => absurd h (by decide)), (fun _ => ⟨rfl, rfl⟩), (fun h => absurd h (by decide)), by decide⟩, (fun h => absurd h (by decide)), (fun h => absurd h (by decide))⟩
theorem fkX3_55 : xfldok RX3 55 (1, 9, 0, 0) := ⟨fun _ => ⟨RX3, TX3, 11, rfl, by decide, xb_m1 64 (by decide +kernel) rfl, (fun h => absurd h (by decide)), (fun _ => ⟨rfl, rfl⟩), (fun h => absurd h (by decide)), by decide⟩, (fun h => absurd h (by decide)), (fun h => absurd h (by decide))⟩
theorem fokX3 : ∀ n, xfldok RX3 n (xlkF flX3 n) := xlkF_ok (List.forall_mem_cons.mpr ⟨fkX3_11, List.forall_mem_cons.mpr ⟨fkX3_15, List.forall_mem_cons.mpr ⟨fkX3_18, List.forall_mem_cons.mpr ⟨fkX3_21, List.forall_mem_cons.mpr ⟨fkX3_24, List.forall_mem_cons.mpr ⟨fkX3_27, List.forall_mem_cons.mpr ⟨fkX3_30, List.forall_mem_cons.mpr ⟨fkX3_40, List.forall_mem_cons.mpr ⟨fkX3_43, List.forall_mem_cons.mpr ⟨fkX3_52, List.forall_mem_cons.mpr ⟨fkX3_55, fun _ h => absurd h List.not_mem_nil⟩⟩⟩⟩⟩⟩⟩⟩⟩⟩⟩)
theorem ckX3_87 : xcstok RX3 87 (.int 1000000) := ⟨fun _ => Or.inr (Or.inl ⟨_, rfl, xb_m4 64 (by decide +kernel) rfl⟩), (fun k h => absurd h (by omega))⟩
theorem ckX3_101 : xcstok RX3 101 (.int 1103515245) := ⟨fun _ => Or.inr (Or.inl ⟨_, rfl, xb_m5 8 (by decide +kernel) rfl⟩), (fun k h => absurd h (by omega))⟩
theorem cokX3 : ∀ n, xcstok RX3 n (xlkV csX3 n) := xlkV_ok (List.forall_mem_cons.mpr ⟨ckX3_87, List.forall_mem_cons.mpr ⟨ckX3_101, fun _ h => absurd h List.not_mem_nil⟩⟩)
theorem fokJ6 : ∀ n, xfldok RJ6 n (xlkF flJ6 n) := xlkF_ok (fun _ h => absurd h List.not_mem_nil)
theorem ckJ6_265 : xcstok RJ6 265 (.int 1431655765) := ⟨fun _ => Or.inr (Or.inl ⟨_, rfl, xb_m2 174 (by decide +kernel) rfl⟩), (fun k h => absurd h (by omega))⟩
theorem ckJ6_266 : xcstok RJ6 266 (.int 858993459) := ⟨fun _ => Or.inr (Or.inl ⟨_, rfl, xb_m2 175 (by decide +kernel) rfl⟩), (fun k h => absurd h (by omega))⟩
theorem ckJ6_267 : xcstok RJ6 267 (.int 252645135) := ⟨fun _ => Or.inr (Or.inl ⟨_, rfl, xb_m2 176 (by decide +kernel) rfl⟩), (fun k h => absurd h (by omega))⟩
theorem cokJ6 : ∀ n, xcstok RJ6 n (xlkV csJ6 n) := xlkV_ok (List.forall_mem_cons.mpr ⟨ckJ6_265, List.forall_mem_cons.mpr ⟨ckJ6_266, List.forall_mem_cons.mpr ⟨ckJ6_267, fun _ h => absurd h List.not_mem_nil⟩⟩⟩)
theorem fkX2_15 : xfldok RX2 15 (1, 3, 4, 2) := ⟨fun _ => ⟨RX3, TX3, 11, rfl, by decide, xb_m1 46 (by decide +kernel) rfl, (fun h => absurd h (by decide)), (fun h => absurd h (by decide)), (fun _ => ⟨rfl, xrf_off (by decide) (by decide +kernel)⟩), by decide⟩, (fun h => absurd h (by decide)), (fun h => absurd h (by decide))⟩
theorem fkX2_21 : xfldok RX2 21 (1, 2, 4, 1) := ⟨fun _ => ⟨RX3, TX3, 11, rfl, by decide, xb_m1 42 (by decide +kernel) rfl, (fun h => absurd h (by decide)), (fun h => absurd h (by decide)), (fun _ => ⟨rfl, xrf_off (by decide) (by decide +kernel)⟩), by decide⟩, (fun h => absurd h (by decide)), (fun h => absurd h (by decide))⟩
theorem fkX2_37 : xfldok RX2 37 (1, 4, 4, 3) := ⟨fun _ => ⟨RX3, TX3, 11, rfl, by decide, xb_m1 51 (by decide +kernel) rfl, (fun h => absurd h (by decide)), (fun h => absurd h (by decide)), (fun _ => ⟨rfl, xrf_off (by decide) (by decide +kernel)⟩), by decide⟩, (fun h => absurd h (by decide)), (fun h => absurd h (by decide))⟩
theorem fokX2 : ∀ n, xfldok RX2 n (xlkF flX2 n) := xlkF_ok (List.forall_mem_cons.mpr ⟨fkX2_15, List.forall_mem_cons.mpr ⟨fkX2_21, List.forall_mem_cons.mpr ⟨fkX2_37, fun _ h => absurd h List.not_mem_nil⟩⟩⟩)
theorem cokX2 : ∀ n, xcstok RX2 n (xlkV csX2 n) := xlkV_ok (fun _ h => absurd h List.not_mem_nil)
theorem fkX5_9 : xfldok RX5 9 (3, 0, 0, 0) := ⟨fun _ => ⟨RX5, TX5, 3, rfl, by decide, xb_m1 199 (by decide +kernel) rfl, (fun h => absurd h (by decide)), (fun _ => ⟨rfl, rfl⟩), (fun h => absurd h (by decide)), by decide⟩, (fun h => absurd h (by decide)), (fun h => absurd h (by decide))⟩
theorem fkX5_15 : xfldok RX5 15 (3, 2, 4, 1) := ⟨fun _ => ⟨RX5, TX5, 3, rfl, by decide, xb_m1 203 (by decide +kernel) rfl, (fun h => absurd h (by decide)), (fun h => absurd h (by decide)), (fun _ => ⟨rfl, xrf_off (by decide) (by decide +kernel)⟩), by decide⟩, (fun h => absurd h (by decide)), (fun h => absurd h (by decide))⟩
theorem fkX5_23 : xfldok RX5 23 (3, 1, 0, 0) := ⟨fun _ => ⟨RX5, TX5, 3, rfl, by decide, xb_m1 201 (by decide +kernel) rfl, (fun h => absurd h (by decide)), (fun _ => ⟨rfl, rfl⟩), (fun h => absurd h (by decide)), by decide⟩, (fun h => absurd h (by decide)), (fun h => absurd h (by decide))⟩
theorem fokX5 : ∀ n, xfldok RX5 n (xlkF flX5 n) := xlkF_ok (List.forall_mem_cons.mpr ⟨fkX5_9, List.forall_mem_cons.mpr ⟨fkX5_15, List.forall_mem_cons.mpr ⟨fkX5_23, fun _ h => absurd h List.not_mem_nil⟩⟩⟩)
theorem cokX5 : ∀ n, xcstok RX5 n (xlkV csX5 n) := xlkV_ok (fun _ h => absurd h List.not_mem_nil)
theorem fkX6_11 : xfldok RX6 11 (4, 0, 4, 1) := ⟨fun _ => ⟨RX6, TX6, 6, rfl, by decide, xb_m1 171 (by decide +kernel) rfl, (fun h => absurd h (by decide)), (fun h => absurd h (by decide)), (fun _ => ⟨rfl, xrf_off (by decide) (by decide +kernel)⟩), by decide⟩, (fun h => absurd h (by decide)), (fun h => absurd h (by decide))⟩
theorem fkX6_15 : xfldok RX6 15 (4, 2, 0, 0) := ⟨fun _ => ⟨RX6, TX6, 6, rfl, by decide, xb_m1 174 (by decide +kernel) rfl, (fun h => absurd h (by decide)), (fun _ => ⟨rfl, rfl⟩), (fun h => absurd h (by decide)), by decide⟩, (fun h => absurd h (by decide)), (fun h => absurd h (by decide))⟩
theorem fkX6_19 : xfldok RX6 19 (4, 1, 0, 0) := ⟨fun _ => ⟨RX6, TX6, 6, rfl, by decide, xb_m1 172 (by decide +kernel) rfl, (fun h => absurd h (by decide)), (fun _ => ⟨rfl, rfl⟩), (fun h => absurd h (by decide)), by decide⟩, (fun h => absurd h (by decide)), (fun h => absurd h (by decide))⟩
theorem fkX6_26 : xfldok RX6 26 (4, 4, 0, 0) := ⟨fun _ => ⟨RX6, TX6, 6, rfl, by decide, xb_m1 177 (by decide +kernel) rfl, (fun h => absurd h (by decide)), (fun _ => ⟨rfl, rfl⟩), (fun h => absurd h (by decide)), by decide⟩, (fun h => absurd h (by decide)), (fun h => absurd h (by decide))⟩
theorem fkX6_36 : xfldok RX6 36 (4, 5, 0, 0) := ⟨fun _ => ⟨RX6, TX6, 6, rfl, by decide, xb_m1 178 (by decide +kernel) rfl, (fun h => absurd h (by decide)), (fun _ => ⟨rfl, rfl⟩), (fun h => absurd h (by decide)), by decide⟩, (fun h => absurd h (by decide)), (fun h => absurd h (by decide))⟩
theorem fkX6_39 : xfldok RX6 39 (4, 3, 0, 0) := ⟨fun _ => ⟨RX6, TX6, 6, rfl, by decide, xb_m1 176 (by decide +kernel) rfl, (fun h => absurd h (by decide)), (fun _ => ⟨rfl, rfl⟩), (fun h => absurd h (by decide)), by decide⟩, (fun h => absurd h (by decide)), (fun h => absurd h (by decide))⟩
theorem fkX6_117 : xfldok RX6 117 (1, 5, 4, 4) := ⟨fun _ => ⟨RX3, TX3, 11, rfl, by decide, xb_m1 54 (by decide +kernel) rfl, (fun h => absurd h (by decide)), (fun h => absurd h (by decide)), (fun _ => ⟨rfl, xrf_off (by decide) (by decide +kernel)⟩), by decide⟩, (fun h => absurd h (by decide)), (fun h => absurd h (by decide))⟩
theorem fokX6 : ∀ n, xfldok RX6 n (xlkF flX6 n) := xlkF_ok (List.forall_mem_cons.mpr ⟨fkX6_11, List.forall_mem_cons.mpr ⟨fkX6_15, List.forall_mem_cons.mpr ⟨fkX6_19, List.forall_mem_cons.mpr ⟨fkX6_26, List.forall_mem_cons.mpr ⟨fkX6_36, List.forall_mem_cons.mpr ⟨fkX6_39, List.forall_mem_cons.mpr ⟨fkX6_117, fun _ h => absurd h List.not_mem_nil⟩⟩⟩⟩⟩⟩⟩)
theorem ckX6_42 : xcstok RX6 42 (.ref 210) := ⟨fun _ => Or.inr (Or.inr (Or.inr ⟨0, by decide, rfl, by decide +kernel⟩)), (fun k h => absurd h (by omega))⟩
theorem ckX6_51 : xcstok RX6 51 (.ref 211) := ⟨fun _ => Or.inr (Or.inr (Or.inr ⟨1, by decide, rfl, by decide +kernel⟩)), (fun k h => absurd h (by omega))⟩
theorem ckX6_57 : xcstok RX6 57 (.ref 212) := ⟨fun _ => Or.inr (Or.inr (Or.inr ⟨2, by decide, rfl, by decide +kernel⟩)), (fun k h => absurd h (by omega))⟩
theorem ckX6_59 : xcstok RX6 59 (.ref 213) := ⟨fun _ => Or.inr (Or.inr (Or.inr ⟨3, by decide, rfl, by decide +kernel⟩)), (fun k h => absurd h (by omega))⟩
theorem ckX6_65 : xcstok RX6 65 (.ref 214) := ⟨fun _ => Or.inr (Or.inr (Or.inr ⟨4, by decide, rfl, by decide +kernel⟩)), (fun k h => absurd h (by omega))⟩
theorem ckX6_67 : xcstok RX6 67 (.ref 215) := ⟨fun _ => Or.inr (Or.inr (Or.inr ⟨5, by decide, rfl, by decide +kernel⟩)), (fun k h => absurd h (by omega))⟩
theorem ckX6_72 : xcstok RX6 72 (.ref 216) := ⟨fun _ => Or.inr (Or.inr (Or.inr ⟨6, by decide, rfl, by decide +kernel⟩)), (fun k h => absurd h (by omega))⟩
theorem cokX6 : ∀ n, xcstok RX6 n (xlkV csX6 n) := xlkV_ok (List.forall_mem_cons.mpr ⟨ckX6_42, List.forall_mem_cons.mpr ⟨ckX6_51, List.forall_mem_cons.mpr ⟨ckX6_57, List.forall_mem_cons.mpr ⟨ckX6_59, List.forall_mem_cons.mpr ⟨ckX6_65, List.forall_mem_cons.mpr ⟨ckX6_67, List.forall_mem_cons.mpr ⟨ckX6_72, fun _ h => absurd h List.not_mem_nil⟩⟩⟩⟩⟩⟩⟩)
theorem fkJ0_9 : xfldok RJ0 9 (0, 0, 5, 0) := ⟨(fun h => absurd h (by decide)), (fun _ => xb_m7 57 (by decide +kernel) rfl), (fun h => absurd h (by decide))⟩
theorem fkJ0_15 : xfldok RJ0 15 (0, 0, 6, 0) := ⟨(fun h => absurd h (by decide)), (fun h => absurd h (by decide)), (fun _ => xb_m7 58 (by decide +kernel) rfl)⟩
theorem fokJ0 : ∀ n, xfldok RJ0 n (xlkF flJ0 n) := xlkF_ok (List.forall_mem_cons.mpr ⟨fkJ0_9, List.forall_mem_cons.mpr ⟨fkJ0_15, fun _ h => absurd h List.not_mem_nil⟩⟩)
theorem ckJ0_38s : xcstok RJ0 100038 (.int 1) := ⟨fun h => absurd h (by decide), fun k h => by
  obtain rfl : k = 38 := by omega
  exact Or.inr (Or.inr (Or.inr (Or.inl ⟨rfl, xb_m2 235 (by decide +kernel) rfl⟩)))⟩
theorem ckJ0_1053s : xcstok RJ0 101053 (.retAddr 1) := ⟨fun h => absurd h (by decide), fun k h => by
  obtain rfl : k = 1053 := by omega
  exact Or.inr (Or.inr (Or.inr (Or.inr ⟨rfl, xb_m3 11 (by decide +kernel) rfl⟩)))⟩
theorem cokJ0 : ∀ n, xcstok RJ0 n (xlkV csJ0 n) := xlkV_ok (List.forall_mem_cons.mpr ⟨ckJ0_38s, List.forall_mem_cons.mpr ⟨ckJ0_1053s, fun _ h => absurd h List.not_mem_nil⟩⟩)
theorem fokJ3 : ∀ n, xfldok RJ3 n (xlkF flJ3 n) := xlkF_ok (fun _ h => absurd h List.not_mem_nil)
theorem cokJ3 : ∀ n, xcstok RJ3 n (xlkV csJ3 n) := xlkV_ok (fun _ h => absurd h List.not_mem_nil)
theorem fokJ1 : ∀ n, xfldok RJ1 n (xlkF flJ1 n) := xlkF_ok (fun _ h => absurd h List.not_mem_nil)
theorem cokJ1 : ∀ n, xcstok RJ1 n (xlkV csJ1 n) := xlkV_ok (fun _ h => absurd h List.not_mem_nil)
theorem fkX7_9 : xfldok RX7 9 (5, 0, 1, 0) := ⟨fun _ => ⟨RX7, TX7, 2, rfl, by decide, xb_m1 156 (by decide +kernel) rfl, (fun h => absurd h (by decide)), (fun _ => ⟨rfl, rfl⟩), (fun h => absurd h (by decide)), by decide⟩, (fun h => absurd h (by decide)), (fun h => absurd h (by decide))⟩
theorem fkX7_23 : xfldok RX7 23 (3, 2, 4, 1) := ⟨fun _ => ⟨RX5, TX5, 3, rfl, by decide, xb_m1 204 (by decide +kernel) rfl, (fun h => absurd h (by decide)), (fun h => absurd h (by decide)), (fun _ => ⟨rfl, xrf_off (by decide) (by decide +kernel)⟩), by decide⟩, (fun h => absurd h (by decide)), (fun h => absurd h (by decide))⟩
theorem fkX7_29 : xfldok RX7 29 (1, 0, 0, 0) := ⟨fun _ => ⟨RX3, TX3, 11, rfl, by decide, xb_m1 32 (by decide +kernel) rfl, (fun h => absurd h (by decide)), (fun _ => ⟨rfl, rfl⟩), (fun h => absurd h (by decide)), by decide⟩, (fun h => absurd h (by decide)), (fun h => absurd h (by decide))⟩
theorem fkX7_39 : xfldok RX7 39 (5, 1, 0, 0) := ⟨fun _ => ⟨RX7, TX7, 2, rfl, by decide, xb_m1 158 (by decide +kernel) rfl, (fun h => absurd h (by decide)), (fun _ => ⟨rfl, rfl⟩), (fun h => absurd h (by decide)), by decide⟩, (fun h => absurd h (by decide)), (fun h => absurd h (by decide))⟩
theorem fkX7_42 : xfldok RX7 42 (1, 2, 4, 1) := ⟨fun _ => ⟨RX3, TX3, 11, rfl, by decide, xb_m1 41 (by decide +kernel) rfl, (fun h => absurd h (by decide)), (fun h => absurd h (by decide)), (fun _ => ⟨rfl, xrf_off (by decide) (by decide +kernel)⟩), by decide⟩, (fun h => absurd h (by decide)), (fun h => absurd h (by decide))⟩
theorem fokX7 : ∀ n, xfldok RX7 n (xlkF flX7 n) := xlkF_ok (List.forall_mem_cons.mpr ⟨fkX7_9, List.forall_mem_cons.mpr ⟨fkX7_23, List.forall_mem_cons.mpr ⟨fkX7_29, List.forall_mem_cons.mpr ⟨fkX7_39, List.forall_mem_cons.mpr ⟨fkX7_42, fun _ h => absurd h List.not_mem_nil⟩⟩⟩⟩⟩)
theorem ckX7_27 : xcstok RX7 27 (.long (-1)) := ⟨fun _ => Or.inr (Or.inr (Or.inl ⟨_, rfl, xb_m4 188 (by decide +kernel) rfl⟩)), (fun k h => absurd h (by omega))⟩
theorem cokX7 : ∀ n, xcstok RX7 n (xlkV csX7 n) := xlkV_ok (List.forall_mem_cons.mpr ⟨ckX7_27, fun _ h => absurd h List.not_mem_nil⟩)
theorem fkX8_10 : xfldok RX8 10 (6, 0, 4, 1) := ⟨fun _ => ⟨RX8, TX8, 10, rfl, by decide, xb_m1 213 (by decide +kernel) rfl, (fun h => absurd h (by decide)), (fun h => absurd h (by decide)), (fun _ => ⟨rfl, xrf_off (by decide) (by decide +kernel)⟩), by decide⟩, (fun h => absurd h (by decide)), (fun h => absurd h (by decide))⟩
theorem fkX8_16 : xfldok RX8 16 (6, 1, 4, 8) := ⟨fun _ => ⟨RX8, TX8, 10, rfl, by decide, xb_m1 214 (by decide +kernel) rfl, (fun h => absurd h (by decide)), (fun h => absurd h (by decide)), (fun _ => ⟨rfl, xrf_off (by decide) (by decide +kernel)⟩), by decide⟩, (fun h => absurd h (by decide)), (fun h => absurd h (by decide))⟩
theorem fkX8_19 : xfldok RX8 19 (6, 2, 4, 15) := ⟨fun _ => ⟨RX8, TX8, 10, rfl, by decide, xb_m1 215 (by decide +kernel) rfl, (fun h => absurd h (by decide)), (fun h => absurd h (by decide)), (fun _ => ⟨rfl, xrf_off (by decide) (by decide +kernel)⟩), by decide⟩, (fun h => absurd h (by decide)), (fun h => absurd h (by decide))⟩
theorem fkX8_27 : xfldok RX8 27 (6, 4, 4, 22) := ⟨fun _ => ⟨RX8, TX8, 10, rfl, by decide, xb_m1 217 (by decide +kernel) rfl, (fun h => absurd h (by decide)), (fun h => absurd h (by decide)), (fun _ => ⟨rfl, xrf_off (by decide) (by decide +kernel)⟩), by decide⟩, (fun h => absurd h (by decide)), (fun h => absurd h (by decide))⟩
theorem fkX8_34 : xfldok RX8 34 (6, 5, 4, 31) := ⟨fun _ => ⟨RX8, TX8, 10, rfl, by decide, xb_m1 218 (by decide +kernel) rfl, (fun h => absurd h (by decide)), (fun h => absurd h (by decide)), (fun _ => ⟨rfl, xrf_off (by decide) (by decide +kernel)⟩), by decide⟩, (fun h => absurd h (by decide)), (fun h => absurd h (by decide))⟩
theorem fkX8_41 : xfldok RX8 41 (6, 6, 4, 43) := ⟨fun _ => ⟨RX8, TX8, 10, rfl, by decide, xb_m1 219 (by decide +kernel) rfl, (fun h => absurd h (by decide)), (fun h => absurd h (by decide)), (fun _ => ⟨rfl, xrf_off (by decide) (by decide +kernel)⟩), by decide⟩, (fun h => absurd h (by decide)), (fun h => absurd h (by decide))⟩
theorem fkX8_48 : xfldok RX8 48 (6, 7, 4, 44) := ⟨fun _ => ⟨RX8, TX8, 10, rfl, by decide, xb_m1 220 (by decide +kernel) rfl, (fun h => absurd h (by decide)), (fun h => absurd h (by decide)), (fun _ => ⟨rfl, xrf_off (by decide) (by decide +kernel)⟩), by decide⟩, (fun h => absurd h (by decide)), (fun h => absurd h (by decide))⟩
theorem fkX8_54 : xfldok RX8 54 (6, 8, 4, 46) := ⟨fun _ => ⟨RX8, TX8, 10, rfl, by decide, xb_m1 221 (by decide +kernel) rfl, (fun h => absurd h (by decide)), (fun h => absurd h (by decide)), (fun _ => ⟨rfl, xrf_off (by decide) (by decide +kernel)⟩), by decide⟩, (fun h => absurd h (by decide)), (fun h => absurd h (by decide))⟩
theorem fkX8_58 : xfldok RX8 58 (6, 9, 4, 47) := ⟨fun _ => ⟨RX8, TX8, 10, rfl, by decide, xb_m1 222 (by decide +kernel) rfl, (fun h => absurd h (by decide)), (fun h => absurd h (by decide)), (fun _ => ⟨rfl, xrf_off (by decide) (by decide +kernel)⟩), by decide⟩, (fun h => absurd h (by decide)), (fun h => absurd h (by decide))⟩
theorem fkX8_93 : xfldok RX8 93 (3, 2, 4, 1) := ⟨fun _ => ⟨RX5, TX5, 3, rfl, by decide, xb_m1 205 (by decide +kernel) rfl, (fun h => absurd h (by decide)), (fun h => absurd h (by decide)), (fun _ => ⟨rfl, xrf_off (by decide) (by decide +kernel)⟩), by decide⟩, (fun h => absurd h (by decide)), (fun h => absurd h (by decide))⟩
theorem fkX8_103 : xfldok RX8 103 (3, 0, 0, 0) := ⟨fun _ => ⟨RX5, TX5, 3, rfl, by decide, xb_m1 200 (by decide +kernel) rfl, (fun h => absurd h (by decide)), (fun _ => ⟨rfl, rfl⟩), (fun h => absurd h (by decide)), by decide⟩, (fun h => absurd h (by decide)), (fun h => absurd h (by decide))⟩
theorem fkX8_122 : xfldok RX8 122 (1, 2, 4, 1) := ⟨fun _ => ⟨RX3, TX3, 11, rfl, by decide, xb_m1 43 (by decide +kernel) rfl, (fun h => absurd h (by decide)), (fun h => absurd h (by decide)), (fun _ => ⟨rfl, xrf_off (by decide) (by decide +kernel)⟩), by decide⟩, (fun h => absurd h (by decide)), (fun h => absurd h (by decide))⟩
theorem fkX8_128 : xfldok RX8 128 (1, 3, 4, 2) := ⟨fun _ => ⟨RX3, TX3, 11, rfl, by decide, xb_m1 48 (by decide +kernel) rfl, (fun h => absurd h (by decide)), (fun h => absurd h (by decide)), (fun _ => ⟨rfl, xrf_off (by decide) (by decide +kernel)⟩), by decide⟩, (fun h => absurd h (by decide)), (fun h => absurd h (by decide))⟩
theorem fkX8_163 : xfldok RX8 163 (1, 5, 4, 4) := ⟨fun _ => ⟨RX3, TX3, 11, rfl, by decide, xb_m1 55 (by decide +kernel) rfl, (fun h => absurd h (by decide)), (fun h => absurd h (by decide)), (fun _ => ⟨rfl, xrf_off (by decide) (by decide +kernel)⟩), by decide⟩, (fun h => absurd h (by decide)), (fun h => absurd h (by decide))⟩
theorem fkX8_166 : xfldok RX8 166 (1, 4, 4, 3) := ⟨fun _ => ⟨RX3, TX3, 11, rfl, by decide, xb_m1 52 (by decide +kernel) rfl, (fun h => absurd h (by decide)), (fun h => absurd h (by decide)), (fun _ => ⟨rfl, xrf_off (by decide) (by decide +kernel)⟩), by decide⟩, (fun h => absurd h (by decide)), (fun h => absurd h (by decide))⟩
theorem fkX8_175 : xfldok RX8 175 (1, 1, 0, 0) := ⟨fun _ => ⟨RX3, TX3, 11, rfl, by decide, xb_m1 39 (by decide +kernel) rfl, (fun h => absurd h (by decide)), (fun _ => ⟨rfl, rfl⟩), (fun h => absurd h (by decide)), by decide⟩, (fun h => absurd h (by decide)), (fun h => absurd h (by decide))⟩
theorem fkX8_199 : xfldok RX8 199 (4, 2, 0, 0) := ⟨fun _ => ⟨RX6, TX6, 6, rfl, by decide, xb_m1 175 (by decide +kernel) rfl, (fun h => absurd h (by decide)), (fun _ => ⟨rfl, rfl⟩), (fun h => absurd h (by decide)), by decide⟩, (fun h => absurd h (by decide)), (fun h => absurd h (by decide))⟩
theorem fkX8_202 : xfldok RX8 202 (1, 6, 4, 5) := ⟨fun _ => ⟨RX3, TX3, 11, rfl, by decide, xb_m1 57 (by decide +kernel) rfl, (fun h => absurd h (by decide)), (fun h => absurd h (by decide)), (fun _ => ⟨rfl, xrf_off (by decide) (by decide +kernel)⟩), by decide⟩, (fun h => absurd h (by decide)), (fun h => absurd h (by decide))⟩
theorem fkX8_211 : xfldok RX8 211 (1, 8, 4, 6) := ⟨fun _ => ⟨RX3, TX3, 11, rfl, by decide, xb_m1 63 (by decide +kernel) rfl, (fun h => absurd h (by decide)), (fun h => absurd h (by decide)), (fun _ => ⟨rfl, xrf_off (by decide) (by decide +kernel)⟩), by decide⟩, (fun h => absurd h (by decide)), (fun h => absurd h (by decide))⟩
theorem fkX8_275 : xfldok RX8 275 (1, 0, 0, 0) := ⟨fun _ => ⟨RX3, TX3, 11, rfl, by decide, xb_m1 36 (by decide +kernel) rfl, (fun h => absurd h (by decide)), (fun _ => ⟨rfl, rfl⟩), (fun h => absurd h (by decide)), by decide⟩, (fun h => absurd h (by decide)), (fun h => absurd h (by decide))⟩
theorem fkX8_300 : xfldok RX8 300 (0, 0, 0, 0) := ⟨fun _ => ⟨RX1, TX1, 5, rfl, by decide, xb_m1 133 (by decide +kernel) rfl, (fun h => absurd h (by decide)), (fun _ => ⟨rfl, rfl⟩), (fun h => absurd h (by decide)), by decide⟩, (fun h => absurd h (by decide)), (fun h => absurd h (by decide))⟩
theorem fkX8_303 : xfldok RX8 303 (0, 1, 0, 0) := ⟨fun _ => ⟨RX1, TX1, 5, rfl, by decide, xb_m1 135 (by decide +kernel) rfl, (fun h => absurd h (by decide)), (fun _ => ⟨rfl, rfl⟩), (fun h => absurd h (by decide)), by decide⟩, (fun h => absurd h (by decide)), (fun h => absurd h (by decide))⟩
theorem fkX8_334 : xfldok RX8 334 (5, 1, 0, 0) := ⟨fun _ => ⟨RX7, TX7, 2, rfl, by decide, xb_m1 159 (by decide +kernel) rfl, (fun h => absurd h (by decide)), (fun _ => ⟨rfl, rfl⟩), (fun h => absurd h (by decide)), by decide⟩, (fun h => absurd h (by decide)), (fun h => absurd h (by decide))⟩
theorem fkX8_340 : xfldok RX8 340 (5, 0, 1, 0) := ⟨fun _ => ⟨RX7, TX7, 2, rfl, by decide, xb_m1 157 (by decide +kernel) rfl, (fun h => absurd h (by decide)), (fun _ => ⟨rfl, rfl⟩), (fun h => absurd h (by decide)), by decide⟩, (fun h => absurd h (by decide)), (fun h => absurd h (by decide))⟩
theorem fkX8_361 : xfldok RX8 361 (1, 9, 0, 0) := ⟨fun _ => ⟨RX3, TX3, 11, rfl, by decide, xb_m1 65 (by decide +kernel) rfl, (fun h => absurd h (by decide)), (fun _ => ⟨rfl, rfl⟩), (fun h => absurd h (by decide)), by decide⟩, (fun h => absurd h (by decide)), (fun h => absurd h (by decide))⟩
theorem fkX8_370 : xfldok RX8 370 (1, 10, 0, 0) := ⟨fun _ => ⟨RX3, TX3, 11, rfl, by decide, xb_m1 67 (by decide +kernel) rfl, (fun h => absurd h (by decide)), (fun _ => ⟨rfl, rfl⟩), (fun h => absurd h (by decide)), by decide⟩, (fun h => absurd h (by decide)), (fun h => absurd h (by decide))⟩
theorem fkX8_373 : xfldok RX8 373 (6, 3, 3, 0) := ⟨fun _ => ⟨RX8, TX8, 10, rfl, by decide, xb_m1 216 (by decide +kernel) rfl, (fun h => absurd h (by decide)), (fun _ => ⟨rfl, rfl⟩), (fun h => absurd h (by decide)), by decide⟩, (fun h => absurd h (by decide)), (fun h => absurd h (by decide))⟩
theorem fkX8_377 : xfldok RX8 377 (1, 7, 0, 0) := ⟨fun _ => ⟨RX3, TX3, 11, rfl, by decide, xb_m1 60 (by decide +kernel) rfl, (fun h => absurd h (by decide)), (fun _ => ⟨rfl, rfl⟩), (fun h => absurd h (by decide)), by decide⟩, (fun h => absurd h (by decide)), (fun h => absurd h (by decide))⟩
theorem fkX8_386 : xfldok RX8 386 (4, 1, 0, 0) := ⟨fun _ => ⟨RX6, TX6, 6, rfl, by decide, xb_m1 173 (by decide +kernel) rfl, (fun h => absurd h (by decide)), (fun _ => ⟨rfl, rfl⟩), (fun h => absurd h (by decide)), by decide⟩, (fun h => absurd h (by decide)), (fun h => absurd h (by decide))⟩
theorem fkX8_398 : xfldok RX8 398 (3, 1, 0, 0) := ⟨fun _ => ⟨RX5, TX5, 3, rfl, by decide, xb_m1 202 (by decide +kernel) rfl, (fun h => absurd h (by decide)), (fun _ => ⟨rfl, rfl⟩), (fun h => absurd h (by decide)), by decide⟩, (fun h => absurd h (by decide)), (fun h => absurd h (by decide))⟩
theorem fokX8 : ∀ n, xfldok RX8 n (xlkF flX8 n) := xlkF_ok (List.forall_mem_cons.mpr ⟨fkX8_10, List.forall_mem_cons.mpr ⟨fkX8_16, List.forall_mem_cons.mpr ⟨fkX8_19, List.forall_mem_cons.mpr ⟨fkX8_27, List.forall_mem_cons.mpr ⟨fkX8_34, List.forall_mem_cons.mpr ⟨fkX8_41, List.forall_mem_cons.mpr ⟨fkX8_48, List.forall_mem_cons.mpr ⟨fkX8_54, List.forall_mem_cons.mpr ⟨fkX8_58, List.forall_mem_cons.mpr ⟨fkX8_93, List.forall_mem_cons.mpr ⟨fkX8_103, List.forall_mem_cons.mpr ⟨fkX8_122, List.forall_mem_cons.mpr ⟨fkX8_128, List.forall_mem_cons.mpr ⟨fkX8_163, List.forall_mem_cons.mpr ⟨fkX8_166, List.forall_mem_cons.mpr ⟨fkX8_175, List.forall_mem_cons.mpr ⟨fkX8_199, List.forall_mem_cons.mpr ⟨fkX8_202, List.forall_mem_cons.mpr ⟨fkX8_211, List.forall_mem_cons.mpr ⟨fkX8_275, List.forall_mem_cons.mpr ⟨fkX8_300, List.forall_mem_cons.mpr ⟨fkX8_303, List.forall_mem_cons.mpr ⟨fkX8_334, List.forall_mem_cons.mpr ⟨fkX8_340, List.forall_mem_cons.mpr ⟨fkX8_361, List.forall_mem_cons.mpr ⟨fkX8_370, List.forall_mem_cons.mpr ⟨fkX8_373, List.forall_mem_cons.mpr ⟨fkX8_377, List.forall_mem_cons.mpr ⟨fkX8_386, List.forall_mem_cons.mpr ⟨fkX8_398, fun _ h => absurd h List.not_mem_nil⟩⟩⟩⟩⟩⟩⟩⟩⟩⟩⟩⟩⟩⟩⟩⟩⟩⟩⟩⟩⟩⟩⟩⟩⟩⟩⟩⟩⟩⟩)
theorem ckX8_214 : xcstok RX8 214 (.int (-100000000)) := ⟨fun _ => Or.inr (Or.inl ⟨_, rfl, xb_m3 90 (by decide +kernel) rfl⟩), (fun k h => absurd h (by omega))⟩
theorem cokX8 : ∀ n, xcstok RX8 n (xlkV csX8 n) := xlkV_ok (List.forall_mem_cons.mpr ⟨ckX8_214, fun _ h => absurd h List.not_mem_nil⟩)
theorem fkX9_7 : xfldok RX9 7 (7, 1, 4, 1) := ⟨fun _ => ⟨RX9, TX9, 33, rfl, by decide, xb_m5 45 (by decide +kernel) rfl, (fun h => absurd h (by decide)), (fun h => absurd h (by decide)), (fun _ => ⟨rfl, xrf_off (by decide) (by decide +kernel)⟩), by decide⟩, (fun h => absurd h (by decide)), (fun h => absurd h (by decide))⟩
theorem fkX9_13 : xfldok RX9 13 (7, 2, 4, 2) := ⟨fun _ => ⟨RX9, TX9, 33, rfl, by decide, xb_m5 46 (by decide +kernel) rfl, (fun h => absurd h (by decide)), (fun h => absurd h (by decide)), (fun _ => ⟨rfl, xrf_off (by decide) (by decide +kernel)⟩), by decide⟩, (fun h => absurd h (by decide)), (fun h => absurd h (by decide))⟩
theorem fkX9_16 : xfldok RX9 16 (7, 3, 4, 3) := ⟨fun _ => ⟨RX9, TX9, 33, rfl, by decide, xb_m5 47 (by decide +kernel) rfl, (fun h => absurd h (by decide)), (fun h => absurd h (by decide)), (fun _ => ⟨rfl, xrf_off (by decide) (by decide +kernel)⟩), by decide⟩, (fun h => absurd h (by decide)), (fun h => absurd h (by decide))⟩
theorem fkX9_19 : xfldok RX9 19 (7, 4, 4, 4) := ⟨fun _ => ⟨RX9, TX9, 33, rfl, by decide, xb_m5 48 (by decide +kernel) rfl, (fun h => absurd h (by decide)), (fun h => absurd h (by decide)), (fun _ => ⟨rfl, xrf_off (by decide) (by decide +kernel)⟩), by decide⟩, (fun h => absurd h (by decide)), (fun h => absurd h (by decide))⟩
theorem fkX9_22 : xfldok RX9 22 (7, 5, 4, 5) := ⟨fun _ => ⟨RX9, TX9, 33, rfl, by decide, xb_m5 49 (by decide +kernel) rfl, (fun h => absurd h (by decide)), (fun h => absurd h (by decide)), (fun _ => ⟨rfl, xrf_off (by decide) (by decide +kernel)⟩), by decide⟩, (fun h => absurd h (by decide)), (fun h => absurd h (by decide))⟩
theorem fkX9_25 : xfldok RX9 25 (7, 6, 4, 6) := ⟨fun _ => ⟨RX9, TX9, 33, rfl, by decide, xb_m5 50 (by decide +kernel) rfl, (fun h => absurd h (by decide)), (fun h => absurd h (by decide)), (fun _ => ⟨rfl, xrf_off (by decide) (by decide +kernel)⟩), by decide⟩, (fun h => absurd h (by decide)), (fun h => absurd h (by decide))⟩
theorem fkX9_29 : xfldok RX9 29 (7, 8, 4, 7) := ⟨fun _ => ⟨RX9, TX9, 33, rfl, by decide, xb_m5 52 (by decide +kernel) rfl, (fun h => absurd h (by decide)), (fun h => absurd h (by decide)), (fun _ => ⟨rfl, xrf_off (by decide) (by decide +kernel)⟩), by decide⟩, (fun h => absurd h (by decide)), (fun h => absurd h (by decide))⟩
theorem fkX9_32 : xfldok RX9 32 (7, 12, 4, 8) := ⟨fun _ => ⟨RX9, TX9, 33, rfl, by decide, xb_m5 56 (by decide +kernel) rfl, (fun h => absurd h (by decide)), (fun h => absurd h (by decide)), (fun _ => ⟨rfl, xrf_off (by decide) (by decide +kernel)⟩), by decide⟩, (fun h => absurd h (by decide)), (fun h => absurd h (by decide))⟩
theorem fkX9_35 : xfldok RX9 35 (7, 17, 4, 9) := ⟨fun _ => ⟨RX9, TX9, 33, rfl, by decide, xb_m5 61 (by decide +kernel) rfl, (fun h => absurd h (by decide)), (fun h => absurd h (by decide)), (fun _ => ⟨rfl, xrf_off (by decide) (by decide +kernel)⟩), by decide⟩, (fun h => absurd h (by decide)), (fun h => absurd h (by decide))⟩
theorem fkX9_38 : xfldok RX9 38 (7, 18, 4, 10) := ⟨fun _ => ⟨RX9, TX9, 33, rfl, by decide, xb_m5 62 (by decide +kernel) rfl, (fun h => absurd h (by decide)), (fun h => absurd h (by decide)), (fun _ => ⟨rfl, xrf_off (by decide) (by decide +kernel)⟩), by decide⟩, (fun h => absurd h (by decide)), (fun h => absurd h (by decide))⟩
theorem fkX9_41 : xfldok RX9 41 (7, 19, 4, 11) := ⟨fun _ => ⟨RX9, TX9, 33, rfl, by decide, xb_m5 63 (by decide +kernel) rfl, (fun h => absurd h (by decide)), (fun h => absurd h (by decide)), (fun _ => ⟨rfl, xrf_off (by decide) (by decide +kernel)⟩), by decide⟩, (fun h => absurd h (by decide)), (fun h => absurd h (by decide))⟩
theorem fkX9_45 : xfldok RX9 45 (7, 20, 4, 12) := ⟨fun _ => ⟨RX9, TX9, 33, rfl, by decide, xb_m5 64 (by decide +kernel) rfl, (fun h => absurd h (by decide)), (fun h => absurd h (by decide)), (fun _ => ⟨rfl, xrf_off (by decide) (by decide +kernel)⟩), by decide⟩, (fun h => absurd h (by decide)), (fun h => absurd h (by decide))⟩
theorem fkX9_48 : xfldok RX9 48 (7, 22, 4, 13) := ⟨fun _ => ⟨RX9, TX9, 33, rfl, by decide, xb_m5 66 (by decide +kernel) rfl, (fun h => absurd h (by decide)), (fun h => absurd h (by decide)), (fun _ => ⟨rfl, xrf_off (by decide) (by decide +kernel)⟩), by decide⟩, (fun h => absurd h (by decide)), (fun h => absurd h (by decide))⟩
theorem fkX9_51 : xfldok RX9 51 (7, 23, 4, 14) := ⟨fun _ => ⟨RX9, TX9, 33, rfl, by decide, xb_m5 67 (by decide +kernel) rfl, (fun h => absurd h (by decide)), (fun h => absurd h (by decide)), (fun _ => ⟨rfl, xrf_off (by decide) (by decide +kernel)⟩), by decide⟩, (fun h => absurd h (by decide)), (fun h => absurd h (by decide))⟩
theorem fkX9_54 : xfldok RX9 54 (7, 30, 4, 15) := ⟨fun _ => ⟨RX9, TX9, 33, rfl, by decide, xb_m5 74 (by decide +kernel) rfl, (fun h => absurd h (by decide)), (fun h => absurd h (by decide)), (fun _ => ⟨rfl, xrf_off (by decide) (by decide +kernel)⟩), by decide⟩, (fun h => absurd h (by decide)), (fun h => absurd h (by decide))⟩
theorem fkX9_57 : xfldok RX9 57 (7, 31, 4, 16) := ⟨fun _ => ⟨RX9, TX9, 33, rfl, by decide, xb_m5 75 (by decide +kernel) rfl, (fun h => absurd h (by decide)), (fun h => absurd h (by decide)), (fun _ => ⟨rfl, xrf_off (by decide) (by decide +kernel)⟩), by decide⟩, (fun h => absurd h (by decide)), (fun h => absurd h (by decide))⟩
theorem fkX9_60 : xfldok RX9 60 (7, 32, 4, 17) := ⟨fun _ => ⟨RX9, TX9, 33, rfl, by decide, xb_m5 76 (by decide +kernel) rfl, (fun h => absurd h (by decide)), (fun h => absurd h (by decide)), (fun _ => ⟨rfl, xrf_off (by decide) (by decide +kernel)⟩), by decide⟩, (fun h => absurd h (by decide)), (fun h => absurd h (by decide))⟩
theorem fkX9_63 : xfldok RX9 63 (7, 10, 0, 0) := ⟨fun _ => ⟨RX9, TX9, 33, rfl, by decide, xb_m5 54 (by decide +kernel) rfl, (fun h => absurd h (by decide)), (fun _ => ⟨rfl, rfl⟩), (fun h => absurd h (by decide)), by decide⟩, (fun h => absurd h (by decide)), (fun h => absurd h (by decide))⟩
theorem fkX9_72 : xfldok RX9 72 (7, 0, 0, 0) := ⟨fun _ => ⟨RX9, TX9, 33, rfl, by decide, xb_m5 44 (by decide +kernel) rfl, (fun h => absurd h (by decide)), (fun _ => ⟨rfl, rfl⟩), (fun h => absurd h (by decide)), by decide⟩, (fun h => absurd h (by decide)), (fun h => absurd h (by decide))⟩
theorem fkX9_79 : xfldok RX9 79 (7, 7, 0, 0) := ⟨fun _ => ⟨RX9, TX9, 33, rfl, by decide, xb_m5 51 (by decide +kernel) rfl, (fun h => absurd h (by decide)), (fun _ => ⟨rfl, rfl⟩), (fun h => absurd h (by decide)), by decide⟩, (fun h => absurd h (by decide)), (fun h => absurd h (by decide))⟩
theorem fkX9_129 : xfldok RX9 129 (7, 11, 0, 0) := ⟨fun _ => ⟨RX9, TX9, 33, rfl, by decide, xb_m5 55 (by decide +kernel) rfl, (fun h => absurd h (by decide)), (fun _ => ⟨rfl, rfl⟩), (fun h => absurd h (by decide)), by decide⟩, (fun h => absurd h (by decide)), (fun h => absurd h (by decide))⟩
theorem fkX9_132 : xfldok RX9 132 (7, 14, 0, 0) := ⟨fun _ => ⟨RX9, TX9, 33, rfl, by decide, xb_m5 58 (by decide +kernel) rfl, (fun h => absurd h (by decide)), (fun _ => ⟨rfl, rfl⟩), (fun h => absurd h (by decide)), by decide⟩, (fun h => absurd h (by decide)), (fun h => absurd h (by decide))⟩
theorem fkX9_135 : xfldok RX9 135 (7, 13, 0, 0) := ⟨fun _ => ⟨RX9, TX9, 33, rfl, by decide, xb_m5 57 (by decide +kernel) rfl, (fun h => absurd h (by decide)), (fun _ => ⟨rfl, rfl⟩), (fun h => absurd h (by decide)), by decide⟩, (fun h => absurd h (by decide)), (fun h => absurd h (by decide))⟩
theorem fkX9_138 : xfldok RX9 138 (7, 15, 0, 0) := ⟨fun _ => ⟨RX9, TX9, 33, rfl, by decide, xb_m5 59 (by decide +kernel) rfl, (fun h => absurd h (by decide)), (fun _ => ⟨rfl, rfl⟩), (fun h => absurd h (by decide)), by decide⟩, (fun h => absurd h (by decide)), (fun h => absurd h (by decide))⟩
theorem fkX9_147 : xfldok RX9 147 (7, 16, 0, 0) := ⟨fun _ => ⟨RX9, TX9, 33, rfl, by decide, xb_m5 60 (by decide +kernel) rfl, (fun h => absurd h (by decide)), (fun _ => ⟨rfl, rfl⟩), (fun h => absurd h (by decide)), by decide⟩, (fun h => absurd h (by decide)), (fun h => absurd h (by decide))⟩
theorem fkX9_203 : xfldok RX9 203 (7, 24, 0, 0) := ⟨fun _ => ⟨RX9, TX9, 33, rfl, by decide, xb_m5 68 (by decide +kernel) rfl, (fun h => absurd h (by decide)), (fun _ => ⟨rfl, rfl⟩), (fun h => absurd h (by decide)), by decide⟩, (fun h => absurd h (by decide)), (fun h => absurd h (by decide))⟩
theorem fkX9_205 : xfldok RX9 205 (7, 25, 0, 0) := ⟨fun _ => ⟨RX9, TX9, 33, rfl, by decide, xb_m5 69 (by decide +kernel) rfl, (fun h => absurd h (by decide)), (fun _ => ⟨rfl, rfl⟩), (fun h => absurd h (by decide)), by decide⟩, (fun h => absurd h (by decide)), (fun h => absurd h (by decide))⟩
theorem fkX9_208 : xfldok RX9 208 (7, 26, 3, 0) := ⟨fun _ => ⟨RX9, TX9, 33, rfl, by decide, xb_m5 70 (by decide +kernel) rfl, (fun h => absurd h (by decide)), (fun _ => ⟨rfl, rfl⟩), (fun h => absurd h (by decide)), by decide⟩, (fun h => absurd h (by decide)), (fun h => absurd h (by decide))⟩
theorem fkX9_212 : xfldok RX9 212 (7, 27, 0, 0) := ⟨fun _ => ⟨RX9, TX9, 33, rfl, by decide, xb_m5 71 (by decide +kernel) rfl, (fun h => absurd h (by decide)), (fun _ => ⟨rfl, rfl⟩), (fun h => absurd h (by decide)), by decide⟩, (fun h => absurd h (by decide)), (fun h => absurd h (by decide))⟩
theorem fkX9_215 : xfldok RX9 215 (7, 28, 0, 0) := ⟨fun _ => ⟨RX9, TX9, 33, rfl, by decide, xb_m5 72 (by decide +kernel) rfl, (fun h => absurd h (by decide)), (fun _ => ⟨rfl, rfl⟩), (fun h => absurd h (by decide)), by decide⟩, (fun h => absurd h (by decide)), (fun h => absurd h (by decide))⟩
theorem fkX9_218 : xfldok RX9 218 (7, 29, 0, 0) := ⟨fun _ => ⟨RX9, TX9, 33, rfl, by decide, xb_m5 73 (by decide +kernel) rfl, (fun h => absurd h (by decide)), (fun _ => ⟨rfl, rfl⟩), (fun h => absurd h (by decide)), by decide⟩, (fun h => absurd h (by decide)), (fun h => absurd h (by decide))⟩
theorem fkX9_292 : xfldok RX9 292 (7, 9, 0, 0) := ⟨fun _ => ⟨RX9, TX9, 33, rfl, by decide, xb_m5 53 (by decide +kernel) rfl, (fun h => absurd h (by decide)), (fun _ => ⟨rfl, rfl⟩), (fun h => absurd h (by decide)), by decide⟩, (fun h => absurd h (by decide)), (fun h => absurd h (by decide))⟩
theorem fkX9_312 : xfldok RX9 312 (7, 21, 3, 0) := ⟨fun _ => ⟨RX9, TX9, 33, rfl, by decide, xb_m5 65 (by decide +kernel) rfl, (fun h => absurd h (by decide)), (fun _ => ⟨rfl, rfl⟩), (fun h => absurd h (by decide)), by decide⟩, (fun h => absurd h (by decide)), (fun h => absurd h (by decide))⟩
theorem fokX9 : ∀ n, xfldok RX9 n (xlkF flX9 n) := xlkF_ok (List.forall_mem_cons.mpr ⟨fkX9_7, List.forall_mem_cons.mpr ⟨fkX9_13, List.forall_mem_cons.mpr ⟨fkX9_16, List.forall_mem_cons.mpr ⟨fkX9_19, List.forall_mem_cons.mpr ⟨fkX9_22, List.forall_mem_cons.mpr ⟨fkX9_25, List.forall_mem_cons.mpr ⟨fkX9_29, List.forall_mem_cons.mpr ⟨fkX9_32, List.forall_mem_cons.mpr ⟨fkX9_35, List.forall_mem_cons.mpr ⟨fkX9_38, List.forall_mem_cons.mpr ⟨fkX9_41, List.forall_mem_cons.mpr ⟨fkX9_45, List.forall_mem_cons.mpr ⟨fkX9_48, List.forall_mem_cons.mpr ⟨fkX9_51, List.forall_mem_cons.mpr ⟨fkX9_54, List.forall_mem_cons.mpr ⟨fkX9_57, List.forall_mem_cons.mpr ⟨fkX9_60, List.forall_mem_cons.mpr ⟨fkX9_63, List.forall_mem_cons.mpr ⟨fkX9_72, List.forall_mem_cons.mpr ⟨fkX9_79, List.forall_mem_cons.mpr ⟨fkX9_129, List.forall_mem_cons.mpr ⟨fkX9_132, List.forall_mem_cons.mpr ⟨fkX9_135, List.forall_mem_cons.mpr ⟨fkX9_138, List.forall_mem_cons.mpr ⟨fkX9_147, List.forall_mem_cons.mpr ⟨fkX9_203, List.forall_mem_cons.mpr ⟨fkX9_205, List.forall_mem_cons.mpr ⟨fkX9_208, List.forall_mem_cons.mpr ⟨fkX9_212, List.forall_mem_cons.mpr ⟨fkX9_215, List.forall_mem_cons.mpr ⟨fkX9_218, List.forall_mem_cons.mpr ⟨fkX9_292, List.forall_mem_cons.mpr ⟨fkX9_312, fun _ h => absurd h List.not_mem_nil⟩⟩⟩⟩⟩⟩⟩⟩⟩⟩⟩⟩⟩⟩⟩⟩⟩⟩⟩⟩⟩⟩⟩⟩⟩⟩⟩⟩⟩⟩⟩⟩⟩)
theorem ckX9_67 : xcstok RX9 67 (.int (-100000000)) := ⟨fun _ => Or.inr (Or.inl ⟨_, rfl, xb_m6 79 (by decide +kernel) rfl⟩), (fun k h => absurd h (by omega))⟩
theorem ckX9_166 : xcstok RX9 166 (.ref 210) := ⟨fun _ => Or.inr (Or.inr (Or.inr ⟨0, by decide, rfl, by decide +kernel⟩)), (fun k h => absurd h (by omega))⟩
theorem ckX9_172 : xcstok RX9 172 (.ref 211) := ⟨fun _ => Or.inr (Or.inr (Or.inr ⟨1, by decide, rfl, by decide +kernel⟩)), (fun k h => absurd h (by omega))⟩
theorem ckX9_178 : xcstok RX9 178 (.ref 212) := ⟨fun _ => Or.inr (Or.inr (Or.inr ⟨2, by decide, rfl, by decide +kernel⟩)), (fun k h => absurd h (by omega))⟩
theorem ckX9_180 : xcstok RX9 180 (.ref 214) := ⟨fun _ => Or.inr (Or.inr (Or.inr ⟨4, by decide, rfl, by decide +kernel⟩)), (fun k h => absurd h (by omega))⟩
theorem ckX9_182 : xcstok RX9 182 (.ref 213) := ⟨fun _ => Or.inr (Or.inr (Or.inr ⟨3, by decide, rfl, by decide +kernel⟩)), (fun k h => absurd h (by omega))⟩
theorem ckX9_183 : xcstok RX9 183 (.ref 215) := ⟨fun _ => Or.inr (Or.inr (Or.inr ⟨5, by decide, rfl, by decide +kernel⟩)), (fun k h => absurd h (by omega))⟩
theorem ckX9_184 : xcstok RX9 184 (.ref 216) := ⟨fun _ => Or.inr (Or.inr (Or.inr ⟨6, by decide, rfl, by decide +kernel⟩)), (fun k h => absurd h (by omega))⟩
theorem ckX9_304 : xcstok RX9 304 (.int 1000000) := ⟨fun _ => Or.inr (Or.inl ⟨_, rfl, xb_m7 21 (by decide +kernel) rfl⟩), (fun k h => absurd h (by omega))⟩
theorem ckX9_308 : xcstok RX9 308 (.int 1103515245) := ⟨fun _ => Or.inr (Or.inl ⟨_, rfl, xb_m7 31 (by decide +kernel) rfl⟩), (fun k h => absurd h (by omega))⟩
theorem cokX9 : ∀ n, xcstok RX9 n (xlkV csX9 n) := xlkV_ok (List.forall_mem_cons.mpr ⟨ckX9_67, List.forall_mem_cons.mpr ⟨ckX9_166, List.forall_mem_cons.mpr ⟨ckX9_172, List.forall_mem_cons.mpr ⟨ckX9_178, List.forall_mem_cons.mpr ⟨ckX9_180, List.forall_mem_cons.mpr ⟨ckX9_182, List.forall_mem_cons.mpr ⟨ckX9_183, List.forall_mem_cons.mpr ⟨ckX9_184, List.forall_mem_cons.mpr ⟨ckX9_304, List.forall_mem_cons.mpr ⟨ckX9_308, fun _ h => absurd h List.not_mem_nil⟩⟩⟩⟩⟩⟩⟩⟩⟩⟩)
theorem ymX0_isKind : yX0_isKind.cls ≠ "java/lang/invoke/MethodHandle" ∧ yX0_isKind.cls ≠ "java/lang/invoke/VarHandle" ∧ (parseMethodDescriptor yX0_isKind.desc).map (fun d => d.parameters.length) = some 1 := ⟨by decide +kernel, by decide +kernel, by decide +kernel⟩
theorem plX0_isKind : plainName yX0_isKind.cls = true := by decide +kernel
theorem ymX0_isUnder : yX0_isUnder.cls ≠ "java/lang/invoke/MethodHandle" ∧ yX0_isUnder.cls ≠ "java/lang/invoke/VarHandle" ∧ (parseMethodDescriptor yX0_isUnder.desc).map (fun d => d.parameters.length) = some 2 := ⟨by decide +kernel, by decide +kernel, by decide +kernel⟩
theorem plX0_isUnder : plainName yX0_isUnder.cls = true := by decide +kernel
theorem ymX0_next : yX0_next.cls ≠ "java/lang/invoke/MethodHandle" ∧ yX0_next.cls ≠ "java/lang/invoke/VarHandle" ∧ (parseMethodDescriptor yX0_next.desc).map (fun d => d.parameters.length) = some 2 := ⟨by decide +kernel, by decide +kernel, by decide +kernel⟩
theorem plX0_next : plainName yX0_next.cls = true := by decide +kernel
theorem ymX0_wants : yX0_wants.cls ≠ "java/lang/invoke/MethodHandle" ∧ yX0_wants.cls ≠ "java/lang/invoke/VarHandle" ∧ (parseMethodDescriptor yX0_wants.desc).map (fun d => d.parameters.length) = some 1 := ⟨by decide +kernel, by decide +kernel, by decide +kernel⟩
theorem plX0_wants : plainName yX0_wants.cls = true := by decide +kernel
theorem ymX0_mayEnd : yX0_mayEnd.cls ≠ "java/lang/invoke/MethodHandle" ∧ yX0_mayEnd.cls ≠ "java/lang/invoke/VarHandle" ∧ (parseMethodDescriptor yX0_mayEnd.desc).map (fun d => d.parameters.length) = some 1 := ⟨by decide +kernel, by decide +kernel, by decide +kernel⟩
theorem plX0_mayEnd : plainName yX0_mayEnd.cls = true := by decide +kernel
theorem ymX4_upTo : yX4_upTo.cls ≠ "java/lang/invoke/MethodHandle" ∧ yX4_upTo.cls ≠ "java/lang/invoke/VarHandle" ∧ (parseMethodDescriptor yX4_upTo.desc).map (fun d => d.parameters.length) = some 1 := ⟨by decide +kernel, by decide +kernel, by decide +kernel⟩
theorem plX4_upTo : plainName yX4_upTo.cls = true := by decide +kernel
theorem ymX4_at : yX4_at.cls ≠ "java/lang/invoke/MethodHandle" ∧ yX4_at.cls ≠ "java/lang/invoke/VarHandle" ∧ (parseMethodDescriptor yX4_at.desc).map (fun d => d.parameters.length) = some 1 := ⟨by decide +kernel, by decide +kernel, by decide +kernel⟩
theorem plX4_at : plainName yX4_at.cls = true := by decide +kernel
theorem ymX4_meaningOf : yX4_meaningOf.cls ≠ "java/lang/invoke/MethodHandle" ∧ yX4_meaningOf.cls ≠ "java/lang/invoke/VarHandle" ∧ (parseMethodDescriptor yX4_meaningOf.desc).map (fun d => d.parameters.length) = some 1 := ⟨by decide +kernel, by decide +kernel, by decide +kernel⟩
theorem plX4_meaningOf : plainName yX4_meaningOf.cls = true := by decide +kernel
theorem ymX4_membersOf : yX4_membersOf.cls ≠ "java/lang/invoke/MethodHandle" ∧ yX4_membersOf.cls ≠ "java/lang/invoke/VarHandle" ∧ (parseMethodDescriptor yX4_membersOf.desc).map (fun d => d.parameters.length) = some 1 := ⟨by decide +kernel, by decide +kernel, by decide +kernel⟩
theorem plX4_membersOf : plainName yX4_membersOf.cls = true := by decide +kernel
theorem ymX4_canMeanWithout : yX4_canMeanWithout.cls ≠ "java/lang/invoke/MethodHandle" ∧ yX4_canMeanWithout.cls ≠ "java/lang/invoke/VarHandle" ∧ (parseMethodDescriptor yX4_canMeanWithout.desc).map (fun d => d.parameters.length) = some 3 := ⟨by decide +kernel, by decide +kernel, by decide +kernel⟩
theorem plX4_canMeanWithout : plainName yX4_canMeanWithout.cls = true := by decide +kernel
theorem ymX1_metWithout : yX1_metWithout.cls ≠ "java/lang/invoke/MethodHandle" ∧ yX1_metWithout.cls ≠ "java/lang/invoke/VarHandle" ∧ (parseMethodDescriptor yX1_metWithout.desc).map (fun d => d.parameters.length) = some 3 := ⟨by decide +kernel, by decide +kernel, by decide +kernel⟩
theorem plX1_metWithout : plainName yX1_metWithout.cls = true := by decide +kernel
theorem ymX1_missed : yX1_missed.cls ≠ "java/lang/invoke/MethodHandle" ∧ yX1_missed.cls ≠ "java/lang/invoke/VarHandle" ∧ (parseMethodDescriptor yX1_missed.desc).map (fun d => d.parameters.length) = some 3 := ⟨by decide +kernel, by decide +kernel, by decide +kernel⟩
theorem plX1_missed : plainName yX1_missed.cls = true := by decide +kernel
theorem ymX3_isLiving : yX3_isLiving.cls ≠ "java/lang/invoke/MethodHandle" ∧ yX3_isLiving.cls ≠ "java/lang/invoke/VarHandle" ∧ (parseMethodDescriptor yX3_isLiving.desc).map (fun d => d.parameters.length) = some 1 := ⟨by decide +kernel, by decide +kernel, by decide +kernel⟩
theorem plX3_isLiving : plainName yX3_isLiving.cls = true := by decide +kernel
theorem ymJ6_bitCount_0f7a4 : yJ6_bitCount_0f7a4.cls ≠ "java/lang/invoke/MethodHandle" ∧ yJ6_bitCount_0f7a4.cls ≠ "java/lang/invoke/VarHandle" ∧ (parseMethodDescriptor yJ6_bitCount_0f7a4.desc).map (fun d => d.parameters.length) = some 1 := ⟨by decide +kernel, by decide +kernel, by decide +kernel⟩
theorem plJ6_bitCount_0f7a4 : plainName yJ6_bitCount_0f7a4.cls = true := by decide +kernel
theorem ymX1_mostMissed : yX1_mostMissed.cls ≠ "java/lang/invoke/MethodHandle" ∧ yX1_mostMissed.cls ≠ "java/lang/invoke/VarHandle" ∧ (parseMethodDescriptor yX1_mostMissed.desc).map (fun d => d.parameters.length) = some 2 := ⟨by decide +kernel, by decide +kernel, by decide +kernel⟩
theorem plX1_mostMissed : plainName yX1_mostMissed.cls = true := by decide +kernel
theorem ymX1_fewestToMiss : yX1_fewestToMiss.cls ≠ "java/lang/invoke/MethodHandle" ∧ yX1_fewestToMiss.cls ≠ "java/lang/invoke/VarHandle" ∧ (parseMethodDescriptor yX1_fewestToMiss.desc).map (fun d => d.parameters.length) = some 3 := ⟨by decide +kernel, by decide +kernel, by decide +kernel⟩
theorem plX1_fewestToMiss : plainName yX1_fewestToMiss.cls = true := by decide +kernel
theorem ymX3_takeFrom : yX3_takeFrom.cls ≠ "java/lang/invoke/MethodHandle" ∧ yX3_takeFrom.cls ≠ "java/lang/invoke/VarHandle" ∧ (parseMethodDescriptor yX3_takeFrom.desc).map (fun d => d.parameters.length) = some 1 := ⟨by decide +kernel, by decide +kernel, by decide +kernel⟩
theorem plX3_takeFrom : plainName yX3_takeFrom.cls = true := by decide +kernel
theorem ymX3_hasRoom : yX3_hasRoom.cls ≠ "java/lang/invoke/MethodHandle" ∧ yX3_hasRoom.cls ≠ "java/lang/invoke/VarHandle" ∧ (parseMethodDescriptor yX3_hasRoom.desc).map (fun d => d.parameters.length) = some 0 := ⟨by decide +kernel, by decide +kernel, by decide +kernel⟩
theorem plX3_hasRoom : plainName yX3_hasRoom.cls = true := by decide +kernel
theorem ymX3_addBrother : yX3_addBrother.cls ≠ "java/lang/invoke/MethodHandle" ∧ yX3_addBrother.cls ≠ "java/lang/invoke/VarHandle" ∧ (parseMethodDescriptor yX3_addBrother.desc).map (fun d => d.parameters.length) = some 3 := ⟨by decide +kernel, by decide +kernel, by decide +kernel⟩
theorem plX3_addBrother : plainName yX3_addBrother.cls = true := by decide +kernel
theorem ymX3_has : yX3_has.cls ≠ "java/lang/invoke/MethodHandle" ∧ yX3_has.cls ≠ "java/lang/invoke/VarHandle" ∧ (parseMethodDescriptor yX3_has.desc).map (fun d => d.parameters.length) = some 1 := ⟨by decide +kernel, by decide +kernel, by decide +kernel⟩
theorem plX3_has : plainName yX3_has.cls = true := by decide +kernel
theorem ymX4_wordOf : yX4_wordOf.cls ≠ "java/lang/invoke/MethodHandle" ∧ yX4_wordOf.cls ≠ "java/lang/invoke/VarHandle" ∧ (parseMethodDescriptor yX4_wordOf.desc).map (fun d => d.parameters.length) = some 2 := ⟨by decide +kernel, by decide +kernel, by decide +kernel⟩
theorem plX4_wordOf : plainName yX4_wordOf.cls = true := by decide +kernel
theorem ymX4_isMadeOf : yX4_isMadeOf.cls ≠ "java/lang/invoke/MethodHandle" ∧ yX4_isMadeOf.cls ≠ "java/lang/invoke/VarHandle" ∧ (parseMethodDescriptor yX4_isMadeOf.desc).map (fun d => d.parameters.length) = some 1 := ⟨by decide +kernel, by decide +kernel, by decide +kernel⟩
theorem plX4_isMadeOf : plainName yX4_isMadeOf.cls = true := by decide +kernel
theorem ymX4_add : yX4_add.cls ≠ "java/lang/invoke/MethodHandle" ∧ yX4_add.cls ≠ "java/lang/invoke/VarHandle" ∧ (parseMethodDescriptor yX4_add.desc).map (fun d => d.parameters.length) = some 4 := ⟨by decide +kernel, by decide +kernel, by decide +kernel⟩
theorem plX4_add : plainName yX4_add.cls = true := by decide +kernel
theorem ymX4_lengthOf : yX4_lengthOf.cls ≠ "java/lang/invoke/MethodHandle" ∧ yX4_lengthOf.cls ≠ "java/lang/invoke/VarHandle" ∧ (parseMethodDescriptor yX4_lengthOf.desc).map (fun d => d.parameters.length) = some 1 := ⟨by decide +kernel, by decide +kernel, by decide +kernel⟩
theorem plX4_lengthOf : plainName yX4_lengthOf.cls = true := by decide +kernel
theorem ymX4_placeOf : yX4_placeOf.cls ≠ "java/lang/invoke/MethodHandle" ∧ yX4_placeOf.cls ≠ "java/lang/invoke/VarHandle" ∧ (parseMethodDescriptor yX4_placeOf.desc).map (fun d => d.parameters.length) = some 1 := ⟨by decide +kernel, by decide +kernel, by decide +kernel⟩
theorem plX4_placeOf : plainName yX4_placeOf.cls = true := by decide +kernel
theorem ymX4_rowOf : yX4_rowOf.cls ≠ "java/lang/invoke/MethodHandle" ∧ yX4_rowOf.cls ≠ "java/lang/invoke/VarHandle" ∧ (parseMethodDescriptor yX4_rowOf.desc).map (fun d => d.parameters.length) = some 1 := ⟨by decide +kernel, by decide +kernel, by decide +kernel⟩
theorem plX4_rowOf : plainName yX4_rowOf.cls = true := by decide +kernel
theorem ymX2_with : yX2_with.cls ≠ "java/lang/invoke/MethodHandle" ∧ yX2_with.cls ≠ "java/lang/invoke/VarHandle" ∧ (parseMethodDescriptor yX2_with.desc).map (fun d => d.parameters.length) = some 3 := ⟨by decide +kernel, by decide +kernel, by decide +kernel⟩
theorem plX2_with : plainName yX2_with.cls = true := by decide +kernel
theorem ymX4_goOn : yX4_goOn.cls ≠ "java/lang/invoke/MethodHandle" ∧ yX4_goOn.cls ≠ "java/lang/invoke/VarHandle" ∧ (parseMethodDescriptor yX4_goOn.desc).map (fun d => d.parameters.length) = some 2 := ⟨by decide +kernel, by decide +kernel, by decide +kernel⟩
theorem plX4_goOn : plainName yX4_goOn.cls = true := by decide +kernel
theorem ymX2_at : yX2_at.cls ≠ "java/lang/invoke/MethodHandle" ∧ yX2_at.cls ≠ "java/lang/invoke/VarHandle" ∧ (parseMethodDescriptor yX2_at.desc).map (fun d => d.parameters.length) = some 2 := ⟨by decide +kernel, by decide +kernel, by decide +kernel⟩
theorem plX2_at : plainName yX2_at.cls = true := by decide +kernel
theorem ymX2_meaning : yX2_meaning.cls ≠ "java/lang/invoke/MethodHandle" ∧ yX2_meaning.cls ≠ "java/lang/invoke/VarHandle" ∧ (parseMethodDescriptor yX2_meaning.desc).map (fun d => d.parameters.length) = some 3 := ⟨by decide +kernel, by decide +kernel, by decide +kernel⟩
theorem plX2_meaning : plainName yX2_meaning.cls = true := by decide +kernel
theorem ymX4_keepWhole : yX4_keepWhole.cls ≠ "java/lang/invoke/MethodHandle" ∧ yX4_keepWhole.cls ≠ "java/lang/invoke/VarHandle" ∧ (parseMethodDescriptor yX4_keepWhole.desc).map (fun d => d.parameters.length) = some 1 := ⟨by decide +kernel, by decide +kernel, by decide +kernel⟩
theorem plX4_keepWhole : plainName yX4_keepWhole.cls = true := by decide +kernel
theorem ymX4_update : yX4_update.cls ≠ "java/lang/invoke/MethodHandle" ∧ yX4_update.cls ≠ "java/lang/invoke/VarHandle" ∧ (parseMethodDescriptor yX4_update.desc).map (fun d => d.parameters.length) = some 1 := ⟨by decide +kernel, by decide +kernel, by decide +kernel⟩
theorem plX4_update : plainName yX4_update.cls = true := by decide +kernel
theorem ymX3_needsOf : yX3_needsOf.cls ≠ "java/lang/invoke/MethodHandle" ∧ yX3_needsOf.cls ≠ "java/lang/invoke/VarHandle" ∧ (parseMethodDescriptor yX3_needsOf.desc).map (fun d => d.parameters.length) = some 1 := ⟨by decide +kernel, by decide +kernel, by decide +kernel⟩
theorem plX3_needsOf : plainName yX3_needsOf.cls = true := by decide +kernel
theorem ymX1_guessMet : yX1_guessMet.cls ≠ "java/lang/invoke/MethodHandle" ∧ yX1_guessMet.cls ≠ "java/lang/invoke/VarHandle" ∧ (parseMethodDescriptor yX1_guessMet.desc).map (fun d => d.parameters.length) = some 3 := ⟨by decide +kernel, by decide +kernel, by decide +kernel⟩
theorem plX1_guessMet : plainName yX1_guessMet.cls = true := by decide +kernel
theorem ymX1_choose : yX1_choose.cls ≠ "java/lang/invoke/MethodHandle" ∧ yX1_choose.cls ≠ "java/lang/invoke/VarHandle" ∧ (parseMethodDescriptor yX1_choose.desc).map (fun d => d.parameters.length) = some 3 := ⟨by decide +kernel, by decide +kernel, by decide +kernel⟩
theorem plX1_choose : plainName yX1_choose.cls = true := by decide +kernel
theorem ymX3_feuding : yX3_feuding.cls ≠ "java/lang/invoke/MethodHandle" ∧ yX3_feuding.cls ≠ "java/lang/invoke/VarHandle" ∧ (parseMethodDescriptor yX3_feuding.desc).map (fun d => d.parameters.length) = some 2 := ⟨by decide +kernel, by decide +kernel, by decide +kernel⟩
theorem plX3_feuding : plainName yX3_feuding.cls = true := by decide +kernel
theorem ymX2_onlyFeud : yX2_onlyFeud.cls ≠ "java/lang/invoke/MethodHandle" ∧ yX2_onlyFeud.cls ≠ "java/lang/invoke/VarHandle" ∧ (parseMethodDescriptor yX2_onlyFeud.desc).map (fun d => d.parameters.length) = some 3 := ⟨by decide +kernel, by decide +kernel, by decide +kernel⟩
theorem plX2_onlyFeud : plainName yX2_onlyFeud.cls = true := by decide +kernel
theorem ymX1_bestPeace : yX1_bestPeace.cls ≠ "java/lang/invoke/MethodHandle" ∧ yX1_bestPeace.cls ≠ "java/lang/invoke/VarHandle" ∧ (parseMethodDescriptor yX1_bestPeace.desc).map (fun d => d.parameters.length) = some 3 := ⟨by decide +kernel, by decide +kernel, by decide +kernel⟩
theorem plX1_bestPeace : plainName yX1_bestPeace.cls = true := by decide +kernel
theorem ymX2_feuds : yX2_feuds.cls ≠ "java/lang/invoke/MethodHandle" ∧ yX2_feuds.cls ≠ "java/lang/invoke/VarHandle" ∧ (parseMethodDescriptor yX2_feuds.desc).map (fun d => d.parameters.length) = some 3 := ⟨by decide +kernel, by decide +kernel, by decide +kernel⟩
theorem plX2_feuds : plainName yX2_feuds.cls = true := by decide +kernel
theorem ymX3_steps : yX3_steps.cls ≠ "java/lang/invoke/MethodHandle" ∧ yX3_steps.cls ≠ "java/lang/invoke/VarHandle" ∧ (parseMethodDescriptor yX3_steps.desc).map (fun d => d.parameters.length) = some 2 := ⟨by decide +kernel, by decide +kernel, by decide +kernel⟩
theorem plX3_steps : plainName yX3_steps.cls = true := by decide +kernel
theorem ymX2_soon : yX2_soon.cls ≠ "java/lang/invoke/MethodHandle" ∧ yX2_soon.cls ≠ "java/lang/invoke/VarHandle" ∧ (parseMethodDescriptor yX2_soon.desc).map (fun d => d.parameters.length) = some 4 := ⟨by decide +kernel, by decide +kernel, by decide +kernel⟩
theorem plX2_soon : plainName yX2_soon.cls = true := by decide +kernel
theorem ymX2_bestColumn : yX2_bestColumn.cls ≠ "java/lang/invoke/MethodHandle" ∧ yX2_bestColumn.cls ≠ "java/lang/invoke/VarHandle" ∧ (parseMethodDescriptor yX2_bestColumn.desc).map (fun d => d.parameters.length) = some 3 := ⟨by decide +kernel, by decide +kernel, by decide +kernel⟩
theorem plX2_bestColumn : plainName yX2_bestColumn.cls = true := by decide +kernel
theorem ymX2_stand : yX2_stand.cls ≠ "java/lang/invoke/MethodHandle" ∧ yX2_stand.cls ≠ "java/lang/invoke/VarHandle" ∧ (parseMethodDescriptor yX2_stand.desc).map (fun d => d.parameters.length) = some 4 := ⟨by decide +kernel, by decide +kernel, by decide +kernel⟩
theorem plX2_stand : plainName yX2_stand.cls = true := by decide +kernel
theorem ymX3_isAmount : yX3_isAmount.cls ≠ "java/lang/invoke/MethodHandle" ∧ yX3_isAmount.cls ≠ "java/lang/invoke/VarHandle" ∧ (parseMethodDescriptor yX3_isAmount.desc).map (fun d => d.parameters.length) = some 1 := ⟨by decide +kernel, by decide +kernel, by decide +kernel⟩
theorem plX3_isAmount : plainName yX3_isAmount.cls = true := by decide +kernel
theorem ymX3_isCell : yX3_isCell.cls ≠ "java/lang/invoke/MethodHandle" ∧ yX3_isCell.cls ≠ "java/lang/invoke/VarHandle" ∧ (parseMethodDescriptor yX3_isCell.desc).map (fun d => d.parameters.length) = some 1 := ⟨by decide +kernel, by decide +kernel, by decide +kernel⟩
theorem plX3_isCell : plainName yX3_isCell.cls = true := by decide +kernel
theorem ymX3_isAge : yX3_isAge.cls ≠ "java/lang/invoke/MethodHandle" ∧ yX3_isAge.cls ≠ "java/lang/invoke/VarHandle" ∧ (parseMethodDescriptor yX3_isAge.desc).map (fun d => d.parameters.length) = some 1 := ⟨by decide +kernel, by decide +kernel, by decide +kernel⟩
theorem plX3_isAge : plainName yX3_isAge.cls = true := by decide +kernel
theorem ymX3_bury : yX3_bury.cls ≠ "java/lang/invoke/MethodHandle" ∧ yX3_bury.cls ≠ "java/lang/invoke/VarHandle" ∧ (parseMethodDescriptor yX3_bury.desc).map (fun d => d.parameters.length) = some 1 := ⟨by decide +kernel, by decide +kernel, by decide +kernel⟩
theorem plX3_bury : plainName yX3_bury.cls = true := by decide +kernel
theorem ymX3_setFeud : yX3_setFeud.cls ≠ "java/lang/invoke/MethodHandle" ∧ yX3_setFeud.cls ≠ "java/lang/invoke/VarHandle" ∧ (parseMethodDescriptor yX3_setFeud.desc).map (fun d => d.parameters.length) = some 3 := ⟨by decide +kernel, by decide +kernel, by decide +kernel⟩
theorem plX3_setFeud : plainName yX3_setFeud.cls = true := by decide +kernel
theorem ymX3_hasNeed : yX3_hasNeed.cls ≠ "java/lang/invoke/MethodHandle" ∧ yX3_hasNeed.cls ≠ "java/lang/invoke/VarHandle" ∧ (parseMethodDescriptor yX3_hasNeed.desc).map (fun d => d.parameters.length) = some 1 := ⟨by decide +kernel, by decide +kernel, by decide +kernel⟩
theorem plX3_hasNeed : plainName yX3_hasNeed.cls = true := by decide +kernel
theorem ymX3_hasNeedRoom : yX3_hasNeedRoom.cls ≠ "java/lang/invoke/MethodHandle" ∧ yX3_hasNeedRoom.cls ≠ "java/lang/invoke/VarHandle" ∧ (parseMethodDescriptor yX3_hasNeedRoom.desc).map (fun d => d.parameters.length) = some 0 := ⟨by decide +kernel, by decide +kernel, by decide +kernel⟩
theorem plX3_hasNeedRoom : plainName yX3_hasNeedRoom.cls = true := by decide +kernel
theorem ymX3_addNeed : yX3_addNeed.cls ≠ "java/lang/invoke/MethodHandle" ∧ yX3_addNeed.cls ≠ "java/lang/invoke/VarHandle" ∧ (parseMethodDescriptor yX3_addNeed.desc).map (fun d => d.parameters.length) = some 1 := ⟨by decide +kernel, by decide +kernel, by decide +kernel⟩
theorem plX3_addNeed : plainName yX3_addNeed.cls = true := by decide +kernel
theorem ymX3_livingOfKind : yX3_livingOfKind.cls ≠ "java/lang/invoke/MethodHandle" ∧ yX3_livingOfKind.cls ≠ "java/lang/invoke/VarHandle" ∧ (parseMethodDescriptor yX3_livingOfKind.desc).map (fun d => d.parameters.length) = some 1 := ⟨by decide +kernel, by decide +kernel, by decide +kernel⟩
theorem plX3_livingOfKind : plainName yX3_livingOfKind.cls = true := by decide +kernel
theorem ymX3_pairsFeuding : yX3_pairsFeuding.cls ≠ "java/lang/invoke/MethodHandle" ∧ yX3_pairsFeuding.cls ≠ "java/lang/invoke/VarHandle" ∧ (parseMethodDescriptor yX3_pairsFeuding.desc).map (fun d => d.parameters.length) = some 0 := ⟨by decide +kernel, by decide +kernel, by decide +kernel⟩
theorem plX3_pairsFeuding : plainName yX3_pairsFeuding.cls = true := by decide +kernel
theorem ymX3_agesTogether : yX3_agesTogether.cls ≠ "java/lang/invoke/MethodHandle" ∧ yX3_agesTogether.cls ≠ "java/lang/invoke/VarHandle" ∧ (parseMethodDescriptor yX3_agesTogether.desc).map (fun d => d.parameters.length) = some 0 := ⟨by decide +kernel, by decide +kernel, by decide +kernel⟩
theorem plX3_agesTogether : plainName yX3_agesTogether.cls = true := by decide +kernel
theorem ymX3_foremost : yX3_foremost.cls ≠ "java/lang/invoke/MethodHandle" ∧ yX3_foremost.cls ≠ "java/lang/invoke/VarHandle" ∧ (parseMethodDescriptor yX3_foremost.desc).map (fun d => d.parameters.length) = some 1 := ⟨by decide +kernel, by decide +kernel, by decide +kernel⟩
theorem plX3_foremost : plainName yX3_foremost.cls = true := by decide +kernel
theorem ymX3_fullestCell : yX3_fullestCell.cls ≠ "java/lang/invoke/MethodHandle" ∧ yX3_fullestCell.cls ≠ "java/lang/invoke/VarHandle" ∧ (parseMethodDescriptor yX3_fullestCell.desc).map (fun d => d.parameters.length) = some 0 := ⟨by decide +kernel, by decide +kernel, by decide +kernel⟩
theorem plX3_fullestCell : plainName yX3_fullestCell.cls = true := by decide +kernel
theorem ymX3_farthest : yX3_farthest.cls ≠ "java/lang/invoke/MethodHandle" ∧ yX3_farthest.cls ≠ "java/lang/invoke/VarHandle" ∧ (parseMethodDescriptor yX3_farthest.desc).map (fun d => d.parameters.length) = some 1 := ⟨by decide +kernel, by decide +kernel, by decide +kernel⟩
theorem plX3_farthest : plainName yX3_farthest.cls = true := by decide +kernel
theorem ymX3_middleCell : yX3_middleCell.cls ≠ "java/lang/invoke/MethodHandle" ∧ yX3_middleCell.cls ≠ "java/lang/invoke/VarHandle" ∧ (parseMethodDescriptor yX3_middleCell.desc).map (fun d => d.parameters.length) = some 0 := ⟨by decide +kernel, by decide +kernel, by decide +kernel⟩
theorem plX3_middleCell : plainName yX3_middleCell.cls = true := by decide +kernel
theorem ymX3_olderBy1 : yX3_olderBy1.cls ≠ "java/lang/invoke/MethodHandle" ∧ yX3_olderBy1.cls ≠ "java/lang/invoke/VarHandle" ∧ (parseMethodDescriptor yX3_olderBy1.desc).map (fun d => d.parameters.length) = some 1 := ⟨by decide +kernel, by decide +kernel, by decide +kernel⟩
theorem plX3_olderBy1 : plainName yX3_olderBy1.cls = true := by decide +kernel
theorem ymX3_chanceOfYear : yX3_chanceOfYear.cls ≠ "java/lang/invoke/MethodHandle" ∧ yX3_chanceOfYear.cls ≠ "java/lang/invoke/VarHandle" ∧ (parseMethodDescriptor yX3_chanceOfYear.desc).map (fun d => d.parameters.length) = some 0 := ⟨by decide +kernel, by decide +kernel, by decide +kernel⟩
theorem plX3_chanceOfYear : plainName yX3_chanceOfYear.cls = true := by decide +kernel
theorem ymX3_draw : yX3_draw.cls ≠ "java/lang/invoke/MethodHandle" ∧ yX3_draw.cls ≠ "java/lang/invoke/VarHandle" ∧ (parseMethodDescriptor yX3_draw.desc).map (fun d => d.parameters.length) = some 1 := ⟨by decide +kernel, by decide +kernel, by decide +kernel⟩
theorem plX3_draw : plainName yX3_draw.cls = true := by decide +kernel
theorem ymX3_passYear : yX3_passYear.cls ≠ "java/lang/invoke/MethodHandle" ∧ yX3_passYear.cls ≠ "java/lang/invoke/VarHandle" ∧ (parseMethodDescriptor yX3_passYear.desc).map (fun d => d.parameters.length) = some 0 := ⟨by decide +kernel, by decide +kernel, by decide +kernel⟩
theorem plX3_passYear : plainName yX3_passYear.cls = true := by decide +kernel
theorem ymX4_isCalm : yX4_isCalm.cls ≠ "java/lang/invoke/MethodHandle" ∧ yX4_isCalm.cls ≠ "java/lang/invoke/VarHandle" ∧ (parseMethodDescriptor yX4_isCalm.desc).map (fun d => d.parameters.length) = some 2 := ⟨by decide +kernel, by decide +kernel, by decide +kernel⟩
theorem plX4_isCalm : plainName yX4_isCalm.cls = true := by decide +kernel
theorem ymX4_find : yX4_find.cls ≠ "java/lang/invoke/MethodHandle" ∧ yX4_find.cls ≠ "java/lang/invoke/VarHandle" ∧ (parseMethodDescriptor yX4_find.desc).map (fun d => d.parameters.length) = some 4 := ⟨by decide +kernel, by decide +kernel, by decide +kernel⟩
theorem plX4_find : plainName yX4_find.cls = true := by decide +kernel
theorem ymX4_calm : yX4_calm.cls ≠ "java/lang/invoke/MethodHandle" ∧ yX4_calm.cls ≠ "java/lang/invoke/VarHandle" ∧ (parseMethodDescriptor yX4_calm.desc).map (fun d => d.parameters.length) = some 2 := ⟨by decide +kernel, by decide +kernel, by decide +kernel⟩
theorem plX4_calm : plainName yX4_calm.cls = true := by decide +kernel
theorem ymX4_most : yX4_most.cls ≠ "java/lang/invoke/MethodHandle" ∧ yX4_most.cls ≠ "java/lang/invoke/VarHandle" ∧ (parseMethodDescriptor yX4_most.desc).map (fun d => d.parameters.length) = some 2 := ⟨by decide +kernel, by decide +kernel, by decide +kernel⟩
theorem plX4_most : plainName yX4_most.cls = true := by decide +kernel
theorem ymX4_least : yX4_least.cls ≠ "java/lang/invoke/MethodHandle" ∧ yX4_least.cls ≠ "java/lang/invoke/VarHandle" ∧ (parseMethodDescriptor yX4_least.desc).map (fun d => d.parameters.length) = some 1 := ⟨by decide +kernel, by decide +kernel, by decide +kernel⟩
theorem plX4_least : plainName yX4_least.cls = true := by decide +kernel
theorem ymX4_greatest : yX4_greatest.cls ≠ "java/lang/invoke/MethodHandle" ∧ yX4_greatest.cls ≠ "java/lang/invoke/VarHandle" ∧ (parseMethodDescriptor yX4_greatest.desc).map (fun d => d.parameters.length) = some 1 := ⟨by decide +kernel, by decide +kernel, by decide +kernel⟩
theorem plX4_greatest : plainName yX4_greatest.cls = true := by decide +kernel
theorem ymX4_closest : yX4_closest.cls ≠ "java/lang/invoke/MethodHandle" ∧ yX4_closest.cls ≠ "java/lang/invoke/VarHandle" ∧ (parseMethodDescriptor yX4_closest.desc).map (fun d => d.parameters.length) = some 2 := ⟨by decide +kernel, by decide +kernel, by decide +kernel⟩
theorem plX4_closest : plainName yX4_closest.cls = true := by decide +kernel
theorem ymX4_beginners : yX4_beginners.cls ≠ "java/lang/invoke/MethodHandle" ∧ yX4_beginners.cls ≠ "java/lang/invoke/VarHandle" ∧ (parseMethodDescriptor yX4_beginners.desc).map (fun d => d.parameters.length) = some 1 := ⟨by decide +kernel, by decide +kernel, by decide +kernel⟩
theorem plX4_beginners : plainName yX4_beginners.cls = true := by decide +kernel
theorem ymX4_enders : yX4_enders.cls ≠ "java/lang/invoke/MethodHandle" ∧ yX4_enders.cls ≠ "java/lang/invoke/VarHandle" ∧ (parseMethodDescriptor yX4_enders.desc).map (fun d => d.parameters.length) = some 1 := ⟨by decide +kernel, by decide +kernel, by decide +kernel⟩
theorem plX4_enders : plainName yX4_enders.cls = true := by decide +kernel
theorem ymX4_standing : yX4_standing.cls ≠ "java/lang/invoke/MethodHandle" ∧ yX4_standing.cls ≠ "java/lang/invoke/VarHandle" ∧ (parseMethodDescriptor yX4_standing.desc).map (fun d => d.parameters.length) = some 1 := ⟨by decide +kernel, by decide +kernel, by decide +kernel⟩
theorem plX4_standing : plainName yX4_standing.cls = true := by decide +kernel
theorem ymX4_forgetMarks : yX4_forgetMarks.cls ≠ "java/lang/invoke/MethodHandle" ∧ yX4_forgetMarks.cls ≠ "java/lang/invoke/VarHandle" ∧ (parseMethodDescriptor yX4_forgetMarks.desc).map (fun d => d.parameters.length) = some 0 := ⟨by decide +kernel, by decide +kernel, by decide +kernel⟩
theorem plX4_forgetMarks : plainName yX4_forgetMarks.cls = true := by decide +kernel
theorem ymX4_isNew : yX4_isNew.cls ≠ "java/lang/invoke/MethodHandle" ∧ yX4_isNew.cls ≠ "java/lang/invoke/VarHandle" ∧ (parseMethodDescriptor yX4_isNew.desc).map (fun d => d.parameters.length) = some 1 := ⟨by decide +kernel, by decide +kernel, by decide +kernel⟩
theorem plX4_isNew : plainName yX4_isNew.cls = true := by decide +kernel
theorem ymX4_unlike : yX4_unlike.cls ≠ "java/lang/invoke/MethodHandle" ∧ yX4_unlike.cls ≠ "java/lang/invoke/VarHandle" ∧ (parseMethodDescriptor yX4_unlike.desc).map (fun d => d.parameters.length) = some 1 := ⟨by decide +kernel, by decide +kernel, by decide +kernel⟩
theorem plX4_unlike : plainName yX4_unlike.cls = true := by decide +kernel
theorem ymX4_countOf : yX4_countOf.cls ≠ "java/lang/invoke/MethodHandle" ∧ yX4_countOf.cls ≠ "java/lang/invoke/VarHandle" ∧ (parseMethodDescriptor yX4_countOf.desc).map (fun d => d.parameters.length) = some 1 := ⟨by decide +kernel, by decide +kernel, by decide +kernel⟩
theorem plX4_countOf : plainName yX4_countOf.cls = true := by decide +kernel
theorem ymX4_unlikeOf : yX4_unlikeOf.cls ≠ "java/lang/invoke/MethodHandle" ∧ yX4_unlikeOf.cls ≠ "java/lang/invoke/VarHandle" ∧ (parseMethodDescriptor yX4_unlikeOf.desc).map (fun d => d.parameters.length) = some 1 := ⟨by decide +kernel, by decide +kernel, by decide +kernel⟩
theorem plX4_unlikeOf : plainName yX4_unlikeOf.cls = true := by decide +kernel
theorem ymX4_firstOf : yX4_firstOf.cls ≠ "java/lang/invoke/MethodHandle" ∧ yX4_firstOf.cls ≠ "java/lang/invoke/VarHandle" ∧ (parseMethodDescriptor yX4_firstOf.desc).map (fun d => d.parameters.length) = some 1 := ⟨by decide +kernel, by decide +kernel, by decide +kernel⟩
theorem plX4_firstOf : plainName yX4_firstOf.cls = true := by decide +kernel
theorem ymX4_mayMean : yX4_mayMean.cls ≠ "java/lang/invoke/MethodHandle" ∧ yX4_mayMean.cls ≠ "java/lang/invoke/VarHandle" ∧ (parseMethodDescriptor yX4_mayMean.desc).map (fun d => d.parameters.length) = some 2 := ⟨by decide +kernel, by decide +kernel, by decide +kernel⟩
theorem plX4_mayMean : plainName yX4_mayMean.cls = true := by decide +kernel
theorem ymX5_isSort : yX5_isSort.cls ≠ "java/lang/invoke/MethodHandle" ∧ yX5_isSort.cls ≠ "java/lang/invoke/VarHandle" ∧ (parseMethodDescriptor yX5_isSort.desc).map (fun d => d.parameters.length) = some 1 := ⟨by decide +kernel, by decide +kernel, by decide +kernel⟩
theorem plX5_isSort : plainName yX5_isSort.cls = true := by decide +kernel
theorem ymX5_isEmpty : yX5_isEmpty.cls ≠ "java/lang/invoke/MethodHandle" ∧ yX5_isEmpty.cls ≠ "java/lang/invoke/VarHandle" ∧ (parseMethodDescriptor yX5_isEmpty.desc).map (fun d => d.parameters.length) = some 0 := ⟨by decide +kernel, by decide +kernel, by decide +kernel⟩
theorem plX5_isEmpty : plainName yX5_isEmpty.cls = true := by decide +kernel
theorem ymX5_isRow : yX5_isRow.cls ≠ "java/lang/invoke/MethodHandle" ∧ yX5_isRow.cls ≠ "java/lang/invoke/VarHandle" ∧ (parseMethodDescriptor yX5_isRow.desc).map (fun d => d.parameters.length) = some 0 := ⟨by decide +kernel, by decide +kernel, by decide +kernel⟩
theorem plX5_isRow : plainName yX5_isRow.cls = true := by decide +kernel
theorem ymX5_hold : yX5_hold.cls ≠ "java/lang/invoke/MethodHandle" ∧ yX5_hold.cls ≠ "java/lang/invoke/VarHandle" ∧ (parseMethodDescriptor yX5_hold.desc).map (fun d => d.parameters.length) = some 1 := ⟨by decide +kernel, by decide +kernel, by decide +kernel⟩
theorem plX5_hold : plainName yX5_hold.cls = true := by decide +kernel
theorem ymX5_holdRow : yX5_holdRow.cls ≠ "java/lang/invoke/MethodHandle" ∧ yX5_holdRow.cls ≠ "java/lang/invoke/VarHandle" ∧ (parseMethodDescriptor yX5_holdRow.desc).map (fun d => d.parameters.length) = some 2 := ⟨by decide +kernel, by decide +kernel, by decide +kernel⟩
theorem plX5_holdRow : plainName yX5_holdRow.cls = true := by decide +kernel
theorem ymX5_spans : yX5_spans.cls ≠ "java/lang/invoke/MethodHandle" ∧ yX5_spans.cls ≠ "java/lang/invoke/VarHandle" ∧ (parseMethodDescriptor yX5_spans.desc).map (fun d => d.parameters.length) = some 2 := ⟨by decide +kernel, by decide +kernel, by decide +kernel⟩
theorem plX5_spans : plainName yX5_spans.cls = true := by decide +kernel
theorem ymX5_narrow : yX5_narrow.cls ≠ "java/lang/invoke/MethodHandle" ∧ yX5_narrow.cls ≠ "java/lang/invoke/VarHandle" ∧ (parseMethodDescriptor yX5_narrow.desc).map (fun d => d.parameters.length) = some 1 := ⟨by decide +kernel, by decide +kernel, by decide +kernel⟩
theorem plX5_narrow : plainName yX5_narrow.cls = true := by decide +kernel
theorem ymX5_put : yX5_put.cls ≠ "java/lang/invoke/MethodHandle" ∧ yX5_put.cls ≠ "java/lang/invoke/VarHandle" ∧ (parseMethodDescriptor yX5_put.desc).map (fun d => d.parameters.length) = some 2 := ⟨by decide +kernel, by decide +kernel, by decide +kernel⟩
theorem plX5_put : plainName yX5_put.cls = true := by decide +kernel
theorem ymX6_hasRoom : yX6_hasRoom.cls ≠ "java/lang/invoke/MethodHandle" ∧ yX6_hasRoom.cls ≠ "java/lang/invoke/VarHandle" ∧ (parseMethodDescriptor yX6_hasRoom.desc).map (fun d => d.parameters.length) = some 0 := ⟨by decide +kernel, by decide +kernel, by decide +kernel⟩
theorem plX6_hasRoom : plainName yX6_hasRoom.cls = true := by decide +kernel
theorem ymX6_add : yX6_add.cls ≠ "java/lang/invoke/MethodHandle" ∧ yX6_add.cls ≠ "java/lang/invoke/VarHandle" ∧ (parseMethodDescriptor yX6_add.desc).map (fun d => d.parameters.length) = some 1 := ⟨by decide +kernel, by decide +kernel, by decide +kernel⟩
theorem plX6_add : plainName yX6_add.cls = true := by decide +kernel
theorem ymX6_clear : yX6_clear.cls ≠ "java/lang/invoke/MethodHandle" ∧ yX6_clear.cls ≠ "java/lang/invoke/VarHandle" ∧ (parseMethodDescriptor yX6_clear.desc).map (fun d => d.parameters.length) = some 0 := ⟨by decide +kernel, by decide +kernel, by decide +kernel⟩
theorem plX6_clear : plainName yX6_clear.cls = true := by decide +kernel
theorem ymX6_tokenOf : yX6_tokenOf.cls ≠ "java/lang/invoke/MethodHandle" ∧ yX6_tokenOf.cls ≠ "java/lang/invoke/VarHandle" ∧ (parseMethodDescriptor yX6_tokenOf.desc).map (fun d => d.parameters.length) = some 1 := ⟨by decide +kernel, by decide +kernel, by decide +kernel⟩
theorem plX6_tokenOf : plainName yX6_tokenOf.cls = true := by decide +kernel
theorem ymX6_step : yX6_step.cls ≠ "java/lang/invoke/MethodHandle" ∧ yX6_step.cls ≠ "java/lang/invoke/VarHandle" ∧ (parseMethodDescriptor yX6_step.desc).map (fun d => d.parameters.length) = some 0 := ⟨by decide +kernel, by decide +kernel, by decide +kernel⟩
theorem plX6_step : plainName yX6_step.cls = true := by decide +kernel
theorem ymJ0_coder_7d493 : yJ0_coder_7d493.cls ≠ "java/lang/invoke/MethodHandle" ∧ yJ0_coder_7d493.cls ≠ "java/lang/invoke/VarHandle" ∧ (parseMethodDescriptor yJ0_coder_7d493.desc).map (fun d => d.parameters.length) = some 0 := ⟨by decide +kernel, by decide +kernel, by decide +kernel⟩
theorem plJ0_coder_7d493 : plainName yJ0_coder_7d493.cls = true := by decide +kernel
theorem ymJ0_length_8abf5 : yJ0_length_8abf5.cls ≠ "java/lang/invoke/MethodHandle" ∧ yJ0_length_8abf5.cls ≠ "java/lang/invoke/VarHandle" ∧ (parseMethodDescriptor yJ0_length_8abf5.desc).map (fun d => d.parameters.length) = some 0 := ⟨by decide +kernel, by decide +kernel, by decide +kernel⟩
theorem plJ0_length_8abf5 : plainName yJ0_length_8abf5.cls = true := by decide +kernel
theorem ymJ0_isLatin1_aae02 : yJ0_isLatin1_aae02.cls ≠ "java/lang/invoke/MethodHandle" ∧ yJ0_isLatin1_aae02.cls ≠ "java/lang/invoke/VarHandle" ∧ (parseMethodDescriptor yJ0_isLatin1_aae02.desc).map (fun d => d.parameters.length) = some 0 := ⟨by decide +kernel, by decide +kernel, by decide +kernel⟩
theorem plJ0_isLatin1_aae02 : plainName yJ0_isLatin1_aae02.cls = true := by decide +kernel
theorem ymJ3_checkIndex_8e157 : yJ3_checkIndex_8e157.cls ≠ "java/lang/invoke/MethodHandle" ∧ yJ3_checkIndex_8e157.cls ≠ "java/lang/invoke/VarHandle" ∧ (parseMethodDescriptor yJ3_checkIndex_8e157.desc).map (fun d => d.parameters.length) = some 3 := ⟨by decide +kernel, by decide +kernel, by decide +kernel⟩
theorem plJ3_checkIndex_8e157 : plainName yJ3_checkIndex_8e157.cls = true := by decide +kernel
theorem ymJ0_checkIndex_df160 : yJ0_checkIndex_df160.cls ≠ "java/lang/invoke/MethodHandle" ∧ yJ0_checkIndex_df160.cls ≠ "java/lang/invoke/VarHandle" ∧ (parseMethodDescriptor yJ0_checkIndex_df160.desc).map (fun d => d.parameters.length) = some 2 := ⟨by decide +kernel, by decide +kernel, by decide +kernel⟩
theorem plJ0_checkIndex_df160 : plainName yJ0_checkIndex_df160.cls = true := by decide +kernel
theorem ymJ1_charAt_3b067 : yJ1_charAt_3b067.cls ≠ "java/lang/invoke/MethodHandle" ∧ yJ1_charAt_3b067.cls ≠ "java/lang/invoke/VarHandle" ∧ (parseMethodDescriptor yJ1_charAt_3b067.desc).map (fun d => d.parameters.length) = some 2 := ⟨by decide +kernel, by decide +kernel, by decide +kernel⟩
theorem plJ1_charAt_3b067 : plainName yJ1_charAt_3b067.cls = true := by decide +kernel
theorem ymJ0_charAt_5068e : yJ0_charAt_5068e.cls ≠ "java/lang/invoke/MethodHandle" ∧ yJ0_charAt_5068e.cls ≠ "java/lang/invoke/VarHandle" ∧ (parseMethodDescriptor yJ0_charAt_5068e.desc).map (fun d => d.parameters.length) = some 1 := ⟨by decide +kernel, by decide +kernel, by decide +kernel⟩
theorem plJ0_charAt_5068e : plainName yJ0_charAt_5068e.cls = true := by decide +kernel
theorem ymX6_isWord : yX6_isWord.cls ≠ "java/lang/invoke/MethodHandle" ∧ yX6_isWord.cls ≠ "java/lang/invoke/VarHandle" ∧ (parseMethodDescriptor yX6_isWord.desc).map (fun d => d.parameters.length) = some 1 := ⟨by decide +kernel, by decide +kernel, by decide +kernel⟩
theorem plX6_isWord : plainName yX6_isWord.cls = true := by decide +kernel
theorem ymX6_stepToNumber : yX6_stepToNumber.cls ≠ "java/lang/invoke/MethodHandle" ∧ yX6_stepToNumber.cls ≠ "java/lang/invoke/VarHandle" ∧ (parseMethodDescriptor yX6_stepToNumber.desc).map (fun d => d.parameters.length) = some 0 := ⟨by decide +kernel, by decide +kernel, by decide +kernel⟩
theorem plX6_stepToNumber : plainName yX6_stepToNumber.cls = true := by decide +kernel
theorem ymX6_readBrother : yX6_readBrother.cls ≠ "java/lang/invoke/MethodHandle" ∧ yX6_readBrother.cls ≠ "java/lang/invoke/VarHandle" ∧ (parseMethodDescriptor yX6_readBrother.desc).map (fun d => d.parameters.length) = some 1 := ⟨by decide +kernel, by decide +kernel, by decide +kernel⟩
theorem plX6_readBrother : plainName yX6_readBrother.cls = true := by decide +kernel
theorem ymX6_readFeud : yX6_readFeud.cls ≠ "java/lang/invoke/MethodHandle" ∧ yX6_readFeud.cls ≠ "java/lang/invoke/VarHandle" ∧ (parseMethodDescriptor yX6_readFeud.desc).map (fun d => d.parameters.length) = some 2 := ⟨by decide +kernel, by decide +kernel, by decide +kernel⟩
theorem plX6_readFeud : plainName yX6_readFeud.cls = true := by decide +kernel
theorem ymX6_readNeed : yX6_readNeed.cls ≠ "java/lang/invoke/MethodHandle" ∧ yX6_readNeed.cls ≠ "java/lang/invoke/VarHandle" ∧ (parseMethodDescriptor yX6_readNeed.desc).map (fun d => d.parameters.length) = some 2 := ⟨by decide +kernel, by decide +kernel, by decide +kernel⟩
theorem plX6_readNeed : plainName yX6_readNeed.cls = true := by decide +kernel
theorem ymX6_readAge : yX6_readAge.cls ≠ "java/lang/invoke/MethodHandle" ∧ yX6_readAge.cls ≠ "java/lang/invoke/VarHandle" ∧ (parseMethodDescriptor yX6_readAge.desc).map (fun d => d.parameters.length) = some 1 := ⟨by decide +kernel, by decide +kernel, by decide +kernel⟩
theorem plX6_readAge : plainName yX6_readAge.cls = true := by decide +kernel
theorem ymX6_readDeath : yX6_readDeath.cls ≠ "java/lang/invoke/MethodHandle" ∧ yX6_readDeath.cls ≠ "java/lang/invoke/VarHandle" ∧ (parseMethodDescriptor yX6_readDeath.desc).map (fun d => d.parameters.length) = some 1 := ⟨by decide +kernel, by decide +kernel, by decide +kernel⟩
theorem plX6_readDeath : plainName yX6_readDeath.cls = true := by decide +kernel
theorem ymX6_readStatement : yX6_readStatement.cls ≠ "java/lang/invoke/MethodHandle" ∧ yX6_readStatement.cls ≠ "java/lang/invoke/VarHandle" ∧ (parseMethodDescriptor yX6_readStatement.desc).map (fun d => d.parameters.length) = some 1 := ⟨by decide +kernel, by decide +kernel, by decide +kernel⟩
theorem plX6_readStatement : plainName yX6_readStatement.cls = true := by decide +kernel
theorem ymX6_read : yX6_read.cls ≠ "java/lang/invoke/MethodHandle" ∧ yX6_read.cls ≠ "java/lang/invoke/VarHandle" ∧ (parseMethodDescriptor yX6_read.desc).map (fun d => d.parameters.length) = some 1 := ⟨by decide +kernel, by decide +kernel, by decide +kernel⟩
theorem plX6_read : plainName yX6_read.cls = true := by decide +kernel
theorem ymX7_hear : yX7_hear.cls ≠ "java/lang/invoke/MethodHandle" ∧ yX7_hear.cls ≠ "java/lang/invoke/VarHandle" ∧ (parseMethodDescriptor yX7_hear.desc).map (fun d => d.parameters.length) = some 3 := ⟨by decide +kernel, by decide +kernel, by decide +kernel⟩
theorem plX7_hear : plainName yX7_hear.cls = true := by decide +kernel
theorem ymX8_isShelf : yX8_isShelf.cls ≠ "java/lang/invoke/MethodHandle" ∧ yX8_isShelf.cls ≠ "java/lang/invoke/VarHandle" ∧ (parseMethodDescriptor yX8_isShelf.desc).map (fun d => d.parameters.length) = some 1 := ⟨by decide +kernel, by decide +kernel, by decide +kernel⟩
theorem plX8_isShelf : plainName yX8_isShelf.cls = true := by decide +kernel
theorem ymX8_refuse : yX8_refuse.cls ≠ "java/lang/invoke/MethodHandle" ∧ yX8_refuse.cls ≠ "java/lang/invoke/VarHandle" ∧ (parseMethodDescriptor yX8_refuse.desc).map (fun d => d.parameters.length) = some 1 := ⟨by decide +kernel, by decide +kernel, by decide +kernel⟩
theorem plX8_refuse : plainName yX8_refuse.cls = true := by decide +kernel
theorem ymX8_row : yX8_row.cls ≠ "java/lang/invoke/MethodHandle" ∧ yX8_row.cls ≠ "java/lang/invoke/VarHandle" ∧ (parseMethodDescriptor yX8_row.desc).map (fun d => d.parameters.length) = some 3 := ⟨by decide +kernel, by decide +kernel, by decide +kernel⟩
theorem plX8_row : plainName yX8_row.cls = true := by decide +kernel
theorem ymX8_rowTrouble : yX8_rowTrouble.cls ≠ "java/lang/invoke/MethodHandle" ∧ yX8_rowTrouble.cls ≠ "java/lang/invoke/VarHandle" ∧ (parseMethodDescriptor yX8_rowTrouble.desc).map (fun d => d.parameters.length) = some 1 := ⟨by decide +kernel, by decide +kernel, by decide +kernel⟩
theorem plX8_rowTrouble : plainName yX8_rowTrouble.cls = true := by decide +kernel
theorem ymX8_set : yX8_set.cls ≠ "java/lang/invoke/MethodHandle" ∧ yX8_set.cls ≠ "java/lang/invoke/VarHandle" ∧ (parseMethodDescriptor yX8_set.desc).map (fun d => d.parameters.length) = some 3 := ⟨by decide +kernel, by decide +kernel, by decide +kernel⟩
theorem plX8_set : plainName yX8_set.cls = true := by decide +kernel
theorem ymX8_copyTrouble : yX8_copyTrouble.cls ≠ "java/lang/invoke/MethodHandle" ∧ yX8_copyTrouble.cls ≠ "java/lang/invoke/VarHandle" ∧ (parseMethodDescriptor yX8_copyTrouble.desc).map (fun d => d.parameters.length) = some 2 := ⟨by decide +kernel, by decide +kernel, by decide +kernel⟩
theorem plX8_copyTrouble : plainName yX8_copyTrouble.cls = true := by decide +kernel
theorem ymX8_copy : yX8_copy.cls ≠ "java/lang/invoke/MethodHandle" ∧ yX8_copy.cls ≠ "java/lang/invoke/VarHandle" ∧ (parseMethodDescriptor yX8_copy.desc).map (fun d => d.parameters.length) = some 5 := ⟨by decide +kernel, by decide +kernel, by decide +kernel⟩
theorem plX8_copy : plainName yX8_copy.cls = true := by decide +kernel
theorem ymX8_element : yX8_element.cls ≠ "java/lang/invoke/MethodHandle" ∧ yX8_element.cls ≠ "java/lang/invoke/VarHandle" ∧ (parseMethodDescriptor yX8_element.desc).map (fun d => d.parameters.length) = some 2 := ⟨by decide +kernel, by decide +kernel, by decide +kernel⟩
theorem plX8_element : plainName yX8_element.cls = true := by decide +kernel
theorem ymX8_holds : yX8_holds.cls ≠ "java/lang/invoke/MethodHandle" ∧ yX8_holds.cls ≠ "java/lang/invoke/VarHandle" ∧ (parseMethodDescriptor yX8_holds.desc).map (fun d => d.parameters.length) = some 1 := ⟨by decide +kernel, by decide +kernel, by decide +kernel⟩
theorem plX8_holds : plainName yX8_holds.cls = true := by decide +kernel
theorem ymX8_show : yX8_show.cls ≠ "java/lang/invoke/MethodHandle" ∧ yX8_show.cls ≠ "java/lang/invoke/VarHandle" ∧ (parseMethodDescriptor yX8_show.desc).map (fun d => d.parameters.length) = some 2 := ⟨by decide +kernel, by decide +kernel, by decide +kernel⟩
theorem plX8_show : plainName yX8_show.cls = true := by decide +kernel
theorem ymX8_says : yX8_says.cls ≠ "java/lang/invoke/MethodHandle" ∧ yX8_says.cls ≠ "java/lang/invoke/VarHandle" ∧ (parseMethodDescriptor yX8_says.desc).map (fun d => d.parameters.length) = some 2 := ⟨by decide +kernel, by decide +kernel, by decide +kernel⟩
theorem plX8_says : plainName yX8_says.cls = true := by decide +kernel
theorem ymX8_brother : yX8_brother.cls ≠ "java/lang/invoke/MethodHandle" ∧ yX8_brother.cls ≠ "java/lang/invoke/VarHandle" ∧ (parseMethodDescriptor yX8_brother.desc).map (fun d => d.parameters.length) = some 3 := ⟨by decide +kernel, by decide +kernel, by decide +kernel⟩
theorem plX8_brother : plainName yX8_brother.cls = true := by decide +kernel
theorem ymX8_feud : yX8_feud.cls ≠ "java/lang/invoke/MethodHandle" ∧ yX8_feud.cls ≠ "java/lang/invoke/VarHandle" ∧ (parseMethodDescriptor yX8_feud.desc).map (fun d => d.parameters.length) = some 3 := ⟨by decide +kernel, by decide +kernel, by decide +kernel⟩
theorem plX8_feud : plainName yX8_feud.cls = true := by decide +kernel
theorem ymX8_need : yX8_need.cls ≠ "java/lang/invoke/MethodHandle" ∧ yX8_need.cls ≠ "java/lang/invoke/VarHandle" ∧ (parseMethodDescriptor yX8_need.desc).map (fun d => d.parameters.length) = some 1 := ⟨by decide +kernel, by decide +kernel, by decide +kernel⟩
theorem plX8_need : plainName yX8_need.cls = true := by decide +kernel
theorem ymX8_age : yX8_age.cls ≠ "java/lang/invoke/MethodHandle" ∧ yX8_age.cls ≠ "java/lang/invoke/VarHandle" ∧ (parseMethodDescriptor yX8_age.desc).map (fun d => d.parameters.length) = some 2 := ⟨by decide +kernel, by decide +kernel, by decide +kernel⟩
theorem plX8_age : plainName yX8_age.cls = true := by decide +kernel
theorem ymX8_goes : yX8_goes.cls ≠ "java/lang/invoke/MethodHandle" ∧ yX8_goes.cls ≠ "java/lang/invoke/VarHandle" ∧ (parseMethodDescriptor yX8_goes.desc).map (fun d => d.parameters.length) = some 2 := ⟨by decide +kernel, by decide +kernel, by decide +kernel⟩
theorem plX8_goes : plainName yX8_goes.cls = true := by decide +kernel
theorem ymX8_livingTrouble : yX8_livingTrouble.cls ≠ "java/lang/invoke/MethodHandle" ∧ yX8_livingTrouble.cls ≠ "java/lang/invoke/VarHandle" ∧ (parseMethodDescriptor yX8_livingTrouble.desc).map (fun d => d.parameters.length) = some 1 := ⟨by decide +kernel, by decide +kernel, by decide +kernel⟩
theorem plX8_livingTrouble : plainName yX8_livingTrouble.cls = true := by decide +kernel
theorem ymX8_dies : yX8_dies.cls ≠ "java/lang/invoke/MethodHandle" ∧ yX8_dies.cls ≠ "java/lang/invoke/VarHandle" ∧ (parseMethodDescriptor yX8_dies.desc).map (fun d => d.parameters.length) = some 1 := ⟨by decide +kernel, by decide +kernel, by decide +kernel⟩
theorem plX8_dies : plainName yX8_dies.cls = true := by decide +kernel
theorem ymX8_feed : yX8_feed.cls ≠ "java/lang/invoke/MethodHandle" ∧ yX8_feed.cls ≠ "java/lang/invoke/VarHandle" ∧ (parseMethodDescriptor yX8_feed.desc).map (fun d => d.parameters.length) = some 1 := ⟨by decide +kernel, by decide +kernel, by decide +kernel⟩
theorem plX8_feed : plainName yX8_feed.cls = true := by decide +kernel
theorem ymX8_wipe : yX8_wipe.cls ≠ "java/lang/invoke/MethodHandle" ∧ yX8_wipe.cls ≠ "java/lang/invoke/VarHandle" ∧ (parseMethodDescriptor yX8_wipe.desc).map (fun d => d.parameters.length) = some 0 := ⟨by decide +kernel, by decide +kernel, by decide +kernel⟩
theorem plX8_wipe : plainName yX8_wipe.cls = true := by decide +kernel
theorem ymX8_rock : yX8_rock.cls ≠ "java/lang/invoke/MethodHandle" ∧ yX8_rock.cls ≠ "java/lang/invoke/VarHandle" ∧ (parseMethodDescriptor yX8_rock.desc).map (fun d => d.parameters.length) = some 0 := ⟨by decide +kernel, by decide +kernel, by decide +kernel⟩
theorem plX8_rock : plainName yX8_rock.cls = true := by decide +kernel
theorem ymX8_brotherOf : yX8_brotherOf.cls ≠ "java/lang/invoke/MethodHandle" ∧ yX8_brotherOf.cls ≠ "java/lang/invoke/VarHandle" ∧ (parseMethodDescriptor yX8_brotherOf.desc).map (fun d => d.parameters.length) = some 2 := ⟨by decide +kernel, by decide +kernel, by decide +kernel⟩
theorem plX8_brotherOf : plainName yX8_brotherOf.cls = true := by decide +kernel
theorem ymX8_needOf : yX8_needOf.cls ≠ "java/lang/invoke/MethodHandle" ∧ yX8_needOf.cls ≠ "java/lang/invoke/VarHandle" ∧ (parseMethodDescriptor yX8_needOf.desc).map (fun d => d.parameters.length) = some 1 := ⟨by decide +kernel, by decide +kernel, by decide +kernel⟩
theorem plX8_needOf : plainName yX8_needOf.cls = true := by decide +kernel
theorem ymX8_isTold : yX8_isTold.cls ≠ "java/lang/invoke/MethodHandle" ∧ yX8_isTold.cls ≠ "java/lang/invoke/VarHandle" ∧ (parseMethodDescriptor yX8_isTold.desc).map (fun d => d.parameters.length) = some 1 := ⟨by decide +kernel, by decide +kernel, by decide +kernel⟩
theorem plX8_isTold : plainName yX8_isTold.cls = true := by decide +kernel
theorem ymX8_sayingsNow : yX8_sayingsNow.cls ≠ "java/lang/invoke/MethodHandle" ∧ yX8_sayingsNow.cls ≠ "java/lang/invoke/VarHandle" ∧ (parseMethodDescriptor yX8_sayingsNow.desc).map (fun d => d.parameters.length) = some 0 := ⟨by decide +kernel, by decide +kernel, by decide +kernel⟩
theorem plX8_sayingsNow : plainName yX8_sayingsNow.cls = true := by decide +kernel
theorem ymX8_shortest : yX8_shortest.cls ≠ "java/lang/invoke/MethodHandle" ∧ yX8_shortest.cls ≠ "java/lang/invoke/VarHandle" ∧ (parseMethodDescriptor yX8_shortest.desc).map (fun d => d.parameters.length) = some 4 := ⟨by decide +kernel, by decide +kernel, by decide +kernel⟩
theorem plX8_shortest : plainName yX8_shortest.cls = true := by decide +kernel
theorem ymX8_said : yX8_said.cls ≠ "java/lang/invoke/MethodHandle" ∧ yX8_said.cls ≠ "java/lang/invoke/VarHandle" ∧ (parseMethodDescriptor yX8_said.desc).map (fun d => d.parameters.length) = some 2 := ⟨by decide +kernel, by decide +kernel, by decide +kernel⟩
theorem plX8_said : plainName yX8_said.cls = true := by decide +kernel
theorem ymX8_many : yX8_many.cls ≠ "java/lang/invoke/MethodHandle" ∧ yX8_many.cls ≠ "java/lang/invoke/VarHandle" ∧ (parseMethodDescriptor yX8_many.desc).map (fun d => d.parameters.length) = some 2 := ⟨by decide +kernel, by decide +kernel, by decide +kernel⟩
theorem plX8_many : plainName yX8_many.cls = true := by decide +kernel
theorem ymX8_who : yX8_who.cls ≠ "java/lang/invoke/MethodHandle" ∧ yX8_who.cls ≠ "java/lang/invoke/VarHandle" ∧ (parseMethodDescriptor yX8_who.desc).map (fun d => d.parameters.length) = some 1 := ⟨by decide +kernel, by decide +kernel, by decide +kernel⟩
theorem plX8_who : plainName yX8_who.cls = true := by decide +kernel
theorem ymX8_nearest : yX8_nearest.cls ≠ "java/lang/invoke/MethodHandle" ∧ yX8_nearest.cls ≠ "java/lang/invoke/VarHandle" ∧ (parseMethodDescriptor yX8_nearest.desc).map (fun d => d.parameters.length) = some 1 := ⟨by decide +kernel, by decide +kernel, by decide +kernel⟩
theorem plX8_nearest : plainName yX8_nearest.cls = true := by decide +kernel
theorem ymX8_first : yX8_first.cls ≠ "java/lang/invoke/MethodHandle" ∧ yX8_first.cls ≠ "java/lang/invoke/VarHandle" ∧ (parseMethodDescriptor yX8_first.desc).map (fun d => d.parameters.length) = some 1 := ⟨by decide +kernel, by decide +kernel, by decide +kernel⟩
theorem plX8_first : plainName yX8_first.cls = true := by decide +kernel
theorem ymX8_crowd : yX8_crowd.cls ≠ "java/lang/invoke/MethodHandle" ∧ yX8_crowd.cls ≠ "java/lang/invoke/VarHandle" ∧ (parseMethodDescriptor yX8_crowd.desc).map (fun d => d.parameters.length) = some 0 := ⟨by decide +kernel, by decide +kernel, by decide +kernel⟩
theorem plX8_crowd : plainName yX8_crowd.cls = true := by decide +kernel
theorem ymX8_gather : yX8_gather.cls ≠ "java/lang/invoke/MethodHandle" ∧ yX8_gather.cls ≠ "java/lang/invoke/VarHandle" ∧ (parseMethodDescriptor yX8_gather.desc).map (fun d => d.parameters.length) = some 0 := ⟨by decide +kernel, by decide +kernel, by decide +kernel⟩
theorem plX8_gather : plainName yX8_gather.cls = true := by decide +kernel
theorem ymX8_alone : yX8_alone.cls ≠ "java/lang/invoke/MethodHandle" ∧ yX8_alone.cls ≠ "java/lang/invoke/VarHandle" ∧ (parseMethodDescriptor yX8_alone.desc).map (fun d => d.parameters.length) = some 0 := ⟨by decide +kernel, by decide +kernel, by decide +kernel⟩
theorem plX8_alone : plainName yX8_alone.cls = true := by decide +kernel
theorem ymX8_lasting : yX8_lasting.cls ≠ "java/lang/invoke/MethodHandle" ∧ yX8_lasting.cls ≠ "java/lang/invoke/VarHandle" ∧ (parseMethodDescriptor yX8_lasting.desc).map (fun d => d.parameters.length) = some 0 := ⟨by decide +kernel, by decide +kernel, by decide +kernel⟩
theorem plX8_lasting : plainName yX8_lasting.cls = true := by decide +kernel
theorem ymX8_longest : yX8_longest.cls ≠ "java/lang/invoke/MethodHandle" ∧ yX8_longest.cls ≠ "java/lang/invoke/VarHandle" ∧ (parseMethodDescriptor yX8_longest.desc).map (fun d => d.parameters.length) = some 1 := ⟨by decide +kernel, by decide +kernel, by decide +kernel⟩
theorem plX8_longest : plainName yX8_longest.cls = true := by decide +kernel
theorem ymX8_met : yX8_met.cls ≠ "java/lang/invoke/MethodHandle" ∧ yX8_met.cls ≠ "java/lang/invoke/VarHandle" ∧ (parseMethodDescriptor yX8_met.desc).map (fun d => d.parameters.length) = some 0 := ⟨by decide +kernel, by decide +kernel, by decide +kernel⟩
theorem plX8_met : plainName yX8_met.cls = true := by decide +kernel
theorem ymX8_without : yX8_without.cls ≠ "java/lang/invoke/MethodHandle" ∧ yX8_without.cls ≠ "java/lang/invoke/VarHandle" ∧ (parseMethodDescriptor yX8_without.desc).map (fun d => d.parameters.length) = some 2 := ⟨by decide +kernel, by decide +kernel, by decide +kernel⟩
theorem plX8_without : plainName yX8_without.cls = true := by decide +kernel
theorem ymX8_mightiest : yX8_mightiest.cls ≠ "java/lang/invoke/MethodHandle" ∧ yX8_mightiest.cls ≠ "java/lang/invoke/VarHandle" ∧ (parseMethodDescriptor yX8_mightiest.desc).map (fun d => d.parameters.length) = some 0 := ⟨by decide +kernel, by decide +kernel, by decide +kernel⟩
theorem plX8_mightiest : plainName yX8_mightiest.cls = true := by decide +kernel
theorem ymX8_choice : yX8_choice.cls ≠ "java/lang/invoke/MethodHandle" ∧ yX8_choice.cls ≠ "java/lang/invoke/VarHandle" ∧ (parseMethodDescriptor yX8_choice.desc).map (fun d => d.parameters.length) = some 1 := ⟨by decide +kernel, by decide +kernel, by decide +kernel⟩
theorem plX8_choice : plainName yX8_choice.cls = true := by decide +kernel
theorem ymX8_memberOf : yX8_memberOf.cls ≠ "java/lang/invoke/MethodHandle" ∧ yX8_memberOf.cls ≠ "java/lang/invoke/VarHandle" ∧ (parseMethodDescriptor yX8_memberOf.desc).map (fun d => d.parameters.length) = some 2 := ⟨by decide +kernel, by decide +kernel, by decide +kernel⟩
theorem plX8_memberOf : plainName yX8_memberOf.cls = true := by decide +kernel
theorem ymX8_lost : yX8_lost.cls ≠ "java/lang/invoke/MethodHandle" ∧ yX8_lost.cls ≠ "java/lang/invoke/VarHandle" ∧ (parseMethodDescriptor yX8_lost.desc).map (fun d => d.parameters.length) = some 2 := ⟨by decide +kernel, by decide +kernel, by decide +kernel⟩
theorem plX8_lost : plainName yX8_lost.cls = true := by decide +kernel
theorem ymX8_canRun : yX8_canRun.cls ≠ "java/lang/invoke/MethodHandle" ∧ yX8_canRun.cls ≠ "java/lang/invoke/VarHandle" ∧ (parseMethodDescriptor yX8_canRun.desc).map (fun d => d.parameters.length) = some 1 := ⟨by decide +kernel, by decide +kernel, by decide +kernel⟩
theorem plX8_canRun : plainName yX8_canRun.cls = true := by decide +kernel
theorem ymX8_ran : yX8_ran.cls ≠ "java/lang/invoke/MethodHandle" ∧ yX8_ran.cls ≠ "java/lang/invoke/VarHandle" ∧ (parseMethodDescriptor yX8_ran.desc).map (fun d => d.parameters.length) = some 2 := ⟨by decide +kernel, by decide +kernel, by decide +kernel⟩
theorem plX8_ran : plainName yX8_ran.cls = true := by decide +kernel
theorem ymX8_meant : yX8_meant.cls ≠ "java/lang/invoke/MethodHandle" ∧ yX8_meant.cls ≠ "java/lang/invoke/VarHandle" ∧ (parseMethodDescriptor yX8_meant.desc).map (fun d => d.parameters.length) = some 2 := ⟨by decide +kernel, by decide +kernel, by decide +kernel⟩
theorem plX8_meant : plainName yX8_meant.cls = true := by decide +kernel
theorem ymX8_toldTrouble : yX8_toldTrouble.cls ≠ "java/lang/invoke/MethodHandle" ∧ yX8_toldTrouble.cls ≠ "java/lang/invoke/VarHandle" ∧ (parseMethodDescriptor yX8_toldTrouble.desc).map (fun d => d.parameters.length) = some 2 := ⟨by decide +kernel, by decide +kernel, by decide +kernel⟩
theorem plX8_toldTrouble : plainName yX8_toldTrouble.cls = true := by decide +kernel
theorem ymX8_judge : yX8_judge.cls ≠ "java/lang/invoke/MethodHandle" ∧ yX8_judge.cls ≠ "java/lang/invoke/VarHandle" ∧ (parseMethodDescriptor yX8_judge.desc).map (fun d => d.parameters.length) = some 2 := ⟨by decide +kernel, by decide +kernel, by decide +kernel⟩
theorem plX8_judge : plainName yX8_judge.cls = true := by decide +kernel
theorem ymX8_wrongTrouble : yX8_wrongTrouble.cls ≠ "java/lang/invoke/MethodHandle" ∧ yX8_wrongTrouble.cls ≠ "java/lang/invoke/VarHandle" ∧ (parseMethodDescriptor yX8_wrongTrouble.desc).map (fun d => d.parameters.length) = some 2 := ⟨by decide +kernel, by decide +kernel, by decide +kernel⟩
theorem plX8_wrongTrouble : plainName yX8_wrongTrouble.cls = true := by decide +kernel
theorem ymX8_means : yX8_means.cls ≠ "java/lang/invoke/MethodHandle" ∧ yX8_means.cls ≠ "java/lang/invoke/VarHandle" ∧ (parseMethodDescriptor yX8_means.desc).map (fun d => d.parameters.length) = some 2 := ⟨by decide +kernel, by decide +kernel, by decide +kernel⟩
theorem plX8_means : plainName yX8_means.cls = true := by decide +kernel
theorem ymX8_stands : yX8_stands.cls ≠ "java/lang/invoke/MethodHandle" ∧ yX8_stands.cls ≠ "java/lang/invoke/VarHandle" ∧ (parseMethodDescriptor yX8_stands.desc).map (fun d => d.parameters.length) = some 3 := ⟨by decide +kernel, by decide +kernel, by decide +kernel⟩
theorem plX8_stands : plainName yX8_stands.cls = true := by decide +kernel
theorem ymX8_done : yX8_done.cls ≠ "java/lang/invoke/MethodHandle" ∧ yX8_done.cls ≠ "java/lang/invoke/VarHandle" ∧ (parseMethodDescriptor yX8_done.desc).map (fun d => d.parameters.length) = some 2 := ⟨by decide +kernel, by decide +kernel, by decide +kernel⟩
theorem plX8_done : plainName yX8_done.cls = true := by decide +kernel
theorem ymX8_peace : yX8_peace.cls ≠ "java/lang/invoke/MethodHandle" ∧ yX8_peace.cls ≠ "java/lang/invoke/VarHandle" ∧ (parseMethodDescriptor yX8_peace.desc).map (fun d => d.parameters.length) = some 1 := ⟨by decide +kernel, by decide +kernel, by decide +kernel⟩
theorem plX8_peace : plainName yX8_peace.cls = true := by decide +kernel
theorem ymX8_years : yX8_years.cls ≠ "java/lang/invoke/MethodHandle" ∧ yX8_years.cls ≠ "java/lang/invoke/VarHandle" ∧ (parseMethodDescriptor yX8_years.desc).map (fun d => d.parameters.length) = some 1 := ⟨by decide +kernel, by decide +kernel, by decide +kernel⟩
theorem plX8_years : plainName yX8_years.cls = true := by decide +kernel
theorem ymX8_seed : yX8_seed.cls ≠ "java/lang/invoke/MethodHandle" ∧ yX8_seed.cls ≠ "java/lang/invoke/VarHandle" ∧ (parseMethodDescriptor yX8_seed.desc).map (fun d => d.parameters.length) = some 1 := ⟨by decide +kernel, by decide +kernel, by decide +kernel⟩
theorem plX8_seed : plainName yX8_seed.cls = true := by decide +kernel
theorem ymX8_image : yX8_image.cls ≠ "java/lang/invoke/MethodHandle" ∧ yX8_image.cls ≠ "java/lang/invoke/VarHandle" ∧ (parseMethodDescriptor yX8_image.desc).map (fun d => d.parameters.length) = some 0 := ⟨by decide +kernel, by decide +kernel, by decide +kernel⟩
theorem plX8_image : plainName yX8_image.cls = true := by decide +kernel
theorem ymX8_back : yX8_back.cls ≠ "java/lang/invoke/MethodHandle" ∧ yX8_back.cls ≠ "java/lang/invoke/VarHandle" ∧ (parseMethodDescriptor yX8_back.desc).map (fun d => d.parameters.length) = some 0 := ⟨by decide +kernel, by decide +kernel, by decide +kernel⟩
theorem plX8_back : plainName yX8_back.cls = true := by decide +kernel
theorem ymX8_shelvesHolding : yX8_shelvesHolding.cls ≠ "java/lang/invoke/MethodHandle" ∧ yX8_shelvesHolding.cls ≠ "java/lang/invoke/VarHandle" ∧ (parseMethodDescriptor yX8_shelvesHolding.desc).map (fun d => d.parameters.length) = some 0 := ⟨by decide +kernel, by decide +kernel, by decide +kernel⟩
theorem plX8_shelvesHolding : plainName yX8_shelvesHolding.cls = true := by decide +kernel
theorem ymX8_status : yX8_status.cls ≠ "java/lang/invoke/MethodHandle" ∧ yX8_status.cls ≠ "java/lang/invoke/VarHandle" ∧ (parseMethodDescriptor yX8_status.desc).map (fun d => d.parameters.length) = some 1 := ⟨by decide +kernel, by decide +kernel, by decide +kernel⟩
theorem plX8_status : plainName yX8_status.cls = true := by decide +kernel
theorem ymX9_no : yX9_no.cls ≠ "java/lang/invoke/MethodHandle" ∧ yX9_no.cls ≠ "java/lang/invoke/VarHandle" ∧ (parseMethodDescriptor yX9_no.desc).map (fun d => d.parameters.length) = some 1 := ⟨by decide +kernel, by decide +kernel, by decide +kernel⟩
theorem plX9_no : plainName yX9_no.cls = true := by decide +kernel
theorem ymX9_noMeaning : yX9_noMeaning.cls ≠ "java/lang/invoke/MethodHandle" ∧ yX9_noMeaning.cls ≠ "java/lang/invoke/VarHandle" ∧ (parseMethodDescriptor yX9_noMeaning.desc).map (fun d => d.parameters.length) = some 1 := ⟨by decide +kernel, by decide +kernel, by decide +kernel⟩
theorem plX9_noMeaning : plainName yX9_noMeaning.cls = true := by decide +kernel
theorem ymX9_within : yX9_within.cls ≠ "java/lang/invoke/MethodHandle" ∧ yX9_within.cls ≠ "java/lang/invoke/VarHandle" ∧ (parseMethodDescriptor yX9_within.desc).map (fun d => d.parameters.length) = some 3 := ⟨by decide +kernel, by decide +kernel, by decide +kernel⟩
theorem plX9_within : plainName yX9_within.cls = true := by decide +kernel
theorem ymX9_has : yX9_has.cls ≠ "java/lang/invoke/MethodHandle" ∧ yX9_has.cls ≠ "java/lang/invoke/VarHandle" ∧ (parseMethodDescriptor yX9_has.desc).map (fun d => d.parameters.length) = some 2 := ⟨by decide +kernel, by decide +kernel, by decide +kernel⟩
theorem plX9_has : plainName yX9_has.cls = true := by decide +kernel
theorem ymX9_isBrother : yX9_isBrother.cls ≠ "java/lang/invoke/MethodHandle" ∧ yX9_isBrother.cls ≠ "java/lang/invoke/VarHandle" ∧ (parseMethodDescriptor yX9_isBrother.desc).map (fun d => d.parameters.length) = some 1 := ⟨by decide +kernel, by decide +kernel, by decide +kernel⟩
theorem plX9_isBrother : plainName yX9_isBrother.cls = true := by decide +kernel
theorem ymX9_isNeed : yX9_isNeed.cls ≠ "java/lang/invoke/MethodHandle" ∧ yX9_isNeed.cls ≠ "java/lang/invoke/VarHandle" ∧ (parseMethodDescriptor yX9_isNeed.desc).map (fun d => d.parameters.length) = some 1 := ⟨by decide +kernel, by decide +kernel, by decide +kernel⟩
theorem plX9_isNeed : plainName yX9_isNeed.cls = true := by decide +kernel
theorem ymX9_isCell : yX9_isCell.cls ≠ "java/lang/invoke/MethodHandle" ∧ yX9_isCell.cls ≠ "java/lang/invoke/VarHandle" ∧ (parseMethodDescriptor yX9_isCell.desc).map (fun d => d.parameters.length) = some 1 := ⟨by decide +kernel, by decide +kernel, by decide +kernel⟩
theorem plX9_isCell : plainName yX9_isCell.cls = true := by decide +kernel
theorem ymX9_isShelf : yX9_isShelf.cls ≠ "java/lang/invoke/MethodHandle" ∧ yX9_isShelf.cls ≠ "java/lang/invoke/VarHandle" ∧ (parseMethodDescriptor yX9_isShelf.desc).map (fun d => d.parameters.length) = some 1 := ⟨by decide +kernel, by decide +kernel, by decide +kernel⟩
theorem plX9_isShelf : plainName yX9_isShelf.cls = true := by decide +kernel
theorem ymX9_isRow : yX9_isRow.cls ≠ "java/lang/invoke/MethodHandle" ∧ yX9_isRow.cls ≠ "java/lang/invoke/VarHandle" ∧ (parseMethodDescriptor yX9_isRow.desc).map (fun d => d.parameters.length) = some 1 := ⟨by decide +kernel, by decide +kernel, by decide +kernel⟩
theorem plX9_isRow : plainName yX9_isRow.cls = true := by decide +kernel
theorem ymX9_row : yX9_row.cls ≠ "java/lang/invoke/MethodHandle" ∧ yX9_row.cls ≠ "java/lang/invoke/VarHandle" ∧ (parseMethodDescriptor yX9_row.desc).map (fun d => d.parameters.length) = some 3 := ⟨by decide +kernel, by decide +kernel, by decide +kernel⟩
theorem plX9_row : plainName yX9_row.cls = true := by decide +kernel
theorem ymX9_noRow : yX9_noRow.cls ≠ "java/lang/invoke/MethodHandle" ∧ yX9_noRow.cls ≠ "java/lang/invoke/VarHandle" ∧ (parseMethodDescriptor yX9_noRow.desc).map (fun d => d.parameters.length) = some 1 := ⟨by decide +kernel, by decide +kernel, by decide +kernel⟩
theorem plX9_noRow : plainName yX9_noRow.cls = true := by decide +kernel
theorem ymX9_kept : yX9_kept.cls ≠ "java/lang/invoke/MethodHandle" ∧ yX9_kept.cls ≠ "java/lang/invoke/VarHandle" ∧ (parseMethodDescriptor yX9_kept.desc).map (fun d => d.parameters.length) = some 2 := ⟨by decide +kernel, by decide +kernel, by decide +kernel⟩
theorem plX9_kept : plainName yX9_kept.cls = true := by decide +kernel
theorem ymX9_set : yX9_set.cls ≠ "java/lang/invoke/MethodHandle" ∧ yX9_set.cls ≠ "java/lang/invoke/VarHandle" ∧ (parseMethodDescriptor yX9_set.desc).map (fun d => d.parameters.length) = some 3 := ⟨by decide +kernel, by decide +kernel, by decide +kernel⟩
theorem plX9_set : plainName yX9_set.cls = true := by decide +kernel
theorem ymX9_copy : yX9_copy.cls ≠ "java/lang/invoke/MethodHandle" ∧ yX9_copy.cls ≠ "java/lang/invoke/VarHandle" ∧ (parseMethodDescriptor yX9_copy.desc).map (fun d => d.parameters.length) = some 5 := ⟨by decide +kernel, by decide +kernel, by decide +kernel⟩
theorem plX9_copy : plainName yX9_copy.cls = true := by decide +kernel
theorem ymX9_element : yX9_element.cls ≠ "java/lang/invoke/MethodHandle" ∧ yX9_element.cls ≠ "java/lang/invoke/VarHandle" ∧ (parseMethodDescriptor yX9_element.desc).map (fun d => d.parameters.length) = some 2 := ⟨by decide +kernel, by decide +kernel, by decide +kernel⟩
theorem plX9_element : plainName yX9_element.cls = true := by decide +kernel
theorem ymX9_holds : yX9_holds.cls ≠ "java/lang/invoke/MethodHandle" ∧ yX9_holds.cls ≠ "java/lang/invoke/VarHandle" ∧ (parseMethodDescriptor yX9_holds.desc).map (fun d => d.parameters.length) = some 1 := ⟨by decide +kernel, by decide +kernel, by decide +kernel⟩
theorem plX9_holds : plainName yX9_holds.cls = true := by decide +kernel
theorem ymX9_show : yX9_show.cls ≠ "java/lang/invoke/MethodHandle" ∧ yX9_show.cls ≠ "java/lang/invoke/VarHandle" ∧ (parseMethodDescriptor yX9_show.desc).map (fun d => d.parameters.length) = some 2 := ⟨by decide +kernel, by decide +kernel, by decide +kernel⟩
theorem plX9_show : plainName yX9_show.cls = true := by decide +kernel
theorem ymX9_isUnder : yX9_isUnder.cls ≠ "java/lang/invoke/MethodHandle" ∧ yX9_isUnder.cls ≠ "java/lang/invoke/VarHandle" ∧ (parseMethodDescriptor yX9_isUnder.desc).map (fun d => d.parameters.length) = some 2 := ⟨by decide +kernel, by decide +kernel, by decide +kernel⟩
theorem plX9_isUnder : plainName yX9_isUnder.cls = true := by decide +kernel
theorem ymX9_says : yX9_says.cls ≠ "java/lang/invoke/MethodHandle" ∧ yX9_says.cls ≠ "java/lang/invoke/VarHandle" ∧ (parseMethodDescriptor yX9_says.desc).map (fun d => d.parameters.length) = some 2 := ⟨by decide +kernel, by decide +kernel, by decide +kernel⟩
theorem plX9_says : plainName yX9_says.cls = true := by decide +kernel
theorem ymX9_newBrother : yX9_newBrother.cls ≠ "java/lang/invoke/MethodHandle" ∧ yX9_newBrother.cls ≠ "java/lang/invoke/VarHandle" ∧ (parseMethodDescriptor yX9_newBrother.desc).map (fun d => d.parameters.length) = some 3 := ⟨by decide +kernel, by decide +kernel, by decide +kernel⟩
theorem plX9_newBrother : plainName yX9_newBrother.cls = true := by decide +kernel
theorem ymX9_brother : yX9_brother.cls ≠ "java/lang/invoke/MethodHandle" ∧ yX9_brother.cls ≠ "java/lang/invoke/VarHandle" ∧ (parseMethodDescriptor yX9_brother.desc).map (fun d => d.parameters.length) = some 3 := ⟨by decide +kernel, by decide +kernel, by decide +kernel⟩
theorem plX9_brother : plainName yX9_brother.cls = true := by decide +kernel
theorem ymX9_feudBe : yX9_feudBe.cls ≠ "java/lang/invoke/MethodHandle" ∧ yX9_feudBe.cls ≠ "java/lang/invoke/VarHandle" ∧ (parseMethodDescriptor yX9_feudBe.desc).map (fun d => d.parameters.length) = some 3 := ⟨by decide +kernel, by decide +kernel, by decide +kernel⟩
theorem plX9_feudBe : plainName yX9_feudBe.cls = true := by decide +kernel
theorem ymX9_feud : yX9_feud.cls ≠ "java/lang/invoke/MethodHandle" ∧ yX9_feud.cls ≠ "java/lang/invoke/VarHandle" ∧ (parseMethodDescriptor yX9_feud.desc).map (fun d => d.parameters.length) = some 3 := ⟨by decide +kernel, by decide +kernel, by decide +kernel⟩
theorem plX9_feud : plainName yX9_feud.cls = true := by decide +kernel
theorem ymX9_newNeed : yX9_newNeed.cls ≠ "java/lang/invoke/MethodHandle" ∧ yX9_newNeed.cls ≠ "java/lang/invoke/VarHandle" ∧ (parseMethodDescriptor yX9_newNeed.desc).map (fun d => d.parameters.length) = some 1 := ⟨by decide +kernel, by decide +kernel, by decide +kernel⟩
theorem plX9_newNeed : plainName yX9_newNeed.cls = true := by decide +kernel
theorem ymX9_need : yX9_need.cls ≠ "java/lang/invoke/MethodHandle" ∧ yX9_need.cls ≠ "java/lang/invoke/VarHandle" ∧ (parseMethodDescriptor yX9_need.desc).map (fun d => d.parameters.length) = some 1 := ⟨by decide +kernel, by decide +kernel, by decide +kernel⟩
theorem plX9_need : plainName yX9_need.cls = true := by decide +kernel
theorem ymX9_age : yX9_age.cls ≠ "java/lang/invoke/MethodHandle" ∧ yX9_age.cls ≠ "java/lang/invoke/VarHandle" ∧ (parseMethodDescriptor yX9_age.desc).map (fun d => d.parameters.length) = some 2 := ⟨by decide +kernel, by decide +kernel, by decide +kernel⟩
theorem plX9_age : plainName yX9_age.cls = true := by decide +kernel
theorem ymX9_goes : yX9_goes.cls ≠ "java/lang/invoke/MethodHandle" ∧ yX9_goes.cls ≠ "java/lang/invoke/VarHandle" ∧ (parseMethodDescriptor yX9_goes.desc).map (fun d => d.parameters.length) = some 2 := ⟨by decide +kernel, by decide +kernel, by decide +kernel⟩
theorem plX9_goes : plainName yX9_goes.cls = true := by decide +kernel
theorem ymX9_living : yX9_living.cls ≠ "java/lang/invoke/MethodHandle" ∧ yX9_living.cls ≠ "java/lang/invoke/VarHandle" ∧ (parseMethodDescriptor yX9_living.desc).map (fun d => d.parameters.length) = some 0 := ⟨by decide +kernel, by decide +kernel, by decide +kernel⟩
theorem plX9_living : plainName yX9_living.cls = true := by decide +kernel
theorem ymX9_dies : yX9_dies.cls ≠ "java/lang/invoke/MethodHandle" ∧ yX9_dies.cls ≠ "java/lang/invoke/VarHandle" ∧ (parseMethodDescriptor yX9_dies.desc).map (fun d => d.parameters.length) = some 1 := ⟨by decide +kernel, by decide +kernel, by decide +kernel⟩
theorem plX9_dies : plainName yX9_dies.cls = true := by decide +kernel
theorem ymX9_feed : yX9_feed.cls ≠ "java/lang/invoke/MethodHandle" ∧ yX9_feed.cls ≠ "java/lang/invoke/VarHandle" ∧ (parseMethodDescriptor yX9_feed.desc).map (fun d => d.parameters.length) = some 1 := ⟨by decide +kernel, by decide +kernel, by decide +kernel⟩
theorem plX9_feed : plainName yX9_feed.cls = true := by decide +kernel
theorem ymX9_wipe : yX9_wipe.cls ≠ "java/lang/invoke/MethodHandle" ∧ yX9_wipe.cls ≠ "java/lang/invoke/VarHandle" ∧ (parseMethodDescriptor yX9_wipe.desc).map (fun d => d.parameters.length) = some 0 := ⟨by decide +kernel, by decide +kernel, by decide +kernel⟩
theorem plX9_wipe : plainName yX9_wipe.cls = true := by decide +kernel
theorem ymX9_isLetter : yX9_isLetter.cls ≠ "java/lang/invoke/MethodHandle" ∧ yX9_isLetter.cls ≠ "java/lang/invoke/VarHandle" ∧ (parseMethodDescriptor yX9_isLetter.desc).map (fun d => d.parameters.length) = some 1 := ⟨by decide +kernel, by decide +kernel, by decide +kernel⟩
theorem plX9_isLetter : plainName yX9_isLetter.cls = true := by decide +kernel
theorem ymX9_isDigit : yX9_isDigit.cls ≠ "java/lang/invoke/MethodHandle" ∧ yX9_isDigit.cls ≠ "java/lang/invoke/VarHandle" ∧ (parseMethodDescriptor yX9_isDigit.desc).map (fun d => d.parameters.length) = some 1 := ⟨by decide +kernel, by decide +kernel, by decide +kernel⟩
theorem plX9_isDigit : plainName yX9_isDigit.cls = true := by decide +kernel
theorem ymX9_next : yX9_next.cls ≠ "java/lang/invoke/MethodHandle" ∧ yX9_next.cls ≠ "java/lang/invoke/VarHandle" ∧ (parseMethodDescriptor yX9_next.desc).map (fun d => d.parameters.length) = some 0 := ⟨by decide +kernel, by decide +kernel, by decide +kernel⟩
theorem plX9_next : plainName yX9_next.cls = true := by decide +kernel
theorem ymX9_isWord : yX9_isWord.cls ≠ "java/lang/invoke/MethodHandle" ∧ yX9_isWord.cls ≠ "java/lang/invoke/VarHandle" ∧ (parseMethodDescriptor yX9_isWord.desc).map (fun d => d.parameters.length) = some 1 := ⟨by decide +kernel, by decide +kernel, by decide +kernel⟩
theorem plX9_isWord : plainName yX9_isWord.cls = true := by decide +kernel
theorem ymX9_number : yX9_number.cls ≠ "java/lang/invoke/MethodHandle" ∧ yX9_number.cls ≠ "java/lang/invoke/VarHandle" ∧ (parseMethodDescriptor yX9_number.desc).map (fun d => d.parameters.length) = some 2 := ⟨by decide +kernel, by decide +kernel, by decide +kernel⟩
theorem plX9_number : plainName yX9_number.cls = true := by decide +kernel
theorem ymX9_two : yX9_two.cls ≠ "java/lang/invoke/MethodHandle" ∧ yX9_two.cls ≠ "java/lang/invoke/VarHandle" ∧ (parseMethodDescriptor yX9_two.desc).map (fun d => d.parameters.length) = some 1 := ⟨by decide +kernel, by decide +kernel, by decide +kernel⟩
theorem plX9_two : plainName yX9_two.cls = true := by decide +kernel
theorem ymX9_statement : yX9_statement.cls ≠ "java/lang/invoke/MethodHandle" ∧ yX9_statement.cls ≠ "java/lang/invoke/VarHandle" ∧ (parseMethodDescriptor yX9_statement.desc).map (fun d => d.parameters.length) = some 0 := ⟨by decide +kernel, by decide +kernel, by decide +kernel⟩
theorem plX9_statement : plainName yX9_statement.cls = true := by decide +kernel
theorem ymX9_keep : yX9_keep.cls ≠ "java/lang/invoke/MethodHandle" ∧ yX9_keep.cls ≠ "java/lang/invoke/VarHandle" ∧ (parseMethodDescriptor yX9_keep.desc).map (fun d => d.parameters.length) = some 1 := ⟨by decide +kernel, by decide +kernel, by decide +kernel⟩
theorem plX9_keep : plainName yX9_keep.cls = true := by decide +kernel
theorem ymX9_again : yX9_again.cls ≠ "java/lang/invoke/MethodHandle" ∧ yX9_again.cls ≠ "java/lang/invoke/VarHandle" ∧ (parseMethodDescriptor yX9_again.desc).map (fun d => d.parameters.length) = some 1 := ⟨by decide +kernel, by decide +kernel, by decide +kernel⟩
theorem plX9_again : plainName yX9_again.cls = true := by decide +kernel
theorem ymX9_rock : yX9_rock.cls ≠ "java/lang/invoke/MethodHandle" ∧ yX9_rock.cls ≠ "java/lang/invoke/VarHandle" ∧ (parseMethodDescriptor yX9_rock.desc).map (fun d => d.parameters.length) = some 0 := ⟨by decide +kernel, by decide +kernel, by decide +kernel⟩
theorem plX9_rock : plainName yX9_rock.cls = true := by decide +kernel
theorem ymX9_brotherOf : yX9_brotherOf.cls ≠ "java/lang/invoke/MethodHandle" ∧ yX9_brotherOf.cls ≠ "java/lang/invoke/VarHandle" ∧ (parseMethodDescriptor yX9_brotherOf.desc).map (fun d => d.parameters.length) = some 2 := ⟨by decide +kernel, by decide +kernel, by decide +kernel⟩
theorem plX9_brotherOf : plainName yX9_brotherOf.cls = true := by decide +kernel
theorem ymX9_needOf : yX9_needOf.cls ≠ "java/lang/invoke/MethodHandle" ∧ yX9_needOf.cls ≠ "java/lang/invoke/VarHandle" ∧ (parseMethodDescriptor yX9_needOf.desc).map (fun d => d.parameters.length) = some 1 := ⟨by decide +kernel, by decide +kernel, by decide +kernel⟩
theorem plX9_needOf : plainName yX9_needOf.cls = true := by decide +kernel
theorem ymX9_step : yX9_step.cls ≠ "java/lang/invoke/MethodHandle" ∧ yX9_step.cls ≠ "java/lang/invoke/VarHandle" ∧ (parseMethodDescriptor yX9_step.desc).map (fun d => d.parameters.length) = some 2 := ⟨by decide +kernel, by decide +kernel, by decide +kernel⟩
theorem plX9_step : plainName yX9_step.cls = true := by decide +kernel
theorem ymX9_isEnd : yX9_isEnd.cls ≠ "java/lang/invoke/MethodHandle" ∧ yX9_isEnd.cls ≠ "java/lang/invoke/VarHandle" ∧ (parseMethodDescriptor yX9_isEnd.desc).map (fun d => d.parameters.length) = some 1 := ⟨by decide +kernel, by decide +kernel, by decide +kernel⟩
theorem plX9_isEnd : plainName yX9_isEnd.cls = true := by decide +kernel
theorem ymX9_begins : yX9_begins.cls ≠ "java/lang/invoke/MethodHandle" ∧ yX9_begins.cls ≠ "java/lang/invoke/VarHandle" ∧ (parseMethodDescriptor yX9_begins.desc).map (fun d => d.parameters.length) = some 3 := ⟨by decide +kernel, by decide +kernel, by decide +kernel⟩
theorem plX9_begins : plainName yX9_begins.cls = true := by decide +kernel
theorem ymX9_canStand : yX9_canStand.cls ≠ "java/lang/invoke/MethodHandle" ∧ yX9_canStand.cls ≠ "java/lang/invoke/VarHandle" ∧ (parseMethodDescriptor yX9_canStand.desc).map (fun d => d.parameters.length) = some 1 := ⟨by decide +kernel, by decide +kernel, by decide +kernel⟩
theorem plX9_canStand : plainName yX9_canStand.cls = true := by decide +kernel
theorem ymX9_goesOn : yX9_goesOn.cls ≠ "java/lang/invoke/MethodHandle" ∧ yX9_goesOn.cls ≠ "java/lang/invoke/VarHandle" ∧ (parseMethodDescriptor yX9_goesOn.desc).map (fun d => d.parameters.length) = some 0 := ⟨by decide +kernel, by decide +kernel, by decide +kernel⟩
theorem plX9_goesOn : plainName yX9_goesOn.cls = true := by decide +kernel
theorem ymX9_meaning : yX9_meaning.cls ≠ "java/lang/invoke/MethodHandle" ∧ yX9_meaning.cls ≠ "java/lang/invoke/VarHandle" ∧ (parseMethodDescriptor yX9_meaning.desc).map (fun d => d.parameters.length) = some 1 := ⟨by decide +kernel, by decide +kernel, by decide +kernel⟩
theorem plX9_meaning : plainName yX9_meaning.cls = true := by decide +kernel
theorem ymX9_shortestBy : yX9_shortestBy.cls ≠ "java/lang/invoke/MethodHandle" ∧ yX9_shortestBy.cls ≠ "java/lang/invoke/VarHandle" ∧ (parseMethodDescriptor yX9_shortestBy.desc).map (fun d => d.parameters.length) = some 4 := ⟨by decide +kernel, by decide +kernel, by decide +kernel⟩
theorem plX9_shortestBy : plainName yX9_shortestBy.cls = true := by decide +kernel
theorem ymX9_shortest : yX9_shortest.cls ≠ "java/lang/invoke/MethodHandle" ∧ yX9_shortest.cls ≠ "java/lang/invoke/VarHandle" ∧ (parseMethodDescriptor yX9_shortest.desc).map (fun d => d.parameters.length) = some 4 := ⟨by decide +kernel, by decide +kernel, by decide +kernel⟩
theorem plX9_shortest : plainName yX9_shortest.cls = true := by decide +kernel
theorem ymX9_means : yX9_means.cls ≠ "java/lang/invoke/MethodHandle" ∧ yX9_means.cls ≠ "java/lang/invoke/VarHandle" ∧ (parseMethodDescriptor yX9_means.desc).map (fun d => d.parameters.length) = some 4 := ⟨by decide +kernel, by decide +kernel, by decide +kernel⟩
theorem plX9_means : plainName yX9_means.cls = true := by decide +kernel
theorem ymX9_isAny : yX9_isAny.cls ≠ "java/lang/invoke/MethodHandle" ∧ yX9_isAny.cls ≠ "java/lang/invoke/VarHandle" ∧ (parseMethodDescriptor yX9_isAny.desc).map (fun d => d.parameters.length) = some 1 := ⟨by decide +kernel, by decide +kernel, by decide +kernel⟩
theorem plX9_isAny : plainName yX9_isAny.cls = true := by decide +kernel
theorem ymX9_said : yX9_said.cls ≠ "java/lang/invoke/MethodHandle" ∧ yX9_said.cls ≠ "java/lang/invoke/VarHandle" ∧ (parseMethodDescriptor yX9_said.desc).map (fun d => d.parameters.length) = some 2 := ⟨by decide +kernel, by decide +kernel, by decide +kernel⟩
theorem plX9_said : plainName yX9_said.cls = true := by decide +kernel
theorem ymX9_metBy : yX9_metBy.cls ≠ "java/lang/invoke/MethodHandle" ∧ yX9_metBy.cls ≠ "java/lang/invoke/VarHandle" ∧ (parseMethodDescriptor yX9_metBy.desc).map (fun d => d.parameters.length) = some 1 := ⟨by decide +kernel, by decide +kernel, by decide +kernel⟩
theorem plX9_metBy : plainName yX9_metBy.cls = true := by decide +kernel
theorem ymX9_met : yX9_met.cls ≠ "java/lang/invoke/MethodHandle" ∧ yX9_met.cls ≠ "java/lang/invoke/VarHandle" ∧ (parseMethodDescriptor yX9_met.desc).map (fun d => d.parameters.length) = some 0 := ⟨by decide +kernel, by decide +kernel, by decide +kernel⟩
theorem plX9_met : plainName yX9_met.cls = true := by decide +kernel
theorem ymX9_lostBy : yX9_lostBy.cls ≠ "java/lang/invoke/MethodHandle" ∧ yX9_lostBy.cls ≠ "java/lang/invoke/VarHandle" ∧ (parseMethodDescriptor yX9_lostBy.desc).map (fun d => d.parameters.length) = some 1 := ⟨by decide +kernel, by decide +kernel, by decide +kernel⟩
theorem plX9_lostBy : plainName yX9_lostBy.cls = true := by decide +kernel
theorem ymX9_without : yX9_without.cls ≠ "java/lang/invoke/MethodHandle" ∧ yX9_without.cls ≠ "java/lang/invoke/VarHandle" ∧ (parseMethodDescriptor yX9_without.desc).map (fun d => d.parameters.length) = some 2 := ⟨by decide +kernel, by decide +kernel, by decide +kernel⟩
theorem plX9_without : plainName yX9_without.cls = true := by decide +kernel
theorem ymX9_mightiest : yX9_mightiest.cls ≠ "java/lang/invoke/MethodHandle" ∧ yX9_mightiest.cls ≠ "java/lang/invoke/VarHandle" ∧ (parseMethodDescriptor yX9_mightiest.desc).map (fun d => d.parameters.length) = some 0 := ⟨by decide +kernel, by decide +kernel, by decide +kernel⟩
theorem plX9_mightiest : plainName yX9_mightiest.cls = true := by decide +kernel
theorem ymX9_choice : yX9_choice.cls ≠ "java/lang/invoke/MethodHandle" ∧ yX9_choice.cls ≠ "java/lang/invoke/VarHandle" ∧ (parseMethodDescriptor yX9_choice.desc).map (fun d => d.parameters.length) = some 1 := ⟨by decide +kernel, by decide +kernel, by decide +kernel⟩
theorem plX9_choice : plainName yX9_choice.cls = true := by decide +kernel
theorem ymX9_isUnmet : yX9_isUnmet.cls ≠ "java/lang/invoke/MethodHandle" ∧ yX9_isUnmet.cls ≠ "java/lang/invoke/VarHandle" ∧ (parseMethodDescriptor yX9_isUnmet.desc).map (fun d => d.parameters.length) = some 2 := ⟨by decide +kernel, by decide +kernel, by decide +kernel⟩
theorem plX9_isUnmet : plainName yX9_isUnmet.cls = true := by decide +kernel
theorem ymX9_fewest : yX9_fewest.cls ≠ "java/lang/invoke/MethodHandle" ∧ yX9_fewest.cls ≠ "java/lang/invoke/VarHandle" ∧ (parseMethodDescriptor yX9_fewest.desc).map (fun d => d.parameters.length) = some 1 := ⟨by decide +kernel, by decide +kernel, by decide +kernel⟩
theorem plX9_fewest : plainName yX9_fewest.cls = true := by decide +kernel
theorem ymX9_lost : yX9_lost.cls ≠ "java/lang/invoke/MethodHandle" ∧ yX9_lost.cls ≠ "java/lang/invoke/VarHandle" ∧ (parseMethodDescriptor yX9_lost.desc).map (fun d => d.parameters.length) = some 2 := ⟨by decide +kernel, by decide +kernel, by decide +kernel⟩
theorem plX9_lost : plainName yX9_lost.cls = true := by decide +kernel
theorem ymX9_isSet : yX9_isSet.cls ≠ "java/lang/invoke/MethodHandle" ∧ yX9_isSet.cls ≠ "java/lang/invoke/VarHandle" ∧ (parseMethodDescriptor yX9_isSet.desc).map (fun d => d.parameters.length) = some 1 := ⟨by decide +kernel, by decide +kernel, by decide +kernel⟩
theorem plX9_isSet : plainName yX9_isSet.cls = true := by decide +kernel
theorem ymX9_ran : yX9_ran.cls ≠ "java/lang/invoke/MethodHandle" ∧ yX9_ran.cls ≠ "java/lang/invoke/VarHandle" ∧ (parseMethodDescriptor yX9_ran.desc).map (fun d => d.parameters.length) = some 2 := ⟨by decide +kernel, by decide +kernel, by decide +kernel⟩
theorem plX9_ran : plainName yX9_ran.cls = true := by decide +kernel
theorem ymX9_meant : yX9_meant.cls ≠ "java/lang/invoke/MethodHandle" ∧ yX9_meant.cls ≠ "java/lang/invoke/VarHandle" ∧ (parseMethodDescriptor yX9_meant.desc).map (fun d => d.parameters.length) = some 2 := ⟨by decide +kernel, by decide +kernel, by decide +kernel⟩
theorem plX9_meant : plainName yX9_meant.cls = true := by decide +kernel
theorem ymX9_rows : yX9_rows.cls ≠ "java/lang/invoke/MethodHandle" ∧ yX9_rows.cls ≠ "java/lang/invoke/VarHandle" ∧ (parseMethodDescriptor yX9_rows.desc).map (fun d => d.parameters.length) = some 2 := ⟨by decide +kernel, by decide +kernel, by decide +kernel⟩
theorem plX9_rows : plainName yX9_rows.cls = true := by decide +kernel
theorem ymX9_many : yX9_many.cls ≠ "java/lang/invoke/MethodHandle" ∧ yX9_many.cls ≠ "java/lang/invoke/VarHandle" ∧ (parseMethodDescriptor yX9_many.desc).map (fun d => d.parameters.length) = some 2 := ⟨by decide +kernel, by decide +kernel, by decide +kernel⟩
theorem plX9_many : plainName yX9_many.cls = true := by decide +kernel
theorem ymX9_who : yX9_who.cls ≠ "java/lang/invoke/MethodHandle" ∧ yX9_who.cls ≠ "java/lang/invoke/VarHandle" ∧ (parseMethodDescriptor yX9_who.desc).map (fun d => d.parameters.length) = some 1 := ⟨by decide +kernel, by decide +kernel, by decide +kernel⟩
theorem plX9_who : plainName yX9_who.cls = true := by decide +kernel
theorem ymX9_nearest : yX9_nearest.cls ≠ "java/lang/invoke/MethodHandle" ∧ yX9_nearest.cls ≠ "java/lang/invoke/VarHandle" ∧ (parseMethodDescriptor yX9_nearest.desc).map (fun d => d.parameters.length) = some 1 := ⟨by decide +kernel, by decide +kernel, by decide +kernel⟩
theorem plX9_nearest : plainName yX9_nearest.cls = true := by decide +kernel
theorem ymX9_longest : yX9_longest.cls ≠ "java/lang/invoke/MethodHandle" ∧ yX9_longest.cls ≠ "java/lang/invoke/VarHandle" ∧ (parseMethodDescriptor yX9_longest.desc).map (fun d => d.parameters.length) = some 1 := ⟨by decide +kernel, by decide +kernel, by decide +kernel⟩
theorem plX9_longest : plainName yX9_longest.cls = true := by decide +kernel
theorem ymX9_noSaying : yX9_noSaying.cls ≠ "java/lang/invoke/MethodHandle" ∧ yX9_noSaying.cls ≠ "java/lang/invoke/VarHandle" ∧ (parseMethodDescriptor yX9_noSaying.desc).map (fun d => d.parameters.length) = some 2 := ⟨by decide +kernel, by decide +kernel, by decide +kernel⟩
theorem plX9_noSaying : plainName yX9_noSaying.cls = true := by decide +kernel
theorem ymX9_wrong : yX9_wrong.cls ≠ "java/lang/invoke/MethodHandle" ∧ yX9_wrong.cls ≠ "java/lang/invoke/VarHandle" ∧ (parseMethodDescriptor yX9_wrong.desc).map (fun d => d.parameters.length) = some 2 := ⟨by decide +kernel, by decide +kernel, by decide +kernel⟩
theorem plX9_wrong : plainName yX9_wrong.cls = true := by decide +kernel
theorem ymX9_judge : yX9_judge.cls ≠ "java/lang/invoke/MethodHandle" ∧ yX9_judge.cls ≠ "java/lang/invoke/VarHandle" ∧ (parseMethodDescriptor yX9_judge.desc).map (fun d => d.parameters.length) = some 2 := ⟨by decide +kernel, by decide +kernel, by decide +kernel⟩
theorem plX9_judge : plainName yX9_judge.cls = true := by decide +kernel
theorem ymX9_means_ : yX9_means_.cls ≠ "java/lang/invoke/MethodHandle" ∧ yX9_means_.cls ≠ "java/lang/invoke/VarHandle" ∧ (parseMethodDescriptor yX9_means_.desc).map (fun d => d.parameters.length) = some 2 := ⟨by decide +kernel, by decide +kernel, by decide +kernel⟩
theorem plX9_means_ : plainName yX9_means_.cls = true := by decide +kernel
theorem ymX9_soonFrom : yX9_soonFrom.cls ≠ "java/lang/invoke/MethodHandle" ∧ yX9_soonFrom.cls ≠ "java/lang/invoke/VarHandle" ∧ (parseMethodDescriptor yX9_soonFrom.desc).map (fun d => d.parameters.length) = some 2 := ⟨by decide +kernel, by decide +kernel, by decide +kernel⟩
theorem plX9_soonFrom : plainName yX9_soonFrom.cls = true := by decide +kernel
theorem ymX9_bestColumn : yX9_bestColumn.cls ≠ "java/lang/invoke/MethodHandle" ∧ yX9_bestColumn.cls ≠ "java/lang/invoke/VarHandle" ∧ (parseMethodDescriptor yX9_bestColumn.desc).map (fun d => d.parameters.length) = some 1 := ⟨by decide +kernel, by decide +kernel, by decide +kernel⟩
theorem plX9_bestColumn : plainName yX9_bestColumn.cls = true := by decide +kernel
theorem ymX9_stands : yX9_stands.cls ≠ "java/lang/invoke/MethodHandle" ∧ yX9_stands.cls ≠ "java/lang/invoke/VarHandle" ∧ (parseMethodDescriptor yX9_stands.desc).map (fun d => d.parameters.length) = some 3 := ⟨by decide +kernel, by decide +kernel, by decide +kernel⟩
theorem plX9_stands : plainName yX9_stands.cls = true := by decide +kernel
theorem ymX9_done : yX9_done.cls ≠ "java/lang/invoke/MethodHandle" ∧ yX9_done.cls ≠ "java/lang/invoke/VarHandle" ∧ (parseMethodDescriptor yX9_done.desc).map (fun d => d.parameters.length) = some 2 := ⟨by decide +kernel, by decide +kernel, by decide +kernel⟩
theorem plX9_done : plainName yX9_done.cls = true := by decide +kernel
theorem ymX9_peace : yX9_peace.cls ≠ "java/lang/invoke/MethodHandle" ∧ yX9_peace.cls ≠ "java/lang/invoke/VarHandle" ∧ (parseMethodDescriptor yX9_peace.desc).map (fun d => d.parameters.length) = some 1 := ⟨by decide +kernel, by decide +kernel, by decide +kernel⟩
theorem plX9_peace : plainName yX9_peace.cls = true := by decide +kernel
theorem ymX9_rank : yX9_rank.cls ≠ "java/lang/invoke/MethodHandle" ∧ yX9_rank.cls ≠ "java/lang/invoke/VarHandle" ∧ (parseMethodDescriptor yX9_rank.desc).map (fun d => d.parameters.length) = some 2 := ⟨by decide +kernel, by decide +kernel, by decide +kernel⟩
theorem plX9_rank : plainName yX9_rank.cls = true := by decide +kernel
theorem ymX9_first : yX9_first.cls ≠ "java/lang/invoke/MethodHandle" ∧ yX9_first.cls ≠ "java/lang/invoke/VarHandle" ∧ (parseMethodDescriptor yX9_first.desc).map (fun d => d.parameters.length) = some 1 := ⟨by decide +kernel, by decide +kernel, by decide +kernel⟩
theorem plX9_first : plainName yX9_first.cls = true := by decide +kernel
theorem ymX9_manyOn : yX9_manyOn.cls ≠ "java/lang/invoke/MethodHandle" ∧ yX9_manyOn.cls ≠ "java/lang/invoke/VarHandle" ∧ (parseMethodDescriptor yX9_manyOn.desc).map (fun d => d.parameters.length) = some 1 := ⟨by decide +kernel, by decide +kernel, by decide +kernel⟩
theorem plX9_manyOn : plainName yX9_manyOn.cls = true := by decide +kernel
theorem ymX9_crowd : yX9_crowd.cls ≠ "java/lang/invoke/MethodHandle" ∧ yX9_crowd.cls ≠ "java/lang/invoke/VarHandle" ∧ (parseMethodDescriptor yX9_crowd.desc).map (fun d => d.parameters.length) = some 0 := ⟨by decide +kernel, by decide +kernel, by decide +kernel⟩
theorem plX9_crowd : plainName yX9_crowd.cls = true := by decide +kernel
theorem ymX9_mostSteps : yX9_mostSteps.cls ≠ "java/lang/invoke/MethodHandle" ∧ yX9_mostSteps.cls ≠ "java/lang/invoke/VarHandle" ∧ (parseMethodDescriptor yX9_mostSteps.desc).map (fun d => d.parameters.length) = some 1 := ⟨by decide +kernel, by decide +kernel, by decide +kernel⟩
theorem plX9_mostSteps : plainName yX9_mostSteps.cls = true := by decide +kernel
theorem ymX9_gather : yX9_gather.cls ≠ "java/lang/invoke/MethodHandle" ∧ yX9_gather.cls ≠ "java/lang/invoke/VarHandle" ∧ (parseMethodDescriptor yX9_gather.desc).map (fun d => d.parameters.length) = some 0 := ⟨by decide +kernel, by decide +kernel, by decide +kernel⟩
theorem plX9_gather : plainName yX9_gather.cls = true := by decide +kernel
theorem ymX9_alone : yX9_alone.cls ≠ "java/lang/invoke/MethodHandle" ∧ yX9_alone.cls ≠ "java/lang/invoke/VarHandle" ∧ (parseMethodDescriptor yX9_alone.desc).map (fun d => d.parameters.length) = some 0 := ⟨by decide +kernel, by decide +kernel, by decide +kernel⟩
theorem plX9_alone : plainName yX9_alone.cls = true := by decide +kernel
theorem ymX9_lasting : yX9_lasting.cls ≠ "java/lang/invoke/MethodHandle" ∧ yX9_lasting.cls ≠ "java/lang/invoke/VarHandle" ∧ (parseMethodDescriptor yX9_lasting.desc).map (fun d => d.parameters.length) = some 0 := ⟨by decide +kernel, by decide +kernel, by decide +kernel⟩
theorem plX9_lasting : plainName yX9_lasting.cls = true := by decide +kernel
theorem ymX9_draw : yX9_draw.cls ≠ "java/lang/invoke/MethodHandle" ∧ yX9_draw.cls ≠ "java/lang/invoke/VarHandle" ∧ (parseMethodDescriptor yX9_draw.desc).map (fun d => d.parameters.length) = some 1 := ⟨by decide +kernel, by decide +kernel, by decide +kernel⟩
theorem plX9_draw : plainName yX9_draw.cls = true := by decide +kernel
theorem ymX9_years : yX9_years.cls ≠ "java/lang/invoke/MethodHandle" ∧ yX9_years.cls ≠ "java/lang/invoke/VarHandle" ∧ (parseMethodDescriptor yX9_years.desc).map (fun d => d.parameters.length) = some 1 := ⟨by decide +kernel, by decide +kernel, by decide +kernel⟩
theorem plX9_years : plainName yX9_years.cls = true := by decide +kernel
theorem ymX9_seed : yX9_seed.cls ≠ "java/lang/invoke/MethodHandle" ∧ yX9_seed.cls ≠ "java/lang/invoke/VarHandle" ∧ (parseMethodDescriptor yX9_seed.desc).map (fun d => d.parameters.length) = some 1 := ⟨by decide +kernel, by decide +kernel, by decide +kernel⟩
theorem plX9_seed : plainName yX9_seed.cls = true := by decide +kernel
theorem ymX9_image : yX9_image.cls ≠ "java/lang/invoke/MethodHandle" ∧ yX9_image.cls ≠ "java/lang/invoke/VarHandle" ∧ (parseMethodDescriptor yX9_image.desc).map (fun d => d.parameters.length) = some 0 := ⟨by decide +kernel, by decide +kernel, by decide +kernel⟩
theorem plX9_image : plainName yX9_image.cls = true := by decide +kernel
theorem ymX9_back : yX9_back.cls ≠ "java/lang/invoke/MethodHandle" ∧ yX9_back.cls ≠ "java/lang/invoke/VarHandle" ∧ (parseMethodDescriptor yX9_back.desc).map (fun d => d.parameters.length) = some 0 := ⟨by decide +kernel, by decide +kernel, by decide +kernel⟩
theorem plX9_back : plainName yX9_back.cls = true := by decide +kernel
theorem ymX9_pairs : yX9_pairs.cls ≠ "java/lang/invoke/MethodHandle" ∧ yX9_pairs.cls ≠ "java/lang/invoke/VarHandle" ∧ (parseMethodDescriptor yX9_pairs.desc).map (fun d => d.parameters.length) = some 0 := ⟨by decide +kernel, by decide +kernel, by decide +kernel⟩
theorem plX9_pairs : plainName yX9_pairs.cls = true := by decide +kernel
theorem ymX9_ages : yX9_ages.cls ≠ "java/lang/invoke/MethodHandle" ∧ yX9_ages.cls ≠ "java/lang/invoke/VarHandle" ∧ (parseMethodDescriptor yX9_ages.desc).map (fun d => d.parameters.length) = some 0 := ⟨by decide +kernel, by decide +kernel, by decide +kernel⟩
theorem plX9_ages : plainName yX9_ages.cls = true := by decide +kernel
theorem ymX9_status : yX9_status.cls ≠ "java/lang/invoke/MethodHandle" ∧ yX9_status.cls ≠ "java/lang/invoke/VarHandle" ∧ (parseMethodDescriptor yX9_status.desc).map (fun d => d.parameters.length) = some 1 := ⟨by decide +kernel, by decide +kernel, by decide +kernel⟩
theorem plX9_status : plainName yX9_status.cls = true := by decide +kernel
theorem cwX0_isKind : Cond.code yX0_isKind cX0_isKind 1 (some .boolean) ∈ XB := xb_m2 90 (by decide +kernel) rfl
theorem swX0_isKind : Cond.static yX0_isKind ∈ XB := xb_m2 89 (by decide +kernel) rfl
theorem cwX0_isUnder : Cond.code yX0_isUnder cX0_isUnder 2 (some .boolean) ∈ XB := xb_m2 93 (by decide +kernel) rfl
theorem swX0_isUnder : Cond.static yX0_isUnder ∈ XB := xb_m2 92 (by decide +kernel) rfl
theorem cwX0_next : Cond.code yX0_next cX0_next 2 (some .int) ∈ XB := xb_m3 140 (by decide +kernel) rfl
theorem swX0_next : Cond.static yX0_next ∈ XB := xb_m3 139 (by decide +kernel) rfl
theorem cwX0_wants : Cond.code yX0_wants cX0_wants 1 (some .int) ∈ XB := xb_m3 146 (by decide +kernel) rfl
theorem swX0_wants : Cond.static yX0_wants ∈ XB := xb_m3 145 (by decide +kernel) rfl
theorem cwX0_mayEnd : Cond.code yX0_mayEnd cX0_mayEnd 1 (some .boolean) ∈ XB := xb_m3 163 (by decide +kernel) rfl
theorem swX0_mayEnd : Cond.static yX0_mayEnd ∈ XB := xb_m3 162 (by decide +kernel) rfl
theorem cwX4_upTo : Cond.code yX4_upTo cX4_upTo 2 (some .int) ∈ XB := xb_m3 178 (by decide +kernel) rfl
theorem nwX4_upTo : Cond.instanceMethod yX4_upTo ∈ XB := xb_m3 176 (by decide +kernel) rfl
theorem ewX4_upTo : Cond.selects yX4_upTo.cls yX4_upTo yX4_upTo ∈ XB := xb_m3 177 (by decide +kernel) rfl
theorem cwX4_at : Cond.code yX4_at cX4_at 2 (some .long) ∈ XB := xb_m3 129 (by decide +kernel) rfl
theorem nwX4_at : Cond.instanceMethod yX4_at ∈ XB := xb_m3 128 (by decide +kernel) rfl
theorem ewX4_at : Cond.selects yX4_at.cls yX4_at yX4_at ∈ XB := xb_m0 18 (by decide +kernel) rfl
theorem cwX4_meaningOf : Cond.code yX4_meaningOf cX4_meaningOf 2 (some .int) ∈ XB := xb_m3 182 (by decide +kernel) rfl
theorem nwX4_meaningOf : Cond.instanceMethod yX4_meaningOf ∈ XB := xb_m3 180 (by decide +kernel) rfl
theorem ewX4_meaningOf : Cond.selects yX4_meaningOf.cls yX4_meaningOf yX4_meaningOf ∈ XB := xb_m3 181 (by decide +kernel) rfl
theorem cwX4_membersOf : Cond.code yX4_membersOf cX4_membersOf 2 (some .int) ∈ XB := xb_m3 133 (by decide +kernel) rfl
theorem nwX4_membersOf : Cond.instanceMethod yX4_membersOf ∈ XB := xb_m3 131 (by decide +kernel) rfl
theorem ewX4_membersOf : Cond.selects yX4_membersOf.cls yX4_membersOf yX4_membersOf ∈ XB := xb_m3 132 (by decide +kernel) rfl
theorem cwX4_canMeanWithout : Cond.code yX4_canMeanWithout cX4_canMeanWithout 5 (some .boolean) ∈ XB := xb_m4 89 (by decide +kernel) rfl
theorem nwX4_canMeanWithout : Cond.instanceMethod yX4_canMeanWithout ∈ XB := xb_m4 87 (by decide +kernel) rfl
theorem ewX4_canMeanWithout : Cond.selects yX4_canMeanWithout.cls yX4_canMeanWithout yX4_canMeanWithout ∈ XB := xb_m4 88 (by decide +kernel) rfl
theorem cwX1_metWithout : Cond.code yX1_metWithout cX1_metWithout 6 (some .int) ∈ XB := xb_m4 85 (by decide +kernel) rfl
theorem nwX1_metWithout : Cond.instanceMethod yX1_metWithout ∈ XB := xb_m4 83 (by decide +kernel) rfl
theorem ewX1_metWithout : Cond.selects yX1_metWithout.cls yX1_metWithout yX1_metWithout ∈ XB := xb_m4 84 (by decide +kernel) rfl
theorem cwX1_missed : Cond.code yX1_missed cX1_missed 4 (some .int) ∈ XB := xb_m4 97 (by decide +kernel) rfl
theorem nwX1_missed : Cond.instanceMethod yX1_missed ∈ XB := xb_m4 95 (by decide +kernel) rfl
theorem ewX1_missed : Cond.selects yX1_missed.cls yX1_missed yX1_missed ∈ XB := xb_m4 96 (by decide +kernel) rfl
theorem cwX3_isLiving : Cond.code yX3_isLiving cX3_isLiving 2 (some .boolean) ∈ XB := xb_m2 101 (by decide +kernel) rfl
theorem nwX3_isLiving : Cond.instanceMethod yX3_isLiving ∈ XB := xb_m2 99 (by decide +kernel) rfl
theorem ewX3_isLiving : Cond.selects yX3_isLiving.cls yX3_isLiving yX3_isLiving ∈ XB := xb_m2 100 (by decide +kernel) rfl
theorem cwJ6_bitCount_0f7a4 : Cond.code yJ6_bitCount_0f7a4 cJ6_bitCount_0f7a4 1 (some .int) ∈ XB := xb_m2 173 (by decide +kernel) rfl
theorem swJ6_bitCount_0f7a4 : Cond.static yJ6_bitCount_0f7a4 ∈ XB := xb_m2 172 (by decide +kernel) rfl
theorem cwX1_mostMissed : Cond.code yX1_mostMissed cX1_mostMissed 7 (some .int) ∈ XB := xb_m4 106 (by decide +kernel) rfl
theorem nwX1_mostMissed : Cond.instanceMethod yX1_mostMissed ∈ XB := xb_m4 104 (by decide +kernel) rfl
theorem ewX1_mostMissed : Cond.selects yX1_mostMissed.cls yX1_mostMissed yX1_mostMissed ∈ XB := xb_m4 105 (by decide +kernel) rfl
theorem cwX1_fewestToMiss : Cond.code yX1_fewestToMiss cX1_fewestToMiss 7 (some .int) ∈ XB := xb_m4 143 (by decide +kernel) rfl
theorem nwX1_fewestToMiss : Cond.instanceMethod yX1_fewestToMiss ∈ XB := xb_m4 141 (by decide +kernel) rfl
theorem ewX1_fewestToMiss : Cond.selects yX1_fewestToMiss.cls yX1_fewestToMiss yX1_fewestToMiss ∈ XB := xb_m4 142 (by decide +kernel) rfl
theorem cwX3_takeFrom : Cond.code yX3_takeFrom cX3_takeFrom 2 none ∈ XB := xb_m2 205 (by decide +kernel) rfl
theorem nwX3_takeFrom : Cond.instanceMethod yX3_takeFrom ∈ XB := xb_m2 203 (by decide +kernel) rfl
theorem ewX3_takeFrom : Cond.selects yX3_takeFrom.cls yX3_takeFrom yX3_takeFrom ∈ XB := xb_m2 204 (by decide +kernel) rfl
theorem cwX3_hasRoom : Cond.code yX3_hasRoom cX3_hasRoom 1 (some .boolean) ∈ XB := xb_m2 115 (by decide +kernel) rfl
theorem nwX3_hasRoom : Cond.instanceMethod yX3_hasRoom ∈ XB := xb_m2 113 (by decide +kernel) rfl
theorem ewX3_hasRoom : Cond.selects yX3_hasRoom.cls yX3_hasRoom yX3_hasRoom ∈ XB := xb_m2 114 (by decide +kernel) rfl
theorem cwX3_addBrother : Cond.code yX3_addBrother cX3_addBrother 5 (some .int) ∈ XB := xb_m2 119 (by decide +kernel) rfl
theorem nwX3_addBrother : Cond.instanceMethod yX3_addBrother ∈ XB := xb_m2 117 (by decide +kernel) rfl
theorem ewX3_addBrother : Cond.selects yX3_addBrother.cls yX3_addBrother yX3_addBrother ∈ XB := xb_m2 118 (by decide +kernel) rfl
theorem cwX3_has : Cond.code yX3_has cX3_has 2 (some .boolean) ∈ XB := xb_m2 79 (by decide +kernel) rfl
theorem nwX3_has : Cond.instanceMethod yX3_has ∈ XB := xb_m2 77 (by decide +kernel) rfl
theorem ewX3_has : Cond.selects yX3_has.cls yX3_has yX3_has ∈ XB := xb_m2 78 (by decide +kernel) rfl
theorem cwX4_wordOf : Cond.code yX4_wordOf cX4_wordOf 2 (some .int) ∈ XB := xb_m3 112 (by decide +kernel) rfl
theorem swX4_wordOf : Cond.static yX4_wordOf ∈ XB := xb_m3 111 (by decide +kernel) rfl
theorem cwX4_isMadeOf : Cond.code yX4_isMadeOf cX4_isMadeOf 3 (some .boolean) ∈ XB := xb_m3 109 (by decide +kernel) rfl
theorem nwX4_isMadeOf : Cond.instanceMethod yX4_isMadeOf ∈ XB := xb_m3 108 (by decide +kernel) rfl
theorem ewX4_isMadeOf : Cond.selects yX4_isMadeOf.cls yX4_isMadeOf yX4_isMadeOf ∈ XB := xb_m0 15 (by decide +kernel) rfl
theorem cwX4_add : Cond.code yX4_add cX4_add 6 none ∈ XB := xb_m3 117 (by decide +kernel) rfl
theorem nwX4_add : Cond.instanceMethod yX4_add ∈ XB := xb_m3 116 (by decide +kernel) rfl
theorem ewX4_add : Cond.selects yX4_add.cls yX4_add yX4_add ∈ XB := xb_m0 16 (by decide +kernel) rfl
theorem cwX4_lengthOf : Cond.code yX4_lengthOf cX4_lengthOf 2 (some .int) ∈ XB := xb_m3 125 (by decide +kernel) rfl
theorem nwX4_lengthOf : Cond.instanceMethod yX4_lengthOf ∈ XB := xb_m3 123 (by decide +kernel) rfl
theorem ewX4_lengthOf : Cond.selects yX4_lengthOf.cls yX4_lengthOf yX4_lengthOf ∈ XB := xb_m3 124 (by decide +kernel) rfl
theorem cwX4_placeOf : Cond.code yX4_placeOf cX4_placeOf 2 (some .int) ∈ XB := xb_m3 137 (by decide +kernel) rfl
theorem nwX4_placeOf : Cond.instanceMethod yX4_placeOf ∈ XB := xb_m3 136 (by decide +kernel) rfl
theorem ewX4_placeOf : Cond.selects yX4_placeOf.cls yX4_placeOf yX4_placeOf ∈ XB := xb_m0 19 (by decide +kernel) rfl
theorem cwX4_rowOf : Cond.code yX4_rowOf cX4_rowOf 2 (some .int) ∈ XB := xb_m3 152 (by decide +kernel) rfl
theorem nwX4_rowOf : Cond.instanceMethod yX4_rowOf ∈ XB := xb_m3 150 (by decide +kernel) rfl
theorem ewX4_rowOf : Cond.selects yX4_rowOf.cls yX4_rowOf yX4_rowOf ∈ XB := xb_m3 151 (by decide +kernel) rfl
theorem cwX2_with : Cond.code yX2_with cX2_with 4 (some .long) ∈ XB := xb_m3 156 (by decide +kernel) rfl
theorem swX2_with : Cond.static yX2_with ∈ XB := xb_m3 155 (by decide +kernel) rfl
theorem cwX4_goOn : Cond.code yX4_goOn cX4_goOn 6 none ∈ XB := xb_m3 121 (by decide +kernel) rfl
theorem nwX4_goOn : Cond.instanceMethod yX4_goOn ∈ XB := xb_m3 120 (by decide +kernel) rfl
theorem ewX4_goOn : Cond.selects yX4_goOn.cls yX4_goOn yX4_goOn ∈ XB := xb_m0 17 (by decide +kernel) rfl
theorem cwX2_at : Cond.code yX2_at cX2_at 3 (some .int) ∈ XB := xb_m3 170 (by decide +kernel) rfl
theorem swX2_at : Cond.static yX2_at ∈ XB := xb_m3 169 (by decide +kernel) rfl
theorem cwX2_meaning : Cond.code yX2_meaning cX2_meaning 11 (some .int) ∈ XB := xb_m3 167 (by decide +kernel) rfl
theorem swX2_meaning : Cond.static yX2_meaning ∈ XB := xb_m3 166 (by decide +kernel) rfl
theorem cwX4_keepWhole : Cond.code yX4_keepWhole cX4_keepWhole 6 none ∈ XB := xb_m3 160 (by decide +kernel) rfl
theorem nwX4_keepWhole : Cond.instanceMethod yX4_keepWhole ∈ XB := xb_m3 159 (by decide +kernel) rfl
theorem ewX4_keepWhole : Cond.selects yX4_keepWhole.cls yX4_keepWhole yX4_keepWhole ∈ XB := xb_m0 20 (by decide +kernel) rfl
theorem cwX4_update : Cond.code yX4_update cX4_update 3 none ∈ XB := xb_m3 105 (by decide +kernel) rfl
theorem nwX4_update : Cond.instanceMethod yX4_update ∈ XB := xb_m3 103 (by decide +kernel) rfl
theorem ewX4_update : Cond.selects yX4_update.cls yX4_update yX4_update ∈ XB := xb_m3 104 (by decide +kernel) rfl
theorem cwX3_needsOf : Cond.code yX3_needsOf cX3_needsOf 4 (some .int) ∈ XB := xb_m4 135 (by decide +kernel) rfl
theorem nwX3_needsOf : Cond.instanceMethod yX3_needsOf ∈ XB := xb_m4 133 (by decide +kernel) rfl
theorem ewX3_needsOf : Cond.selects yX3_needsOf.cls yX3_needsOf yX3_needsOf ∈ XB := xb_m4 134 (by decide +kernel) rfl
theorem cwX1_guessMet : Cond.code yX1_guessMet cX1_guessMet 8 none ∈ XB := xb_m4 123 (by decide +kernel) rfl
theorem nwX1_guessMet : Cond.instanceMethod yX1_guessMet ∈ XB := xb_m4 122 (by decide +kernel) rfl
theorem ewX1_guessMet : Cond.selects yX1_guessMet.cls yX1_guessMet yX1_guessMet ∈ XB := xb_m0 26 (by decide +kernel) rfl
theorem cwX1_choose : Cond.code yX1_choose cX1_choose 8 none ∈ XB := xb_m4 117 (by decide +kernel) rfl
theorem nwX1_choose : Cond.instanceMethod yX1_choose ∈ XB := xb_m4 115 (by decide +kernel) rfl
theorem ewX1_choose : Cond.selects yX1_choose.cls yX1_choose yX1_choose ∈ XB := xb_m4 116 (by decide +kernel) rfl
theorem cwX3_feuding : Cond.code yX3_feuding cX3_feuding 3 (some .boolean) ∈ XB := xb_m2 128 (by decide +kernel) rfl
theorem nwX3_feuding : Cond.instanceMethod yX3_feuding ∈ XB := xb_m2 126 (by decide +kernel) rfl
theorem ewX3_feuding : Cond.selects yX3_feuding.cls yX3_feuding yX3_feuding ∈ XB := xb_m2 127 (by decide +kernel) rfl
theorem cwX2_onlyFeud : Cond.code yX2_onlyFeud cX2_onlyFeud 8 (some .int) ∈ XB := xb_m4 233 (by decide +kernel) rfl
theorem swX2_onlyFeud : Cond.static yX2_onlyFeud ∈ XB := xb_m4 232 (by decide +kernel) rfl
theorem cwX1_bestPeace : Cond.code yX1_bestPeace cX1_bestPeace 7 (some .int) ∈ XB := xb_m4 230 (by decide +kernel) rfl
theorem nwX1_bestPeace : Cond.instanceMethod yX1_bestPeace ∈ XB := xb_m4 228 (by decide +kernel) rfl
theorem ewX1_bestPeace : Cond.selects yX1_bestPeace.cls yX1_bestPeace yX1_bestPeace ∈ XB := xb_m4 229 (by decide +kernel) rfl
theorem cwX2_feuds : Cond.code yX2_feuds cX2_feuds 6 (some .int) ∈ XB := xb_m3 189 (by decide +kernel) rfl
theorem swX2_feuds : Cond.static yX2_feuds ∈ XB := xb_m3 188 (by decide +kernel) rfl
theorem cwX3_steps : Cond.code yX3_steps cX3_steps 2 (some .int) ∈ XB := xb_m4 49 (by decide +kernel) rfl
theorem swX3_steps : Cond.static yX3_steps ∈ XB := xb_m4 48 (by decide +kernel) rfl
theorem cwX2_soon : Cond.code yX2_soon cX2_soon 7 (some .int) ∈ XB := xb_m4 212 (by decide +kernel) rfl
theorem swX2_soon : Cond.static yX2_soon ∈ XB := xb_m4 211 (by decide +kernel) rfl
theorem cwX2_bestColumn : Cond.code yX2_bestColumn cX2_bestColumn 6 (some .int) ∈ XB := xb_m4 209 (by decide +kernel) rfl
theorem swX2_bestColumn : Cond.static yX2_bestColumn ∈ XB := xb_m4 208 (by decide +kernel) rfl
theorem cwX2_stand : Cond.code yX2_stand cX2_stand 6 none ∈ XB := xb_m4 222 (by decide +kernel) rfl
theorem swX2_stand : Cond.static yX2_stand ∈ XB := xb_m4 221 (by decide +kernel) rfl
theorem cwX3_isAmount : Cond.code yX3_isAmount cX3_isAmount 1 (some .boolean) ∈ XB := xb_m2 108 (by decide +kernel) rfl
theorem swX3_isAmount : Cond.static yX3_isAmount ∈ XB := xb_m2 107 (by decide +kernel) rfl
theorem cwX3_isCell : Cond.code yX3_isCell cX3_isCell 1 (some .boolean) ∈ XB := xb_m2 111 (by decide +kernel) rfl
theorem swX3_isCell : Cond.static yX3_isCell ∈ XB := xb_m2 110 (by decide +kernel) rfl
theorem cwX3_isAge : Cond.code yX3_isAge cX3_isAge 1 (some .boolean) ∈ XB := xb_m2 153 (by decide +kernel) rfl
theorem swX3_isAge : Cond.static yX3_isAge ∈ XB := xb_m2 152 (by decide +kernel) rfl
theorem cwX3_bury : Cond.code yX3_bury cX3_bury 2 none ∈ XB := xb_m2 170 (by decide +kernel) rfl
theorem nwX3_bury : Cond.instanceMethod yX3_bury ∈ XB := xb_m2 168 (by decide +kernel) rfl
theorem ewX3_bury : Cond.selects yX3_bury.cls yX3_bury yX3_bury ∈ XB := xb_m2 169 (by decide +kernel) rfl
theorem cwX3_setFeud : Cond.code yX3_setFeud cX3_setFeud 4 none ∈ XB := xb_m2 133 (by decide +kernel) rfl
theorem nwX3_setFeud : Cond.instanceMethod yX3_setFeud ∈ XB := xb_m2 131 (by decide +kernel) rfl
theorem ewX3_setFeud : Cond.selects yX3_setFeud.cls yX3_setFeud yX3_setFeud ∈ XB := xb_m2 132 (by decide +kernel) rfl
theorem cwX3_hasNeed : Cond.code yX3_hasNeed cX3_hasNeed 2 (some .boolean) ∈ XB := xb_m3 89 (by decide +kernel) rfl
theorem nwX3_hasNeed : Cond.instanceMethod yX3_hasNeed ∈ XB := xb_m3 87 (by decide +kernel) rfl
theorem ewX3_hasNeed : Cond.selects yX3_hasNeed.cls yX3_hasNeed yX3_hasNeed ∈ XB := xb_m3 88 (by decide +kernel) rfl
theorem cwX3_hasNeedRoom : Cond.code yX3_hasNeedRoom cX3_hasNeedRoom 1 (some .boolean) ∈ XB := xb_m2 141 (by decide +kernel) rfl
theorem nwX3_hasNeedRoom : Cond.instanceMethod yX3_hasNeedRoom ∈ XB := xb_m2 139 (by decide +kernel) rfl
theorem ewX3_hasNeedRoom : Cond.selects yX3_hasNeedRoom.cls yX3_hasNeedRoom yX3_hasNeedRoom ∈ XB := xb_m2 140 (by decide +kernel) rfl
theorem cwX3_addNeed : Cond.code yX3_addNeed cX3_addNeed 2 (some .int) ∈ XB := xb_m2 145 (by decide +kernel) rfl
theorem nwX3_addNeed : Cond.instanceMethod yX3_addNeed ∈ XB := xb_m2 143 (by decide +kernel) rfl
theorem ewX3_addNeed : Cond.selects yX3_addNeed.cls yX3_addNeed yX3_addNeed ∈ XB := xb_m2 144 (by decide +kernel) rfl
theorem cwX3_livingOfKind : Cond.code yX3_livingOfKind cX3_livingOfKind 4 (some .int) ∈ XB := xb_m2 97 (by decide +kernel) rfl
theorem nwX3_livingOfKind : Cond.instanceMethod yX3_livingOfKind ∈ XB := xb_m2 95 (by decide +kernel) rfl
theorem ewX3_livingOfKind : Cond.selects yX3_livingOfKind.cls yX3_livingOfKind yX3_livingOfKind ∈ XB := xb_m2 96 (by decide +kernel) rfl
theorem cwX3_pairsFeuding : Cond.code yX3_pairsFeuding cX3_pairsFeuding 3 (some .int) ∈ XB := xb_m5 29 (by decide +kernel) rfl
theorem nwX3_pairsFeuding : Cond.instanceMethod yX3_pairsFeuding ∈ XB := xb_m5 27 (by decide +kernel) rfl
theorem ewX3_pairsFeuding : Cond.selects yX3_pairsFeuding.cls yX3_pairsFeuding yX3_pairsFeuding ∈ XB := xb_m5 28 (by decide +kernel) rfl
theorem cwX3_agesTogether : Cond.code yX3_agesTogether cX3_agesTogether 3 (some .int) ∈ XB := xb_m5 33 (by decide +kernel) rfl
theorem nwX3_agesTogether : Cond.instanceMethod yX3_agesTogether ∈ XB := xb_m5 31 (by decide +kernel) rfl
theorem ewX3_agesTogether : Cond.selects yX3_agesTogether.cls yX3_agesTogether yX3_agesTogether ∈ XB := xb_m5 32 (by decide +kernel) rfl
theorem cwX3_foremost : Cond.code yX3_foremost cX3_foremost 6 (some .int) ∈ XB := xb_m4 25 (by decide +kernel) rfl
theorem nwX3_foremost : Cond.instanceMethod yX3_foremost ∈ XB := xb_m4 23 (by decide +kernel) rfl
theorem ewX3_foremost : Cond.selects yX3_foremost.cls yX3_foremost yX3_foremost ∈ XB := xb_m4 24 (by decide +kernel) rfl
theorem cwX3_fullestCell : Cond.code yX3_fullestCell cX3_fullestCell 7 (some .int) ∈ XB := xb_m4 34 (by decide +kernel) rfl
theorem nwX3_fullestCell : Cond.instanceMethod yX3_fullestCell ∈ XB := xb_m4 32 (by decide +kernel) rfl
theorem ewX3_fullestCell : Cond.selects yX3_fullestCell.cls yX3_fullestCell yX3_fullestCell ∈ XB := xb_m4 33 (by decide +kernel) rfl
theorem cwX3_farthest : Cond.code yX3_farthest cX3_farthest 4 (some .int) ∈ XB := xb_m4 46 (by decide +kernel) rfl
theorem nwX3_farthest : Cond.instanceMethod yX3_farthest ∈ XB := xb_m4 45 (by decide +kernel) rfl
theorem ewX3_farthest : Cond.selects yX3_farthest.cls yX3_farthest yX3_farthest ∈ XB := xb_m0 24 (by decide +kernel) rfl
theorem cwX3_middleCell : Cond.code yX3_middleCell cX3_middleCell 6 (some .int) ∈ XB := xb_m4 42 (by decide +kernel) rfl
theorem nwX3_middleCell : Cond.instanceMethod yX3_middleCell ∈ XB := xb_m4 40 (by decide +kernel) rfl
theorem ewX3_middleCell : Cond.selects yX3_middleCell.cls yX3_middleCell yX3_middleCell ∈ XB := xb_m4 41 (by decide +kernel) rfl
theorem cwX3_olderBy1 : Cond.code yX3_olderBy1 cX3_olderBy1 2 (some .int) ∈ XB := xb_m4 68 (by decide +kernel) rfl
theorem nwX3_olderBy1 : Cond.instanceMethod yX3_olderBy1 ∈ XB := xb_m4 67 (by decide +kernel) rfl
theorem ewX3_olderBy1 : Cond.selects yX3_olderBy1.cls yX3_olderBy1 yX3_olderBy1 ∈ XB := xb_m0 25 (by decide +kernel) rfl
theorem cwX3_chanceOfYear : Cond.code yX3_chanceOfYear cX3_chanceOfYear 3 (some .int) ∈ XB := xb_m4 63 (by decide +kernel) rfl
theorem nwX3_chanceOfYear : Cond.instanceMethod yX3_chanceOfYear ∈ XB := xb_m4 61 (by decide +kernel) rfl
theorem ewX3_chanceOfYear : Cond.selects yX3_chanceOfYear.cls yX3_chanceOfYear yX3_chanceOfYear ∈ XB := xb_m4 62 (by decide +kernel) rfl
theorem cwX3_draw : Cond.code yX3_draw cX3_draw 2 (some .int) ∈ XB := xb_m5 7 (by decide +kernel) rfl
theorem nwX3_draw : Cond.instanceMethod yX3_draw ∈ XB := xb_m5 6 (by decide +kernel) rfl
theorem ewX3_draw : Cond.selects yX3_draw.cls yX3_draw yX3_draw ∈ XB := xb_m0 30 (by decide +kernel) rfl
theorem cwX3_passYear : Cond.code yX3_passYear cX3_passYear 2 none ∈ XB := xb_m5 3 (by decide +kernel) rfl
theorem nwX3_passYear : Cond.instanceMethod yX3_passYear ∈ XB := xb_m5 1 (by decide +kernel) rfl
theorem ewX3_passYear : Cond.selects yX3_passYear.cls yX3_passYear yX3_passYear ∈ XB := xb_m5 2 (by decide +kernel) rfl
theorem cwX4_isCalm : Cond.code yX4_isCalm cX4_isCalm 3 (some .boolean) ∈ XB := xb_m3 186 (by decide +kernel) rfl
theorem nwX4_isCalm : Cond.instanceMethod yX4_isCalm ∈ XB := xb_m3 185 (by decide +kernel) rfl
theorem ewX4_isCalm : Cond.selects yX4_isCalm.cls yX4_isCalm yX4_isCalm ∈ XB := xb_m0 21 (by decide +kernel) rfl
theorem cwX4_find : Cond.code yX4_find cX4_find 6 (some .int) ∈ XB := xb_m3 174 (by decide +kernel) rfl
theorem nwX4_find : Cond.instanceMethod yX4_find ∈ XB := xb_m3 172 (by decide +kernel) rfl
theorem ewX4_find : Cond.selects yX4_find.cls yX4_find yX4_find ∈ XB := xb_m3 173 (by decide +kernel) rfl
theorem cwX4_calm : Cond.code yX4_calm cX4_calm 5 (some .int) ∈ XB := xb_m3 229 (by decide +kernel) rfl
theorem nwX4_calm : Cond.instanceMethod yX4_calm ∈ XB := xb_m3 227 (by decide +kernel) rfl
theorem ewX4_calm : Cond.selects yX4_calm.cls yX4_calm yX4_calm ∈ XB := xb_m3 228 (by decide +kernel) rfl
theorem cwX4_most : Cond.code yX4_most cX4_most 4 (some .int) ∈ XB := xb_m4 77 (by decide +kernel) rfl
theorem nwX4_most : Cond.instanceMethod yX4_most ∈ XB := xb_m4 75 (by decide +kernel) rfl
theorem ewX4_most : Cond.selects yX4_most.cls yX4_most yX4_most ∈ XB := xb_m4 76 (by decide +kernel) rfl
theorem cwX4_least : Cond.code yX4_least cX4_least 4 (some .int) ∈ XB := xb_m3 214 (by decide +kernel) rfl
theorem nwX4_least : Cond.instanceMethod yX4_least ∈ XB := xb_m3 212 (by decide +kernel) rfl
theorem ewX4_least : Cond.selects yX4_least.cls yX4_least yX4_least ∈ XB := xb_m3 213 (by decide +kernel) rfl
theorem cwX4_greatest : Cond.code yX4_greatest cX4_greatest 4 (some .int) ∈ XB := xb_m3 218 (by decide +kernel) rfl
theorem nwX4_greatest : Cond.instanceMethod yX4_greatest ∈ XB := xb_m3 216 (by decide +kernel) rfl
theorem ewX4_greatest : Cond.selects yX4_greatest.cls yX4_greatest yX4_greatest ∈ XB := xb_m3 217 (by decide +kernel) rfl
theorem cwX4_closest : Cond.code yX4_closest cX4_closest 7 (some .int) ∈ XB := xb_m4 14 (by decide +kernel) rfl
theorem nwX4_closest : Cond.instanceMethod yX4_closest ∈ XB := xb_m4 12 (by decide +kernel) rfl
theorem ewX4_closest : Cond.selects yX4_closest.cls yX4_closest yX4_closest ∈ XB := xb_m4 13 (by decide +kernel) rfl
theorem cwX4_beginners : Cond.code yX4_beginners cX4_beginners 4 (some .int) ∈ XB := xb_m3 237 (by decide +kernel) rfl
theorem nwX4_beginners : Cond.instanceMethod yX4_beginners ∈ XB := xb_m3 235 (by decide +kernel) rfl
theorem ewX4_beginners : Cond.selects yX4_beginners.cls yX4_beginners yX4_beginners ∈ XB := xb_m3 236 (by decide +kernel) rfl
theorem cwX4_enders : Cond.code yX4_enders cX4_enders 4 (some .int) ∈ XB := xb_m4 2 (by decide +kernel) rfl
theorem nwX4_enders : Cond.instanceMethod yX4_enders ∈ XB := xb_m4 0 (by decide +kernel) rfl
theorem ewX4_enders : Cond.selects yX4_enders.cls yX4_enders yX4_enders ∈ XB := xb_m4 1 (by decide +kernel) rfl
theorem cwX4_standing : Cond.code yX4_standing cX4_standing 4 (some .int) ∈ XB := xb_m4 6 (by decide +kernel) rfl
theorem nwX4_standing : Cond.instanceMethod yX4_standing ∈ XB := xb_m4 4 (by decide +kernel) rfl
theorem ewX4_standing : Cond.selects yX4_standing.cls yX4_standing yX4_standing ∈ XB := xb_m4 5 (by decide +kernel) rfl
theorem cwX4_forgetMarks : Cond.code yX4_forgetMarks cX4_forgetMarks 2 none ∈ XB := xb_m3 205 (by decide +kernel) rfl
theorem nwX4_forgetMarks : Cond.instanceMethod yX4_forgetMarks ∈ XB := xb_m3 204 (by decide +kernel) rfl
theorem ewX4_forgetMarks : Cond.selects yX4_forgetMarks.cls yX4_forgetMarks yX4_forgetMarks ∈ XB := xb_m0 22 (by decide +kernel) rfl
theorem cwX4_isNew : Cond.code yX4_isNew cX4_isNew 3 (some .boolean) ∈ XB := xb_m3 209 (by decide +kernel) rfl
theorem nwX4_isNew : Cond.instanceMethod yX4_isNew ∈ XB := xb_m3 208 (by decide +kernel) rfl
theorem ewX4_isNew : Cond.selects yX4_isNew.cls yX4_isNew yX4_isNew ∈ XB := xb_m0 23 (by decide +kernel) rfl
theorem cwX4_unlike : Cond.code yX4_unlike cX4_unlike 4 (some .int) ∈ XB := xb_m3 201 (by decide +kernel) rfl
theorem nwX4_unlike : Cond.instanceMethod yX4_unlike ∈ XB := xb_m3 199 (by decide +kernel) rfl
theorem ewX4_unlike : Cond.selects yX4_unlike.cls yX4_unlike yX4_unlike ∈ XB := xb_m3 200 (by decide +kernel) rfl
theorem cwX4_countOf : Cond.code yX4_countOf cX4_countOf 4 (some .int) ∈ XB := xb_m4 158 (by decide +kernel) rfl
theorem nwX4_countOf : Cond.instanceMethod yX4_countOf ∈ XB := xb_m4 156 (by decide +kernel) rfl
theorem ewX4_countOf : Cond.selects yX4_countOf.cls yX4_countOf yX4_countOf ∈ XB := xb_m4 157 (by decide +kernel) rfl
theorem cwX4_unlikeOf : Cond.code yX4_unlikeOf cX4_unlikeOf 4 (some .int) ∈ XB := xb_m4 162 (by decide +kernel) rfl
theorem nwX4_unlikeOf : Cond.instanceMethod yX4_unlikeOf ∈ XB := xb_m4 160 (by decide +kernel) rfl
theorem ewX4_unlikeOf : Cond.selects yX4_unlikeOf.cls yX4_unlikeOf yX4_unlikeOf ∈ XB := xb_m4 161 (by decide +kernel) rfl
theorem cwX4_firstOf : Cond.code yX4_firstOf cX4_firstOf 3 (some .int) ∈ XB := xb_m4 166 (by decide +kernel) rfl
theorem nwX4_firstOf : Cond.instanceMethod yX4_firstOf ∈ XB := xb_m4 164 (by decide +kernel) rfl
theorem ewX4_firstOf : Cond.selects yX4_firstOf.cls yX4_firstOf yX4_firstOf ∈ XB := xb_m4 165 (by decide +kernel) rfl
theorem cwX4_mayMean : Cond.code yX4_mayMean cX4_mayMean 4 (some .boolean) ∈ XB := xb_m4 174 (by decide +kernel) rfl
theorem nwX4_mayMean : Cond.instanceMethod yX4_mayMean ∈ XB := xb_m4 172 (by decide +kernel) rfl
theorem ewX4_mayMean : Cond.selects yX4_mayMean.cls yX4_mayMean yX4_mayMean ∈ XB := xb_m4 173 (by decide +kernel) rfl
theorem cwX5_isSort : Cond.code yX5_isSort cX5_isSort 1 (some .boolean) ∈ XB := xb_m2 13 (by decide +kernel) rfl
theorem swX5_isSort : Cond.static yX5_isSort ∈ XB := xb_m2 12 (by decide +kernel) rfl
theorem cwX5_isEmpty : Cond.code yX5_isEmpty cX5_isEmpty 1 (some .boolean) ∈ XB := xb_m2 34 (by decide +kernel) rfl
theorem nwX5_isEmpty : Cond.instanceMethod yX5_isEmpty ∈ XB := xb_m2 32 (by decide +kernel) rfl
theorem ewX5_isEmpty : Cond.selects yX5_isEmpty.cls yX5_isEmpty yX5_isEmpty ∈ XB := xb_m2 33 (by decide +kernel) rfl
theorem cwX5_isRow : Cond.code yX5_isRow cX5_isRow 1 (some .boolean) ∈ XB := xb_m2 38 (by decide +kernel) rfl
theorem nwX5_isRow : Cond.instanceMethod yX5_isRow ∈ XB := xb_m2 36 (by decide +kernel) rfl
theorem ewX5_isRow : Cond.selects yX5_isRow.cls yX5_isRow yX5_isRow ∈ XB := xb_m2 37 (by decide +kernel) rfl
theorem cwX5_hold : Cond.code yX5_hold cX5_hold 2 none ∈ XB := xb_m2 83 (by decide +kernel) rfl
theorem nwX5_hold : Cond.instanceMethod yX5_hold ∈ XB := xb_m2 81 (by decide +kernel) rfl
theorem ewX5_hold : Cond.selects yX5_hold.cls yX5_hold yX5_hold ∈ XB := xb_m2 82 (by decide +kernel) rfl
theorem cwX5_holdRow : Cond.code yX5_holdRow cX5_holdRow 4 none ∈ XB := xb_m2 21 (by decide +kernel) rfl
theorem nwX5_holdRow : Cond.instanceMethod yX5_holdRow ∈ XB := xb_m2 19 (by decide +kernel) rfl
theorem ewX5_holdRow : Cond.selects yX5_holdRow.cls yX5_holdRow yX5_holdRow ∈ XB := xb_m2 20 (by decide +kernel) rfl
theorem cwX5_spans : Cond.code yX5_spans cX5_spans 3 (some .boolean) ∈ XB := xb_m2 43 (by decide +kernel) rfl
theorem nwX5_spans : Cond.instanceMethod yX5_spans ∈ XB := xb_m2 41 (by decide +kernel) rfl
theorem ewX5_spans : Cond.selects yX5_spans.cls yX5_spans yX5_spans ∈ XB := xb_m2 42 (by decide +kernel) rfl
theorem cwX5_narrow : Cond.code yX5_narrow cX5_narrow 3 (some .long) ∈ XB := xb_m2 52 (by decide +kernel) rfl
theorem nwX5_narrow : Cond.instanceMethod yX5_narrow ∈ XB := xb_m2 51 (by decide +kernel) rfl
theorem ewX5_narrow : Cond.selects yX5_narrow.cls yX5_narrow yX5_narrow ∈ XB := xb_m0 2 (by decide +kernel) rfl
theorem cwX5_put : Cond.code yX5_put cX5_put 4 none ∈ XB := xb_m2 47 (by decide +kernel) rfl
theorem nwX5_put : Cond.instanceMethod yX5_put ∈ XB := xb_m2 45 (by decide +kernel) rfl
theorem ewX5_put : Cond.selects yX5_put.cls yX5_put yX5_put ∈ XB := xb_m2 46 (by decide +kernel) rfl
theorem cwX6_hasRoom : Cond.code yX6_hasRoom cX6_hasRoom 1 (some .boolean) ∈ XB := xb_m2 184 (by decide +kernel) rfl
theorem nwX6_hasRoom : Cond.instanceMethod yX6_hasRoom ∈ XB := xb_m2 182 (by decide +kernel) rfl
theorem ewX6_hasRoom : Cond.selects yX6_hasRoom.cls yX6_hasRoom yX6_hasRoom ∈ XB := xb_m2 183 (by decide +kernel) rfl
theorem cwX6_add : Cond.code yX6_add cX6_add 2 (some .int) ∈ XB := xb_m2 188 (by decide +kernel) rfl
theorem nwX6_add : Cond.instanceMethod yX6_add ∈ XB := xb_m2 186 (by decide +kernel) rfl
theorem ewX6_add : Cond.selects yX6_add.cls yX6_add yX6_add ∈ XB := xb_m2 187 (by decide +kernel) rfl
theorem cwX6_clear : Cond.code yX6_clear cX6_clear 2 (some .int) ∈ XB := xb_m2 197 (by decide +kernel) rfl
theorem nwX6_clear : Cond.instanceMethod yX6_clear ∈ XB := xb_m2 195 (by decide +kernel) rfl
theorem ewX6_clear : Cond.selects yX6_clear.cls yX6_clear yX6_clear ∈ XB := xb_m2 196 (by decide +kernel) rfl
theorem cwX6_tokenOf : Cond.code yX6_tokenOf cX6_tokenOf 1 (some .int) ∈ XB := xb_m2 221 (by decide +kernel) rfl
theorem swX6_tokenOf : Cond.static yX6_tokenOf ∈ XB := xb_m2 220 (by decide +kernel) rfl
theorem cwX6_step : Cond.code yX6_step cX6_step 1 none ∈ XB := xb_m2 218 (by decide +kernel) rfl
theorem nwX6_step : Cond.instanceMethod yX6_step ∈ XB := xb_m2 217 (by decide +kernel) rfl
theorem ewX6_step : Cond.selects yX6_step.cls yX6_step yX6_step ∈ XB := xb_m0 6 (by decide +kernel) rfl
theorem cwJ0_coder_7d493 : Cond.code yJ0_coder_7d493 cJ0_coder_7d493 1 (some .byte) ∈ XB := xb_m2 234 (by decide +kernel) rfl
theorem nwJ0_coder_7d493 : Cond.instanceMethod yJ0_coder_7d493 ∈ XB := xb_m2 232 (by decide +kernel) rfl
theorem ewJ0_coder_7d493 : Cond.selects yJ0_coder_7d493.cls yJ0_coder_7d493 yJ0_coder_7d493 ∈ XB := xb_m2 233 (by decide +kernel) rfl
theorem cwJ0_length_8abf5 : Cond.code yJ0_length_8abf5 cJ0_length_8abf5 1 (some .int) ∈ XB := xb_m2 230 (by decide +kernel) rfl
theorem nwJ0_length_8abf5 : Cond.instanceMethod yJ0_length_8abf5 ∈ XB := xb_m2 228 (by decide +kernel) rfl
theorem ewJ0_length_8abf5 : Cond.selects yJ0_length_8abf5.cls yJ0_length_8abf5 yJ0_length_8abf5 ∈ XB := xb_m2 229 (by decide +kernel) rfl
theorem cwJ0_isLatin1_aae02 : Cond.code yJ0_isLatin1_aae02 cJ0_isLatin1_aae02 1 (some .boolean) ∈ XB := xb_m3 4 (by decide +kernel) rfl
theorem nwJ0_isLatin1_aae02 : Cond.instanceMethod yJ0_isLatin1_aae02 ∈ XB := xb_m3 2 (by decide +kernel) rfl
theorem ewJ0_isLatin1_aae02 : Cond.selects yJ0_isLatin1_aae02.cls yJ0_isLatin1_aae02 yJ0_isLatin1_aae02 ∈ XB := xb_m3 3 (by decide +kernel) rfl
theorem cwJ3_checkIndex_8e157 : Cond.code yJ3_checkIndex_8e157 cJ3_checkIndex_8e157 3 (some .int) ∈ XB := xb_m3 15 (by decide +kernel) rfl
theorem swJ3_checkIndex_8e157 : Cond.static yJ3_checkIndex_8e157 ∈ XB := xb_m3 14 (by decide +kernel) rfl
theorem cwJ0_checkIndex_df160 : Cond.code yJ0_checkIndex_df160 cJ0_checkIndex_df160 2 none ∈ XB := xb_m3 10 (by decide +kernel) rfl
theorem swJ0_checkIndex_df160 : Cond.static yJ0_checkIndex_df160 ∈ XB := xb_m3 9 (by decide +kernel) rfl
theorem cwJ1_charAt_3b067 : Cond.code yJ1_charAt_3b067 cJ1_charAt_3b067 2 (some .char) ∈ XB := xb_m3 7 (by decide +kernel) rfl
theorem swJ1_charAt_3b067 : Cond.static yJ1_charAt_3b067 ∈ XB := xb_m3 6 (by decide +kernel) rfl
theorem cwJ0_charAt_5068e : Cond.code yJ0_charAt_5068e cJ0_charAt_5068e 2 (some .char) ∈ XB := xb_m3 0 (by decide +kernel) rfl
theorem nwJ0_charAt_5068e : Cond.instanceMethod yJ0_charAt_5068e ∈ XB := xb_m2 238 (by decide +kernel) rfl
theorem ewJ0_charAt_5068e : Cond.selects yJ0_charAt_5068e.cls yJ0_charAt_5068e yJ0_charAt_5068e ∈ XB := xb_m2 239 (by decide +kernel) rfl
theorem cwX6_isWord : Cond.code yX6_isWord cX6_isWord 3 (some .boolean) ∈ XB := xb_m2 226 (by decide +kernel) rfl
theorem nwX6_isWord : Cond.instanceMethod yX6_isWord ∈ XB := xb_m2 225 (by decide +kernel) rfl
theorem ewX6_isWord : Cond.selects yX6_isWord.cls yX6_isWord yX6_isWord ∈ XB := xb_m0 7 (by decide +kernel) rfl
theorem cwX6_stepToNumber : Cond.code yX6_stepToNumber cX6_stepToNumber 3 (some .int) ∈ XB := xb_m3 43 (by decide +kernel) rfl
theorem nwX6_stepToNumber : Cond.instanceMethod yX6_stepToNumber ∈ XB := xb_m3 42 (by decide +kernel) rfl
theorem ewX6_stepToNumber : Cond.selects yX6_stepToNumber.cls yX6_stepToNumber yX6_stepToNumber ∈ XB := xb_m0 9 (by decide +kernel) rfl
theorem cwX6_readBrother : Cond.code yX6_readBrother cX6_readBrother 5 (some .boolean) ∈ XB := xb_m3 38 (by decide +kernel) rfl
theorem nwX6_readBrother : Cond.instanceMethod yX6_readBrother ∈ XB := xb_m3 37 (by decide +kernel) rfl
theorem ewX6_readBrother : Cond.selects yX6_readBrother.cls yX6_readBrother yX6_readBrother ∈ XB := xb_m0 8 (by decide +kernel) rfl
theorem cwX6_readFeud : Cond.code yX6_readFeud cX6_readFeud 5 (some .boolean) ∈ XB := xb_m3 52 (by decide +kernel) rfl
theorem nwX6_readFeud : Cond.instanceMethod yX6_readFeud ∈ XB := xb_m3 51 (by decide +kernel) rfl
theorem ewX6_readFeud : Cond.selects yX6_readFeud.cls yX6_readFeud yX6_readFeud ∈ XB := xb_m0 10 (by decide +kernel) rfl
theorem cwX6_readNeed : Cond.code yX6_readNeed cX6_readNeed 4 (some .boolean) ∈ XB := xb_m3 60 (by decide +kernel) rfl
theorem nwX6_readNeed : Cond.instanceMethod yX6_readNeed ∈ XB := xb_m3 59 (by decide +kernel) rfl
theorem ewX6_readNeed : Cond.selects yX6_readNeed.cls yX6_readNeed yX6_readNeed ∈ XB := xb_m0 11 (by decide +kernel) rfl
theorem cwX6_readAge : Cond.code yX6_readAge cX6_readAge 4 (some .boolean) ∈ XB := xb_m3 68 (by decide +kernel) rfl
theorem nwX6_readAge : Cond.instanceMethod yX6_readAge ∈ XB := xb_m3 67 (by decide +kernel) rfl
theorem ewX6_readAge : Cond.selects yX6_readAge.cls yX6_readAge yX6_readAge ∈ XB := xb_m0 12 (by decide +kernel) rfl
theorem cwX6_readDeath : Cond.code yX6_readDeath cX6_readDeath 3 (some .boolean) ∈ XB := xb_m3 74 (by decide +kernel) rfl
theorem nwX6_readDeath : Cond.instanceMethod yX6_readDeath ∈ XB := xb_m3 73 (by decide +kernel) rfl
theorem ewX6_readDeath : Cond.selects yX6_readDeath.cls yX6_readDeath yX6_readDeath ∈ XB := xb_m0 13 (by decide +kernel) rfl
theorem cwX6_readStatement : Cond.code yX6_readStatement cX6_readStatement 2 (some .boolean) ∈ XB := xb_m2 214 (by decide +kernel) rfl
theorem nwX6_readStatement : Cond.instanceMethod yX6_readStatement ∈ XB := xb_m2 213 (by decide +kernel) rfl
theorem ewX6_readStatement : Cond.selects yX6_readStatement.cls yX6_readStatement yX6_readStatement ∈ XB := xb_m0 5 (by decide +kernel) rfl
theorem cwX6_read : Cond.code yX6_read cX6_read 4 (some .int) ∈ XB := xb_m2 210 (by decide +kernel) rfl
theorem nwX6_read : Cond.instanceMethod yX6_read ∈ XB := xb_m2 208 (by decide +kernel) rfl
theorem ewX6_read : Cond.selects yX6_read.cls yX6_read yX6_read ∈ XB := xb_m2 209 (by decide +kernel) rfl
theorem cwX7_hear : Cond.code yX7_hear cX7_hear 10 none ∈ XB := xb_m4 186 (by decide +kernel) rfl
theorem nwX7_hear : Cond.instanceMethod yX7_hear ∈ XB := xb_m4 184 (by decide +kernel) rfl
theorem ewX7_hear : Cond.selects yX7_hear.cls yX7_hear yX7_hear ∈ XB := xb_m4 185 (by decide +kernel) rfl
theorem cwX8_isShelf : Cond.code yX8_isShelf cX8_isShelf 1 (some .boolean) ∈ XB := xb_m2 10 (by decide +kernel) rfl
theorem swX8_isShelf : Cond.static yX8_isShelf ∈ XB := xb_m2 9 (by decide +kernel) rfl
theorem cwX8_refuse : Cond.code yX8_refuse cX8_refuse 3 (some .int) ∈ XB := xb_m2 17 (by decide +kernel) rfl
theorem nwX8_refuse : Cond.instanceMethod yX8_refuse ∈ XB := xb_m2 16 (by decide +kernel) rfl
theorem ewX8_refuse : Cond.selects yX8_refuse.cls yX8_refuse yX8_refuse ∈ XB := xb_m0 0 (by decide +kernel) rfl
theorem cwX8_row : Cond.code yX8_row cX8_row 4 (some .int) ∈ XB := xb_m2 7 (by decide +kernel) rfl
theorem nwX8_row : Cond.instanceMethod yX8_row ∈ XB := xb_m2 5 (by decide +kernel) rfl
theorem ewX8_row : Cond.selects yX8_row.cls yX8_row yX8_row ∈ XB := xb_m2 6 (by decide +kernel) rfl
theorem cwX8_rowTrouble : Cond.code yX8_rowTrouble cX8_rowTrouble 2 (some .int) ∈ XB := xb_m2 30 (by decide +kernel) rfl
theorem nwX8_rowTrouble : Cond.instanceMethod yX8_rowTrouble ∈ XB := xb_m2 29 (by decide +kernel) rfl
theorem ewX8_rowTrouble : Cond.selects yX8_rowTrouble.cls yX8_rowTrouble yX8_rowTrouble ∈ XB := xb_m0 1 (by decide +kernel) rfl
theorem cwX8_set : Cond.code yX8_set cX8_set 6 (some .int) ∈ XB := xb_m2 26 (by decide +kernel) rfl
theorem nwX8_set : Cond.instanceMethod yX8_set ∈ XB := xb_m2 24 (by decide +kernel) rfl
theorem ewX8_set : Cond.selects yX8_set.cls yX8_set yX8_set ∈ XB := xb_m2 25 (by decide +kernel) rfl
theorem cwX8_copyTrouble : Cond.code yX8_copyTrouble cX8_copyTrouble 5 (some .int) ∈ XB := xb_m2 60 (by decide +kernel) rfl
theorem nwX8_copyTrouble : Cond.instanceMethod yX8_copyTrouble ∈ XB := xb_m2 59 (by decide +kernel) rfl
theorem ewX8_copyTrouble : Cond.selects yX8_copyTrouble.cls yX8_copyTrouble yX8_copyTrouble ∈ XB := xb_m0 3 (by decide +kernel) rfl
theorem cwX8_copy : Cond.code yX8_copy cX8_copy 7 (some .int) ∈ XB := xb_m2 56 (by decide +kernel) rfl
theorem nwX8_copy : Cond.instanceMethod yX8_copy ∈ XB := xb_m2 54 (by decide +kernel) rfl
theorem ewX8_copy : Cond.selects yX8_copy.cls yX8_copy yX8_copy ∈ XB := xb_m2 55 (by decide +kernel) rfl
theorem cwX8_element : Cond.code yX8_element cX8_element 3 (some .long) ∈ XB := xb_m2 67 (by decide +kernel) rfl
theorem nwX8_element : Cond.instanceMethod yX8_element ∈ XB := xb_m2 65 (by decide +kernel) rfl
theorem ewX8_element : Cond.selects yX8_element.cls yX8_element yX8_element ∈ XB := xb_m2 66 (by decide +kernel) rfl
theorem cwX8_holds : Cond.code yX8_holds cX8_holds 2 (some .int) ∈ XB := xb_m2 71 (by decide +kernel) rfl
theorem nwX8_holds : Cond.instanceMethod yX8_holds ∈ XB := xb_m2 69 (by decide +kernel) rfl
theorem ewX8_holds : Cond.selects yX8_holds.cls yX8_holds yX8_holds ∈ XB := xb_m2 70 (by decide +kernel) rfl
theorem cwX8_show : Cond.code yX8_show cX8_show 3 (some .int) ∈ XB := xb_m2 75 (by decide +kernel) rfl
theorem nwX8_show : Cond.instanceMethod yX8_show ∈ XB := xb_m2 73 (by decide +kernel) rfl
theorem ewX8_show : Cond.selects yX8_show.cls yX8_show yX8_show ∈ XB := xb_m2 74 (by decide +kernel) rfl
theorem cwX8_says : Cond.code yX8_says cX8_says 5 (some .int) ∈ XB := xb_m2 87 (by decide +kernel) rfl
theorem nwX8_says : Cond.instanceMethod yX8_says ∈ XB := xb_m2 85 (by decide +kernel) rfl
theorem ewX8_says : Cond.selects yX8_says.cls yX8_says yX8_says ∈ XB := xb_m2 86 (by decide +kernel) rfl
theorem cwX8_brother : Cond.code yX8_brother cX8_brother 4 (some .int) ∈ XB := xb_m2 105 (by decide +kernel) rfl
theorem nwX8_brother : Cond.instanceMethod yX8_brother ∈ XB := xb_m2 103 (by decide +kernel) rfl
theorem ewX8_brother : Cond.selects yX8_brother.cls yX8_brother yX8_brother ∈ XB := xb_m2 104 (by decide +kernel) rfl
theorem cwX8_feud : Cond.code yX8_feud cX8_feud 5 (some .int) ∈ XB := xb_m2 124 (by decide +kernel) rfl
theorem nwX8_feud : Cond.instanceMethod yX8_feud ∈ XB := xb_m2 122 (by decide +kernel) rfl
theorem ewX8_feud : Cond.selects yX8_feud.cls yX8_feud yX8_feud ∈ XB := xb_m2 123 (by decide +kernel) rfl
theorem cwX8_need : Cond.code yX8_need cX8_need 2 (some .int) ∈ XB := xb_m2 137 (by decide +kernel) rfl
theorem nwX8_need : Cond.instanceMethod yX8_need ∈ XB := xb_m2 135 (by decide +kernel) rfl
theorem ewX8_need : Cond.selects yX8_need.cls yX8_need yX8_need ∈ XB := xb_m2 136 (by decide +kernel) rfl
theorem cwX8_age : Cond.code yX8_age cX8_age 4 (some .int) ∈ XB := xb_m2 150 (by decide +kernel) rfl
theorem nwX8_age : Cond.instanceMethod yX8_age ∈ XB := xb_m2 148 (by decide +kernel) rfl
theorem ewX8_age : Cond.selects yX8_age.cls yX8_age yX8_age ∈ XB := xb_m2 149 (by decide +kernel) rfl
theorem cwX8_goes : Cond.code yX8_goes cX8_goes 4 (some .int) ∈ XB := xb_m2 157 (by decide +kernel) rfl
theorem nwX8_goes : Cond.instanceMethod yX8_goes ∈ XB := xb_m2 155 (by decide +kernel) rfl
theorem ewX8_goes : Cond.selects yX8_goes.cls yX8_goes yX8_goes ∈ XB := xb_m2 156 (by decide +kernel) rfl
theorem cwX8_livingTrouble : Cond.code yX8_livingTrouble cX8_livingTrouble 2 (some .int) ∈ XB := xb_m2 165 (by decide +kernel) rfl
theorem nwX8_livingTrouble : Cond.instanceMethod yX8_livingTrouble ∈ XB := xb_m2 164 (by decide +kernel) rfl
theorem ewX8_livingTrouble : Cond.selects yX8_livingTrouble.cls yX8_livingTrouble yX8_livingTrouble ∈ XB := xb_m0 4 (by decide +kernel) rfl
theorem cwX8_dies : Cond.code yX8_dies cX8_dies 3 (some .int) ∈ XB := xb_m2 161 (by decide +kernel) rfl
theorem nwX8_dies : Cond.instanceMethod yX8_dies ∈ XB := xb_m2 159 (by decide +kernel) rfl
theorem ewX8_dies : Cond.selects yX8_dies.cls yX8_dies yX8_dies ∈ XB := xb_m2 160 (by decide +kernel) rfl
theorem cwX8_feed : Cond.code yX8_feed cX8_feed 2 (some .int) ∈ XB := xb_m2 180 (by decide +kernel) rfl
theorem nwX8_feed : Cond.instanceMethod yX8_feed ∈ XB := xb_m2 178 (by decide +kernel) rfl
theorem ewX8_feed : Cond.selects yX8_feed.cls yX8_feed yX8_feed ∈ XB := xb_m2 179 (by decide +kernel) rfl
theorem cwX8_wipe : Cond.code yX8_wipe cX8_wipe 1 (some .int) ∈ XB := xb_m2 193 (by decide +kernel) rfl
theorem nwX8_wipe : Cond.instanceMethod yX8_wipe ∈ XB := xb_m2 191 (by decide +kernel) rfl
theorem ewX8_wipe : Cond.selects yX8_wipe.cls yX8_wipe yX8_wipe ∈ XB := xb_m2 192 (by decide +kernel) rfl
theorem cwX8_rock : Cond.code yX8_rock cX8_rock 2 (some .int) ∈ XB := xb_m2 201 (by decide +kernel) rfl
theorem nwX8_rock : Cond.instanceMethod yX8_rock ∈ XB := xb_m2 199 (by decide +kernel) rfl
theorem ewX8_rock : Cond.selects yX8_rock.cls yX8_rock yX8_rock ∈ XB := xb_m2 200 (by decide +kernel) rfl
theorem cwX8_brotherOf : Cond.code yX8_brotherOf cX8_brotherOf 3 (some .int) ∈ XB := xb_m3 81 (by decide +kernel) rfl
theorem nwX8_brotherOf : Cond.instanceMethod yX8_brotherOf ∈ XB := xb_m3 79 (by decide +kernel) rfl
theorem ewX8_brotherOf : Cond.selects yX8_brotherOf.cls yX8_brotherOf yX8_brotherOf ∈ XB := xb_m3 80 (by decide +kernel) rfl
theorem cwX8_needOf : Cond.code yX8_needOf cX8_needOf 2 (some .int) ∈ XB := xb_m3 85 (by decide +kernel) rfl
theorem nwX8_needOf : Cond.instanceMethod yX8_needOf ∈ XB := xb_m3 83 (by decide +kernel) rfl
theorem ewX8_needOf : Cond.selects yX8_needOf.cls yX8_needOf yX8_needOf ∈ XB := xb_m3 84 (by decide +kernel) rfl
theorem cwX8_isTold : Cond.code yX8_isTold cX8_isTold 1 (some .boolean) ∈ XB := xb_m3 97 (by decide +kernel) rfl
theorem swX8_isTold : Cond.static yX8_isTold ∈ XB := xb_m3 96 (by decide +kernel) rfl
theorem cwX8_sayingsNow : Cond.code yX8_sayingsNow cX8_sayingsNow 1 (some (.object "VowOfOneWord$Sayings")) ∈ XB := xb_m3 101 (by decide +kernel) rfl
theorem nwX8_sayingsNow : Cond.instanceMethod yX8_sayingsNow ∈ XB := xb_m3 100 (by decide +kernel) rfl
theorem ewX8_sayingsNow : Cond.selects yX8_sayingsNow.cls yX8_sayingsNow yX8_sayingsNow ∈ XB := xb_m0 14 (by decide +kernel) rfl
theorem cwX8_shortest : Cond.code yX8_shortest cX8_shortest 8 (some .int) ∈ XB := xb_m3 94 (by decide +kernel) rfl
theorem nwX8_shortest : Cond.instanceMethod yX8_shortest ∈ XB := xb_m3 92 (by decide +kernel) rfl
theorem ewX8_shortest : Cond.selects yX8_shortest.cls yX8_shortest yX8_shortest ∈ XB := xb_m3 93 (by decide +kernel) rfl
theorem cwX8_said : Cond.code yX8_said cX8_said 4 (some .int) ∈ XB := xb_m3 197 (by decide +kernel) rfl
theorem nwX8_said : Cond.instanceMethod yX8_said ∈ XB := xb_m3 195 (by decide +kernel) rfl
theorem ewX8_said : Cond.selects yX8_said.cls yX8_said yX8_said ∈ XB := xb_m3 196 (by decide +kernel) rfl
theorem cwX8_many : Cond.code yX8_many cX8_many 4 (some .int) ∈ XB := xb_m3 225 (by decide +kernel) rfl
theorem nwX8_many : Cond.instanceMethod yX8_many ∈ XB := xb_m3 223 (by decide +kernel) rfl
theorem ewX8_many : Cond.selects yX8_many.cls yX8_many yX8_many ∈ XB := xb_m3 224 (by decide +kernel) rfl
theorem cwX8_who : Cond.code yX8_who cX8_who 3 (some .int) ∈ XB := xb_m3 233 (by decide +kernel) rfl
theorem nwX8_who : Cond.instanceMethod yX8_who ∈ XB := xb_m3 231 (by decide +kernel) rfl
theorem ewX8_who : Cond.selects yX8_who.cls yX8_who yX8_who ∈ XB := xb_m3 232 (by decide +kernel) rfl
theorem cwX8_nearest : Cond.code yX8_nearest cX8_nearest 3 (some .int) ∈ XB := xb_m4 10 (by decide +kernel) rfl
theorem nwX8_nearest : Cond.instanceMethod yX8_nearest ∈ XB := xb_m4 8 (by decide +kernel) rfl
theorem ewX8_nearest : Cond.selects yX8_nearest.cls yX8_nearest yX8_nearest ∈ XB := xb_m4 9 (by decide +kernel) rfl
theorem cwX8_first : Cond.code yX8_first cX8_first 2 (some .int) ∈ XB := xb_m4 21 (by decide +kernel) rfl
theorem nwX8_first : Cond.instanceMethod yX8_first ∈ XB := xb_m4 19 (by decide +kernel) rfl
theorem ewX8_first : Cond.selects yX8_first.cls yX8_first yX8_first ∈ XB := xb_m4 20 (by decide +kernel) rfl
theorem cwX8_crowd : Cond.code yX8_crowd cX8_crowd 1 (some .int) ∈ XB := xb_m4 30 (by decide +kernel) rfl
theorem nwX8_crowd : Cond.instanceMethod yX8_crowd ∈ XB := xb_m4 28 (by decide +kernel) rfl
theorem ewX8_crowd : Cond.selects yX8_crowd.cls yX8_crowd yX8_crowd ∈ XB := xb_m4 29 (by decide +kernel) rfl
theorem cwX8_gather : Cond.code yX8_gather cX8_gather 1 (some .int) ∈ XB := xb_m4 38 (by decide +kernel) rfl
theorem nwX8_gather : Cond.instanceMethod yX8_gather ∈ XB := xb_m4 36 (by decide +kernel) rfl
theorem ewX8_gather : Cond.selects yX8_gather.cls yX8_gather yX8_gather ∈ XB := xb_m4 37 (by decide +kernel) rfl
theorem cwX8_alone : Cond.code yX8_alone cX8_alone 3 (some .int) ∈ XB := xb_m4 55 (by decide +kernel) rfl
theorem nwX8_alone : Cond.instanceMethod yX8_alone ∈ XB := xb_m4 53 (by decide +kernel) rfl
theorem ewX8_alone : Cond.selects yX8_alone.cls yX8_alone yX8_alone ∈ XB := xb_m4 54 (by decide +kernel) rfl
theorem cwX8_lasting : Cond.code yX8_lasting cX8_lasting 1 (some .int) ∈ XB := xb_m4 59 (by decide +kernel) rfl
theorem nwX8_lasting : Cond.instanceMethod yX8_lasting ∈ XB := xb_m4 57 (by decide +kernel) rfl
theorem ewX8_lasting : Cond.selects yX8_lasting.cls yX8_lasting yX8_lasting ∈ XB := xb_m4 58 (by decide +kernel) rfl
theorem cwX8_longest : Cond.code yX8_longest cX8_longest 2 (some .int) ∈ XB := xb_m4 73 (by decide +kernel) rfl
theorem nwX8_longest : Cond.instanceMethod yX8_longest ∈ XB := xb_m4 71 (by decide +kernel) rfl
theorem ewX8_longest : Cond.selects yX8_longest.cls yX8_longest yX8_longest ∈ XB := xb_m4 72 (by decide +kernel) rfl
theorem cwX8_met : Cond.code yX8_met cX8_met 1 (some .int) ∈ XB := xb_m4 81 (by decide +kernel) rfl
theorem nwX8_met : Cond.instanceMethod yX8_met ∈ XB := xb_m4 79 (by decide +kernel) rfl
theorem ewX8_met : Cond.selects yX8_met.cls yX8_met yX8_met ∈ XB := xb_m4 80 (by decide +kernel) rfl
theorem cwX8_without : Cond.code yX8_without cX8_without 5 (some .int) ∈ XB := xb_m4 93 (by decide +kernel) rfl
theorem nwX8_without : Cond.instanceMethod yX8_without ∈ XB := xb_m4 91 (by decide +kernel) rfl
theorem ewX8_without : Cond.selects yX8_without.cls yX8_without yX8_without ∈ XB := xb_m4 92 (by decide +kernel) rfl
theorem cwX8_mightiest : Cond.code yX8_mightiest cX8_mightiest 1 (some .int) ∈ XB := xb_m4 102 (by decide +kernel) rfl
theorem nwX8_mightiest : Cond.instanceMethod yX8_mightiest ∈ XB := xb_m4 100 (by decide +kernel) rfl
theorem ewX8_mightiest : Cond.selects yX8_mightiest.cls yX8_mightiest yX8_mightiest ∈ XB := xb_m4 101 (by decide +kernel) rfl
theorem cwX8_choice : Cond.code yX8_choice cX8_choice 2 (some .int) ∈ XB := xb_m4 113 (by decide +kernel) rfl
theorem nwX8_choice : Cond.instanceMethod yX8_choice ∈ XB := xb_m4 111 (by decide +kernel) rfl
theorem ewX8_choice : Cond.selects yX8_choice.cls yX8_choice yX8_choice ∈ XB := xb_m4 112 (by decide +kernel) rfl
theorem cwX8_memberOf : Cond.code yX8_memberOf cX8_memberOf 4 (some .int) ∈ XB := xb_m4 146 (by decide +kernel) rfl
theorem swX8_memberOf : Cond.static yX8_memberOf ∈ XB := xb_m4 145 (by decide +kernel) rfl
theorem cwX8_lost : Cond.code yX8_lost cX8_lost 5 (some .int) ∈ XB := xb_m4 139 (by decide +kernel) rfl
theorem nwX8_lost : Cond.instanceMethod yX8_lost ∈ XB := xb_m4 137 (by decide +kernel) rfl
theorem ewX8_lost : Cond.selects yX8_lost.cls yX8_lost yX8_lost ∈ XB := xb_m4 138 (by decide +kernel) rfl
theorem cwX8_canRun : Cond.code yX8_canRun cX8_canRun 2 (some .boolean) ∈ XB := xb_m4 154 (by decide +kernel) rfl
theorem nwX8_canRun : Cond.instanceMethod yX8_canRun ∈ XB := xb_m4 153 (by decide +kernel) rfl
theorem ewX8_canRun : Cond.selects yX8_canRun.cls yX8_canRun yX8_canRun ∈ XB := xb_m0 27 (by decide +kernel) rfl
theorem cwX8_ran : Cond.code yX8_ran cX8_ran 5 (some .int) ∈ XB := xb_m4 150 (by decide +kernel) rfl
theorem nwX8_ran : Cond.instanceMethod yX8_ran ∈ XB := xb_m4 148 (by decide +kernel) rfl
theorem ewX8_ran : Cond.selects yX8_ran.cls yX8_ran yX8_ran ∈ XB := xb_m4 149 (by decide +kernel) rfl
theorem cwX8_meant : Cond.code yX8_meant cX8_meant 3 (some .int) ∈ XB := xb_m4 170 (by decide +kernel) rfl
theorem nwX8_meant : Cond.instanceMethod yX8_meant ∈ XB := xb_m4 168 (by decide +kernel) rfl
theorem ewX8_meant : Cond.selects yX8_meant.cls yX8_meant yX8_meant ∈ XB := xb_m4 169 (by decide +kernel) rfl
theorem cwX8_toldTrouble : Cond.code yX8_toldTrouble cX8_toldTrouble 4 (some .int) ∈ XB := xb_m4 182 (by decide +kernel) rfl
theorem nwX8_toldTrouble : Cond.instanceMethod yX8_toldTrouble ∈ XB := xb_m4 181 (by decide +kernel) rfl
theorem ewX8_toldTrouble : Cond.selects yX8_toldTrouble.cls yX8_toldTrouble yX8_toldTrouble ∈ XB := xb_m0 28 (by decide +kernel) rfl
theorem cwX8_judge : Cond.code yX8_judge cX8_judge 4 (some .int) ∈ XB := xb_m4 178 (by decide +kernel) rfl
theorem nwX8_judge : Cond.instanceMethod yX8_judge ∈ XB := xb_m4 176 (by decide +kernel) rfl
theorem ewX8_judge : Cond.selects yX8_judge.cls yX8_judge yX8_judge ∈ XB := xb_m4 177 (by decide +kernel) rfl
theorem cwX8_wrongTrouble : Cond.code yX8_wrongTrouble cX8_wrongTrouble 4 (some .int) ∈ XB := xb_m4 200 (by decide +kernel) rfl
theorem nwX8_wrongTrouble : Cond.instanceMethod yX8_wrongTrouble ∈ XB := xb_m4 199 (by decide +kernel) rfl
theorem ewX8_wrongTrouble : Cond.selects yX8_wrongTrouble.cls yX8_wrongTrouble yX8_wrongTrouble ∈ XB := xb_m0 29 (by decide +kernel) rfl
theorem cwX8_means : Cond.code yX8_means cX8_means 4 (some .int) ∈ XB := xb_m4 196 (by decide +kernel) rfl
theorem nwX8_means : Cond.instanceMethod yX8_means ∈ XB := xb_m4 194 (by decide +kernel) rfl
theorem ewX8_means : Cond.selects yX8_means.cls yX8_means yX8_means ∈ XB := xb_m4 195 (by decide +kernel) rfl
theorem cwX8_stands : Cond.code yX8_stands cX8_stands 6 (some .int) ∈ XB := xb_m4 205 (by decide +kernel) rfl
theorem nwX8_stands : Cond.instanceMethod yX8_stands ∈ XB := xb_m4 203 (by decide +kernel) rfl
theorem ewX8_stands : Cond.selects yX8_stands.cls yX8_stands yX8_stands ∈ XB := xb_m4 204 (by decide +kernel) rfl
theorem cwX8_done : Cond.code yX8_done cX8_done 4 (some .int) ∈ XB := xb_m4 219 (by decide +kernel) rfl
theorem nwX8_done : Cond.instanceMethod yX8_done ∈ XB := xb_m4 217 (by decide +kernel) rfl
theorem ewX8_done : Cond.selects yX8_done.cls yX8_done yX8_done ∈ XB := xb_m4 218 (by decide +kernel) rfl
theorem cwX8_peace : Cond.code yX8_peace cX8_peace 2 (some .int) ∈ XB := xb_m4 226 (by decide +kernel) rfl
theorem nwX8_peace : Cond.instanceMethod yX8_peace ∈ XB := xb_m4 224 (by decide +kernel) rfl
theorem ewX8_peace : Cond.selects yX8_peace.cls yX8_peace yX8_peace ∈ XB := xb_m4 225 (by decide +kernel) rfl
theorem cwX8_years : Cond.code yX8_years cX8_years 4 (some .int) ∈ XB := xb_m4 239 (by decide +kernel) rfl
theorem nwX8_years : Cond.instanceMethod yX8_years ∈ XB := xb_m4 237 (by decide +kernel) rfl
theorem ewX8_years : Cond.selects yX8_years.cls yX8_years yX8_years ∈ XB := xb_m4 238 (by decide +kernel) rfl
theorem cwX8_seed : Cond.code yX8_seed cX8_seed 3 (some .int) ∈ XB := xb_m5 13 (by decide +kernel) rfl
theorem nwX8_seed : Cond.instanceMethod yX8_seed ∈ XB := xb_m5 11 (by decide +kernel) rfl
theorem ewX8_seed : Cond.selects yX8_seed.cls yX8_seed yX8_seed ∈ XB := xb_m5 12 (by decide +kernel) rfl
theorem cwX8_image : Cond.code yX8_image cX8_image 1 (some .int) ∈ XB := xb_m5 17 (by decide +kernel) rfl
theorem nwX8_image : Cond.instanceMethod yX8_image ∈ XB := xb_m5 15 (by decide +kernel) rfl
theorem ewX8_image : Cond.selects yX8_image.cls yX8_image yX8_image ∈ XB := xb_m5 16 (by decide +kernel) rfl
theorem cwX8_back : Cond.code yX8_back cX8_back 2 (some .int) ∈ XB := xb_m5 21 (by decide +kernel) rfl
theorem nwX8_back : Cond.instanceMethod yX8_back ∈ XB := xb_m5 19 (by decide +kernel) rfl
theorem ewX8_back : Cond.selects yX8_back.cls yX8_back yX8_back ∈ XB := xb_m5 20 (by decide +kernel) rfl
theorem cwX8_shelvesHolding : Cond.code yX8_shelvesHolding cX8_shelvesHolding 3 (some .int) ∈ XB := xb_m5 37 (by decide +kernel) rfl
theorem nwX8_shelvesHolding : Cond.instanceMethod yX8_shelvesHolding ∈ XB := xb_m5 36 (by decide +kernel) rfl
theorem ewX8_shelvesHolding : Cond.selects yX8_shelvesHolding.cls yX8_shelvesHolding yX8_shelvesHolding ∈ XB := xb_m0 31 (by decide +kernel) rfl
theorem cwX8_status : Cond.code yX8_status cX8_status 2 (some .int) ∈ XB := xb_m5 25 (by decide +kernel) rfl
theorem nwX8_status : Cond.instanceMethod yX8_status ∈ XB := xb_m5 23 (by decide +kernel) rfl
theorem ewX8_status : Cond.selects yX8_status.cls yX8_status yX8_status ∈ XB := xb_m5 24 (by decide +kernel) rfl
theorem cwX9_no : Cond.code yX9_no cX9_no 2 (some .int) ∈ XB := xb_m5 158 (by decide +kernel) rfl
theorem nwX9_no : Cond.instanceMethod yX9_no ∈ XB := xb_m5 157 (by decide +kernel) rfl
theorem ewX9_no : Cond.selects yX9_no.cls yX9_no yX9_no ∈ XB := xb_m0 32 (by decide +kernel) rfl
theorem cwX9_noMeaning : Cond.code yX9_noMeaning cX9_noMeaning 2 (some .int) ∈ XB := xb_m6 78 (by decide +kernel) rfl
theorem nwX9_noMeaning : Cond.instanceMethod yX9_noMeaning ∈ XB := xb_m6 77 (by decide +kernel) rfl
theorem ewX9_noMeaning : Cond.selects yX9_noMeaning.cls yX9_noMeaning yX9_noMeaning ∈ XB := xb_m0 48 (by decide +kernel) rfl
theorem cwX9_within : Cond.code yX9_within cX9_within 3 (some .boolean) ∈ XB := xb_m5 154 (by decide +kernel) rfl
theorem swX9_within : Cond.static yX9_within ∈ XB := xb_m5 153 (by decide +kernel) rfl
theorem cwX9_has : Cond.code yX9_has cX9_has 2 (some .boolean) ∈ XB := xb_m5 222 (by decide +kernel) rfl
theorem swX9_has : Cond.static yX9_has ∈ XB := xb_m5 221 (by decide +kernel) rfl
theorem cwX9_isBrother : Cond.code yX9_isBrother cX9_isBrother 2 (some .boolean) ∈ XB := xb_m5 193 (by decide +kernel) rfl
theorem nwX9_isBrother : Cond.instanceMethod yX9_isBrother ∈ XB := xb_m5 192 (by decide +kernel) rfl
theorem ewX9_isBrother : Cond.selects yX9_isBrother.cls yX9_isBrother yX9_isBrother ∈ XB := xb_m0 35 (by decide +kernel) rfl
theorem cwX9_isNeed : Cond.code yX9_isNeed cX9_isNeed 2 (some .boolean) ∈ XB := xb_m6 74 (by decide +kernel) rfl
theorem nwX9_isNeed : Cond.instanceMethod yX9_isNeed ∈ XB := xb_m6 73 (by decide +kernel) rfl
theorem ewX9_isNeed : Cond.selects yX9_isNeed.cls yX9_isNeed yX9_isNeed ∈ XB := xb_m0 47 (by decide +kernel) rfl
theorem cwX9_isCell : Cond.code yX9_isCell cX9_isCell 1 (some .boolean) ∈ XB := xb_m5 207 (by decide +kernel) rfl
theorem swX9_isCell : Cond.static yX9_isCell ∈ XB := xb_m5 206 (by decide +kernel) rfl
theorem cwX9_isShelf : Cond.code yX9_isShelf cX9_isShelf 1 (some .boolean) ∈ XB := xb_m5 151 (by decide +kernel) rfl
theorem swX9_isShelf : Cond.static yX9_isShelf ∈ XB := xb_m5 150 (by decide +kernel) rfl
theorem cwX9_isRow : Cond.code yX9_isRow cX9_isRow 2 (some .boolean) ∈ XB := xb_m5 166 (by decide +kernel) rfl
theorem nwX9_isRow : Cond.instanceMethod yX9_isRow ∈ XB := xb_m5 165 (by decide +kernel) rfl
theorem ewX9_isRow : Cond.selects yX9_isRow.cls yX9_isRow yX9_isRow ∈ XB := xb_m0 33 (by decide +kernel) rfl
theorem cwX9_row : Cond.code yX9_row cX9_row 5 (some .int) ∈ XB := xb_m5 148 (by decide +kernel) rfl
theorem nwX9_row : Cond.instanceMethod yX9_row ∈ XB := xb_m5 146 (by decide +kernel) rfl
theorem ewX9_row : Cond.selects yX9_row.cls yX9_row yX9_row ∈ XB := xb_m5 147 (by decide +kernel) rfl
theorem cwX9_noRow : Cond.code yX9_noRow cX9_noRow 2 (some .int) ∈ XB := xb_m5 170 (by decide +kernel) rfl
theorem nwX9_noRow : Cond.instanceMethod yX9_noRow ∈ XB := xb_m5 169 (by decide +kernel) rfl
theorem ewX9_noRow : Cond.selects yX9_noRow.cls yX9_noRow yX9_noRow ∈ XB := xb_m0 34 (by decide +kernel) rfl
theorem cwX9_kept : Cond.code yX9_kept cX9_kept 3 (some .long) ∈ XB := xb_m5 173 (by decide +kernel) rfl
theorem swX9_kept : Cond.static yX9_kept ∈ XB := xb_m5 172 (by decide +kernel) rfl
theorem cwX9_set : Cond.code yX9_set cX9_set 5 (some .int) ∈ XB := xb_m5 162 (by decide +kernel) rfl
theorem nwX9_set : Cond.instanceMethod yX9_set ∈ XB := xb_m5 160 (by decide +kernel) rfl
theorem ewX9_set : Cond.selects yX9_set.cls yX9_set yX9_set ∈ XB := xb_m5 161 (by decide +kernel) rfl
theorem cwX9_copy : Cond.code yX9_copy cX9_copy 7 (some .int) ∈ XB := xb_m5 177 (by decide +kernel) rfl
theorem nwX9_copy : Cond.instanceMethod yX9_copy ∈ XB := xb_m5 175 (by decide +kernel) rfl
theorem ewX9_copy : Cond.selects yX9_copy.cls yX9_copy yX9_copy ∈ XB := xb_m5 176 (by decide +kernel) rfl
theorem cwX9_element : Cond.code yX9_element cX9_element 3 (some .long) ∈ XB := xb_m5 181 (by decide +kernel) rfl
theorem nwX9_element : Cond.instanceMethod yX9_element ∈ XB := xb_m5 179 (by decide +kernel) rfl
theorem ewX9_element : Cond.selects yX9_element.cls yX9_element yX9_element ∈ XB := xb_m5 180 (by decide +kernel) rfl
theorem cwX9_holds : Cond.code yX9_holds cX9_holds 2 (some .int) ∈ XB := xb_m5 185 (by decide +kernel) rfl
theorem nwX9_holds : Cond.instanceMethod yX9_holds ∈ XB := xb_m5 183 (by decide +kernel) rfl
theorem ewX9_holds : Cond.selects yX9_holds.cls yX9_holds yX9_holds ∈ XB := xb_m5 184 (by decide +kernel) rfl
theorem cwX9_show : Cond.code yX9_show cX9_show 3 (some .int) ∈ XB := xb_m5 189 (by decide +kernel) rfl
theorem nwX9_show : Cond.instanceMethod yX9_show ∈ XB := xb_m5 187 (by decide +kernel) rfl
theorem ewX9_show : Cond.selects yX9_show.cls yX9_show yX9_show ∈ XB := xb_m5 188 (by decide +kernel) rfl
theorem cwX9_isUnder : Cond.code yX9_isUnder cX9_isUnder 2 (some .boolean) ∈ XB := xb_m5 200 (by decide +kernel) rfl
theorem swX9_isUnder : Cond.static yX9_isUnder ∈ XB := xb_m5 199 (by decide +kernel) rfl
theorem cwX9_says : Cond.code yX9_says cX9_says 6 (some .int) ∈ XB := xb_m5 197 (by decide +kernel) rfl
theorem nwX9_says : Cond.instanceMethod yX9_says ∈ XB := xb_m5 195 (by decide +kernel) rfl
theorem ewX9_says : Cond.selects yX9_says.cls yX9_says yX9_says ∈ XB := xb_m5 196 (by decide +kernel) rfl
theorem cwX9_newBrother : Cond.code yX9_newBrother cX9_newBrother 4 (some .int) ∈ XB := xb_m5 211 (by decide +kernel) rfl
theorem nwX9_newBrother : Cond.instanceMethod yX9_newBrother ∈ XB := xb_m5 210 (by decide +kernel) rfl
theorem ewX9_newBrother : Cond.selects yX9_newBrother.cls yX9_newBrother yX9_newBrother ∈ XB := xb_m0 36 (by decide +kernel) rfl
theorem cwX9_brother : Cond.code yX9_brother cX9_brother 4 (some .int) ∈ XB := xb_m5 204 (by decide +kernel) rfl
theorem nwX9_brother : Cond.instanceMethod yX9_brother ∈ XB := xb_m5 202 (by decide +kernel) rfl
theorem ewX9_brother : Cond.selects yX9_brother.cls yX9_brother yX9_brother ∈ XB := xb_m5 203 (by decide +kernel) rfl
theorem cwX9_feudBe : Cond.code yX9_feudBe cX9_feudBe 5 (some .int) ∈ XB := xb_m5 219 (by decide +kernel) rfl
theorem nwX9_feudBe : Cond.instanceMethod yX9_feudBe ∈ XB := xb_m5 218 (by decide +kernel) rfl
theorem ewX9_feudBe : Cond.selects yX9_feudBe.cls yX9_feudBe yX9_feudBe ∈ XB := xb_m0 37 (by decide +kernel) rfl
theorem cwX9_feud : Cond.code yX9_feud cX9_feud 4 (some .int) ∈ XB := xb_m5 215 (by decide +kernel) rfl
theorem nwX9_feud : Cond.instanceMethod yX9_feud ∈ XB := xb_m5 213 (by decide +kernel) rfl
theorem ewX9_feud : Cond.selects yX9_feud.cls yX9_feud yX9_feud ∈ XB := xb_m5 214 (by decide +kernel) rfl
theorem cwX9_newNeed : Cond.code yX9_newNeed cX9_newNeed 2 (some .int) ∈ XB := xb_m5 230 (by decide +kernel) rfl
theorem nwX9_newNeed : Cond.instanceMethod yX9_newNeed ∈ XB := xb_m5 229 (by decide +kernel) rfl
theorem ewX9_newNeed : Cond.selects yX9_newNeed.cls yX9_newNeed yX9_newNeed ∈ XB := xb_m0 38 (by decide +kernel) rfl
theorem cwX9_need : Cond.code yX9_need cX9_need 2 (some .int) ∈ XB := xb_m5 226 (by decide +kernel) rfl
theorem nwX9_need : Cond.instanceMethod yX9_need ∈ XB := xb_m5 224 (by decide +kernel) rfl
theorem ewX9_need : Cond.selects yX9_need.cls yX9_need yX9_need ∈ XB := xb_m5 225 (by decide +kernel) rfl
theorem cwX9_age : Cond.code yX9_age cX9_age 4 (some .int) ∈ XB := xb_m5 234 (by decide +kernel) rfl
theorem nwX9_age : Cond.instanceMethod yX9_age ∈ XB := xb_m5 232 (by decide +kernel) rfl
theorem ewX9_age : Cond.selects yX9_age.cls yX9_age yX9_age ∈ XB := xb_m5 233 (by decide +kernel) rfl
theorem cwX9_goes : Cond.code yX9_goes cX9_goes 4 (some .int) ∈ XB := xb_m5 238 (by decide +kernel) rfl
theorem nwX9_goes : Cond.instanceMethod yX9_goes ∈ XB := xb_m5 236 (by decide +kernel) rfl
theorem ewX9_goes : Cond.selects yX9_goes.cls yX9_goes yX9_goes ∈ XB := xb_m5 237 (by decide +kernel) rfl
theorem cwX9_living : Cond.code yX9_living cX9_living 3 (some .int) ∈ XB := xb_m6 6 (by decide +kernel) rfl
theorem nwX9_living : Cond.instanceMethod yX9_living ∈ XB := xb_m6 5 (by decide +kernel) rfl
theorem ewX9_living : Cond.selects yX9_living.cls yX9_living yX9_living ∈ XB := xb_m0 39 (by decide +kernel) rfl
theorem cwX9_dies : Cond.code yX9_dies cX9_dies 2 (some .int) ∈ XB := xb_m6 2 (by decide +kernel) rfl
theorem nwX9_dies : Cond.instanceMethod yX9_dies ∈ XB := xb_m6 0 (by decide +kernel) rfl
theorem ewX9_dies : Cond.selects yX9_dies.cls yX9_dies yX9_dies ∈ XB := xb_m6 1 (by decide +kernel) rfl
theorem cwX9_feed : Cond.code yX9_feed cX9_feed 2 (some .int) ∈ XB := xb_m6 11 (by decide +kernel) rfl
theorem nwX9_feed : Cond.instanceMethod yX9_feed ∈ XB := xb_m6 9 (by decide +kernel) rfl
theorem ewX9_feed : Cond.selects yX9_feed.cls yX9_feed yX9_feed ∈ XB := xb_m6 10 (by decide +kernel) rfl
theorem cwX9_wipe : Cond.code yX9_wipe cX9_wipe 2 (some .int) ∈ XB := xb_m6 15 (by decide +kernel) rfl
theorem nwX9_wipe : Cond.instanceMethod yX9_wipe ∈ XB := xb_m6 13 (by decide +kernel) rfl
theorem ewX9_wipe : Cond.selects yX9_wipe.cls yX9_wipe yX9_wipe ∈ XB := xb_m6 14 (by decide +kernel) rfl
theorem cwX9_isLetter : Cond.code yX9_isLetter cX9_isLetter 1 (some .boolean) ∈ XB := xb_m6 30 (by decide +kernel) rfl
theorem swX9_isLetter : Cond.static yX9_isLetter ∈ XB := xb_m6 29 (by decide +kernel) rfl
theorem cwX9_isDigit : Cond.code yX9_isDigit cX9_isDigit 1 (some .boolean) ∈ XB := xb_m6 33 (by decide +kernel) rfl
theorem swX9_isDigit : Cond.static yX9_isDigit ∈ XB := xb_m6 32 (by decide +kernel) rfl
theorem cwX9_next : Cond.code yX9_next cX9_next 2 none ∈ XB := xb_m6 27 (by decide +kernel) rfl
theorem nwX9_next : Cond.instanceMethod yX9_next ∈ XB := xb_m6 26 (by decide +kernel) rfl
theorem ewX9_next : Cond.selects yX9_next.cls yX9_next yX9_next ∈ XB := xb_m0 41 (by decide +kernel) rfl
theorem cwX9_isWord : Cond.code yX9_isWord cX9_isWord 3 (some .boolean) ∈ XB := xb_m6 42 (by decide +kernel) rfl
theorem nwX9_isWord : Cond.instanceMethod yX9_isWord ∈ XB := xb_m6 41 (by decide +kernel) rfl
theorem ewX9_isWord : Cond.selects yX9_isWord.cls yX9_isWord yX9_isWord ∈ XB := xb_m0 43 (by decide +kernel) rfl
theorem cwX9_number : Cond.code yX9_number cX9_number 3 (some .int) ∈ XB := xb_m6 48 (by decide +kernel) rfl
theorem nwX9_number : Cond.instanceMethod yX9_number ∈ XB := xb_m6 47 (by decide +kernel) rfl
theorem ewX9_number : Cond.selects yX9_number.cls yX9_number yX9_number ∈ XB := xb_m0 44 (by decide +kernel) rfl
theorem cwX9_two : Cond.code yX9_two cX9_two 4 (some .boolean) ∈ XB := xb_m6 53 (by decide +kernel) rfl
theorem nwX9_two : Cond.instanceMethod yX9_two ∈ XB := xb_m6 52 (by decide +kernel) rfl
theorem ewX9_two : Cond.selects yX9_two.cls yX9_two yX9_two ∈ XB := xb_m0 45 (by decide +kernel) rfl
theorem cwX9_statement : Cond.code yX9_statement cX9_statement 4 (some .boolean) ∈ XB := xb_m6 37 (by decide +kernel) rfl
theorem nwX9_statement : Cond.instanceMethod yX9_statement ∈ XB := xb_m6 36 (by decide +kernel) rfl
theorem ewX9_statement : Cond.selects yX9_statement.cls yX9_statement yX9_statement ∈ XB := xb_m0 42 (by decide +kernel) rfl
theorem cwX9_keep : Cond.code yX9_keep cX9_keep 3 none ∈ XB := xb_m6 23 (by decide +kernel) rfl
theorem nwX9_keep : Cond.instanceMethod yX9_keep ∈ XB := xb_m6 22 (by decide +kernel) rfl
theorem ewX9_keep : Cond.selects yX9_keep.cls yX9_keep yX9_keep ∈ XB := xb_m0 40 (by decide +kernel) rfl
theorem cwX9_again : Cond.code yX9_again cX9_again 3 none ∈ XB := xb_m6 62 (by decide +kernel) rfl
theorem nwX9_again : Cond.instanceMethod yX9_again ∈ XB := xb_m6 61 (by decide +kernel) rfl
theorem ewX9_again : Cond.selects yX9_again.cls yX9_again yX9_again ∈ XB := xb_m0 46 (by decide +kernel) rfl
theorem cwX9_rock : Cond.code yX9_rock cX9_rock 3 (some .int) ∈ XB := xb_m6 19 (by decide +kernel) rfl
theorem nwX9_rock : Cond.instanceMethod yX9_rock ∈ XB := xb_m6 17 (by decide +kernel) rfl
theorem ewX9_rock : Cond.selects yX9_rock.cls yX9_rock yX9_rock ∈ XB := xb_m6 18 (by decide +kernel) rfl
theorem cwX9_brotherOf : Cond.code yX9_brotherOf cX9_brotherOf 3 (some .int) ∈ XB := xb_m6 66 (by decide +kernel) rfl
theorem nwX9_brotherOf : Cond.instanceMethod yX9_brotherOf ∈ XB := xb_m6 64 (by decide +kernel) rfl
theorem ewX9_brotherOf : Cond.selects yX9_brotherOf.cls yX9_brotherOf yX9_brotherOf ∈ XB := xb_m6 65 (by decide +kernel) rfl
theorem cwX9_needOf : Cond.code yX9_needOf cX9_needOf 2 (some .int) ∈ XB := xb_m6 70 (by decide +kernel) rfl
theorem nwX9_needOf : Cond.instanceMethod yX9_needOf ∈ XB := xb_m6 68 (by decide +kernel) rfl
theorem ewX9_needOf : Cond.selects yX9_needOf.cls yX9_needOf yX9_needOf ∈ XB := xb_m6 69 (by decide +kernel) rfl
theorem cwX9_step : Cond.code yX9_step cX9_step 2 (some .int) ∈ XB := xb_m6 102 (by decide +kernel) rfl
theorem swX9_step : Cond.static yX9_step ∈ XB := xb_m6 101 (by decide +kernel) rfl
theorem cwX9_isEnd : Cond.code yX9_isEnd cX9_isEnd 1 (some .boolean) ∈ XB := xb_m6 105 (by decide +kernel) rfl
theorem swX9_isEnd : Cond.static yX9_isEnd ∈ XB := xb_m6 104 (by decide +kernel) rfl
theorem cwX9_begins : Cond.code yX9_begins cX9_begins 4 none ∈ XB := xb_m6 91 (by decide +kernel) rfl
theorem nwX9_begins : Cond.instanceMethod yX9_begins ∈ XB := xb_m6 90 (by decide +kernel) rfl
theorem ewX9_begins : Cond.selects yX9_begins.cls yX9_begins yX9_begins ∈ XB := xb_m0 50 (by decide +kernel) rfl
theorem cwX9_canStand : Cond.code yX9_canStand cX9_canStand 2 (some .boolean) ∈ XB := xb_m6 99 (by decide +kernel) rfl
theorem nwX9_canStand : Cond.instanceMethod yX9_canStand ∈ XB := xb_m6 98 (by decide +kernel) rfl
theorem ewX9_canStand : Cond.selects yX9_canStand.cls yX9_canStand yX9_canStand ∈ XB := xb_m0 52 (by decide +kernel) rfl
theorem cwX9_goesOn : Cond.code yX9_goesOn cX9_goesOn 3 (some .boolean) ∈ XB := xb_m6 95 (by decide +kernel) rfl
theorem nwX9_goesOn : Cond.instanceMethod yX9_goesOn ∈ XB := xb_m6 94 (by decide +kernel) rfl
theorem ewX9_goesOn : Cond.selects yX9_goesOn.cls yX9_goesOn yX9_goesOn ∈ XB := xb_m0 51 (by decide +kernel) rfl
theorem cwX9_meaning : Cond.code yX9_meaning cX9_meaning 7 (some .int) ∈ XB := xb_m6 109 (by decide +kernel) rfl
theorem nwX9_meaning : Cond.instanceMethod yX9_meaning ∈ XB := xb_m6 108 (by decide +kernel) rfl
theorem ewX9_meaning : Cond.selects yX9_meaning.cls yX9_meaning yX9_meaning ∈ XB := xb_m0 53 (by decide +kernel) rfl
theorem cwX9_shortestBy : Cond.code yX9_shortestBy cX9_shortestBy 6 (some .int) ∈ XB := xb_m6 87 (by decide +kernel) rfl
theorem nwX9_shortestBy : Cond.instanceMethod yX9_shortestBy ∈ XB := xb_m6 86 (by decide +kernel) rfl
theorem ewX9_shortestBy : Cond.selects yX9_shortestBy.cls yX9_shortestBy yX9_shortestBy ∈ XB := xb_m0 49 (by decide +kernel) rfl
theorem cwX9_shortest : Cond.code yX9_shortest cX9_shortest 6 (some .int) ∈ XB := xb_m6 83 (by decide +kernel) rfl
theorem nwX9_shortest : Cond.instanceMethod yX9_shortest ∈ XB := xb_m6 81 (by decide +kernel) rfl
theorem ewX9_shortest : Cond.selects yX9_shortest.cls yX9_shortest yX9_shortest ∈ XB := xb_m6 82 (by decide +kernel) rfl
theorem cwX9_means : Cond.code yX9_means cX9_means 7 (some .int) ∈ XB := xb_m6 121 (by decide +kernel) rfl
theorem nwX9_means : Cond.instanceMethod yX9_means ∈ XB := xb_m6 120 (by decide +kernel) rfl
theorem ewX9_means : Cond.selects yX9_means.cls yX9_means yX9_means ∈ XB := xb_m0 55 (by decide +kernel) rfl
theorem cwX9_isAny : Cond.code yX9_isAny cX9_isAny 3 (some .boolean) ∈ XB := xb_m6 117 (by decide +kernel) rfl
theorem nwX9_isAny : Cond.instanceMethod yX9_isAny ∈ XB := xb_m6 116 (by decide +kernel) rfl
theorem ewX9_isAny : Cond.selects yX9_isAny.cls yX9_isAny yX9_isAny ∈ XB := xb_m0 54 (by decide +kernel) rfl
theorem cwX9_said : Cond.code yX9_said cX9_said 3 (some .int) ∈ XB := xb_m6 113 (by decide +kernel) rfl
theorem nwX9_said : Cond.instanceMethod yX9_said ∈ XB := xb_m6 111 (by decide +kernel) rfl
theorem ewX9_said : Cond.selects yX9_said.cls yX9_said yX9_said ∈ XB := xb_m6 112 (by decide +kernel) rfl
theorem cwX9_metBy : Cond.code yX9_metBy cX9_metBy 4 (some .int) ∈ XB := xb_m6 129 (by decide +kernel) rfl
theorem nwX9_metBy : Cond.instanceMethod yX9_metBy ∈ XB := xb_m6 128 (by decide +kernel) rfl
theorem ewX9_metBy : Cond.selects yX9_metBy.cls yX9_metBy yX9_metBy ∈ XB := xb_m0 56 (by decide +kernel) rfl
theorem cwX9_met : Cond.code yX9_met cX9_met 1 (some .int) ∈ XB := xb_m6 125 (by decide +kernel) rfl
theorem nwX9_met : Cond.instanceMethod yX9_met ∈ XB := xb_m6 123 (by decide +kernel) rfl
theorem ewX9_met : Cond.selects yX9_met.cls yX9_met yX9_met ∈ XB := xb_m6 124 (by decide +kernel) rfl
theorem cwX9_lostBy : Cond.code yX9_lostBy cX9_lostBy 2 (some .int) ∈ XB := xb_m6 137 (by decide +kernel) rfl
theorem nwX9_lostBy : Cond.instanceMethod yX9_lostBy ∈ XB := xb_m6 136 (by decide +kernel) rfl
theorem ewX9_lostBy : Cond.selects yX9_lostBy.cls yX9_lostBy yX9_lostBy ∈ XB := xb_m0 57 (by decide +kernel) rfl
theorem cwX9_without : Cond.code yX9_without cX9_without 4 (some .int) ∈ XB := xb_m6 133 (by decide +kernel) rfl
theorem nwX9_without : Cond.instanceMethod yX9_without ∈ XB := xb_m6 131 (by decide +kernel) rfl
theorem ewX9_without : Cond.selects yX9_without.cls yX9_without yX9_without ∈ XB := xb_m6 132 (by decide +kernel) rfl
theorem cwX9_mightiest : Cond.code yX9_mightiest cX9_mightiest 5 (some .int) ∈ XB := xb_m6 141 (by decide +kernel) rfl
theorem nwX9_mightiest : Cond.instanceMethod yX9_mightiest ∈ XB := xb_m6 139 (by decide +kernel) rfl
theorem ewX9_mightiest : Cond.selects yX9_mightiest.cls yX9_mightiest yX9_mightiest ∈ XB := xb_m6 140 (by decide +kernel) rfl
theorem cwX9_choice : Cond.code yX9_choice cX9_choice 6 (some .int) ∈ XB := xb_m6 145 (by decide +kernel) rfl
theorem nwX9_choice : Cond.instanceMethod yX9_choice ∈ XB := xb_m6 143 (by decide +kernel) rfl
theorem ewX9_choice : Cond.selects yX9_choice.cls yX9_choice yX9_choice ∈ XB := xb_m6 144 (by decide +kernel) rfl
theorem cwX9_isUnmet : Cond.code yX9_isUnmet cX9_isUnmet 3 (some .boolean) ∈ XB := xb_m6 158 (by decide +kernel) rfl
theorem nwX9_isUnmet : Cond.instanceMethod yX9_isUnmet ∈ XB := xb_m6 157 (by decide +kernel) rfl
theorem ewX9_isUnmet : Cond.selects yX9_isUnmet.cls yX9_isUnmet yX9_isUnmet ∈ XB := xb_m0 59 (by decide +kernel) rfl
theorem cwX9_fewest : Cond.code yX9_fewest cX9_fewest 5 (some .int) ∈ XB := xb_m6 154 (by decide +kernel) rfl
theorem nwX9_fewest : Cond.instanceMethod yX9_fewest ∈ XB := xb_m6 153 (by decide +kernel) rfl
theorem ewX9_fewest : Cond.selects yX9_fewest.cls yX9_fewest yX9_fewest ∈ XB := xb_m0 58 (by decide +kernel) rfl
theorem cwX9_lost : Cond.code yX9_lost cX9_lost 4 (some .int) ∈ XB := xb_m6 150 (by decide +kernel) rfl
theorem nwX9_lost : Cond.instanceMethod yX9_lost ∈ XB := xb_m6 148 (by decide +kernel) rfl
theorem ewX9_lost : Cond.selects yX9_lost.cls yX9_lost yX9_lost ∈ XB := xb_m6 149 (by decide +kernel) rfl
theorem cwX9_isSet : Cond.code yX9_isSet cX9_isSet 2 (some .boolean) ∈ XB := xb_m6 166 (by decide +kernel) rfl
theorem nwX9_isSet : Cond.instanceMethod yX9_isSet ∈ XB := xb_m6 165 (by decide +kernel) rfl
theorem ewX9_isSet : Cond.selects yX9_isSet.cls yX9_isSet yX9_isSet ∈ XB := xb_m0 60 (by decide +kernel) rfl
theorem cwX9_ran : Cond.code yX9_ran cX9_ran 5 (some .int) ∈ XB := xb_m6 162 (by decide +kernel) rfl
theorem nwX9_ran : Cond.instanceMethod yX9_ran ∈ XB := xb_m6 160 (by decide +kernel) rfl
theorem ewX9_ran : Cond.selects yX9_ran.cls yX9_ran yX9_ran ∈ XB := xb_m6 161 (by decide +kernel) rfl
theorem cwX9_meant : Cond.code yX9_meant cX9_meant 4 (some .int) ∈ XB := xb_m6 170 (by decide +kernel) rfl
theorem nwX9_meant : Cond.instanceMethod yX9_meant ∈ XB := xb_m6 168 (by decide +kernel) rfl
theorem ewX9_meant : Cond.selects yX9_meant.cls yX9_meant yX9_meant ∈ XB := xb_m6 169 (by decide +kernel) rfl
theorem cwX9_rows : Cond.code yX9_rows cX9_rows 4 (some .int) ∈ XB := xb_m6 178 (by decide +kernel) rfl
theorem nwX9_rows : Cond.instanceMethod yX9_rows ∈ XB := xb_m6 177 (by decide +kernel) rfl
theorem ewX9_rows : Cond.selects yX9_rows.cls yX9_rows yX9_rows ∈ XB := xb_m0 61 (by decide +kernel) rfl
theorem cwX9_many : Cond.code yX9_many cX9_many 3 (some .int) ∈ XB := xb_m6 174 (by decide +kernel) rfl
theorem nwX9_many : Cond.instanceMethod yX9_many ∈ XB := xb_m6 172 (by decide +kernel) rfl
theorem ewX9_many : Cond.selects yX9_many.cls yX9_many yX9_many ∈ XB := xb_m6 173 (by decide +kernel) rfl
theorem cwX9_who : Cond.code yX9_who cX9_who 5 (some .int) ∈ XB := xb_m6 182 (by decide +kernel) rfl
theorem nwX9_who : Cond.instanceMethod yX9_who ∈ XB := xb_m6 180 (by decide +kernel) rfl
theorem ewX9_who : Cond.selects yX9_who.cls yX9_who yX9_who ∈ XB := xb_m6 181 (by decide +kernel) rfl
theorem cwX9_nearest : Cond.code yX9_nearest cX9_nearest 4 (some .int) ∈ XB := xb_m6 186 (by decide +kernel) rfl
theorem nwX9_nearest : Cond.instanceMethod yX9_nearest ∈ XB := xb_m6 184 (by decide +kernel) rfl
theorem ewX9_nearest : Cond.selects yX9_nearest.cls yX9_nearest yX9_nearest ∈ XB := xb_m6 185 (by decide +kernel) rfl
theorem cwX9_longest : Cond.code yX9_longest cX9_longest 3 (some .int) ∈ XB := xb_m6 191 (by decide +kernel) rfl
theorem nwX9_longest : Cond.instanceMethod yX9_longest ∈ XB := xb_m6 189 (by decide +kernel) rfl
theorem ewX9_longest : Cond.selects yX9_longest.cls yX9_longest yX9_longest ∈ XB := xb_m6 190 (by decide +kernel) rfl
theorem cwX9_noSaying : Cond.code yX9_noSaying cX9_noSaying 3 (some .int) ∈ XB := xb_m6 199 (by decide +kernel) rfl
theorem nwX9_noSaying : Cond.instanceMethod yX9_noSaying ∈ XB := xb_m6 198 (by decide +kernel) rfl
theorem ewX9_noSaying : Cond.selects yX9_noSaying.cls yX9_noSaying yX9_noSaying ∈ XB := xb_m0 62 (by decide +kernel) rfl
theorem cwX9_wrong : Cond.code yX9_wrong cX9_wrong 8 (some .int) ∈ XB := xb_m6 203 (by decide +kernel) rfl
theorem nwX9_wrong : Cond.instanceMethod yX9_wrong ∈ XB := xb_m6 202 (by decide +kernel) rfl
theorem ewX9_wrong : Cond.selects yX9_wrong.cls yX9_wrong yX9_wrong ∈ XB := xb_m0 63 (by decide +kernel) rfl
theorem cwX9_judge : Cond.code yX9_judge cX9_judge 4 (some .int) ∈ XB := xb_m6 195 (by decide +kernel) rfl
theorem nwX9_judge : Cond.instanceMethod yX9_judge ∈ XB := xb_m6 193 (by decide +kernel) rfl
theorem ewX9_judge : Cond.selects yX9_judge.cls yX9_judge yX9_judge ∈ XB := xb_m6 194 (by decide +kernel) rfl
theorem cwX9_means_ : Cond.code yX9_means_ cX9_means_ 4 (some .int) ∈ XB := xb_m6 207 (by decide +kernel) rfl
theorem nwX9_means_ : Cond.instanceMethod yX9_means_ ∈ XB := xb_m6 205 (by decide +kernel) rfl
theorem ewX9_means_ : Cond.selects yX9_means_.cls yX9_means_ yX9_means_ ∈ XB := xb_m6 206 (by decide +kernel) rfl
theorem cwX9_soonFrom : Cond.code yX9_soonFrom cX9_soonFrom 5 (some .int) ∈ XB := xb_m6 219 (by decide +kernel) rfl
theorem nwX9_soonFrom : Cond.instanceMethod yX9_soonFrom ∈ XB := xb_m6 218 (by decide +kernel) rfl
theorem ewX9_soonFrom : Cond.selects yX9_soonFrom.cls yX9_soonFrom yX9_soonFrom ∈ XB := xb_m0 65 (by decide +kernel) rfl
theorem cwX9_bestColumn : Cond.code yX9_bestColumn cX9_bestColumn 4 (some .int) ∈ XB := xb_m6 215 (by decide +kernel) rfl
theorem nwX9_bestColumn : Cond.instanceMethod yX9_bestColumn ∈ XB := xb_m6 214 (by decide +kernel) rfl
theorem ewX9_bestColumn : Cond.selects yX9_bestColumn.cls yX9_bestColumn yX9_bestColumn ∈ XB := xb_m0 64 (by decide +kernel) rfl
theorem cwX9_stands : Cond.code yX9_stands cX9_stands 7 (some .int) ∈ XB := xb_m6 211 (by decide +kernel) rfl
theorem nwX9_stands : Cond.instanceMethod yX9_stands ∈ XB := xb_m6 209 (by decide +kernel) rfl
theorem ewX9_stands : Cond.selects yX9_stands.cls yX9_stands yX9_stands ∈ XB := xb_m6 210 (by decide +kernel) rfl
theorem cwX9_done : Cond.code yX9_done cX9_done 6 (some .int) ∈ XB := xb_m6 224 (by decide +kernel) rfl
theorem nwX9_done : Cond.instanceMethod yX9_done ∈ XB := xb_m6 222 (by decide +kernel) rfl
theorem ewX9_done : Cond.selects yX9_done.cls yX9_done yX9_done ∈ XB := xb_m6 223 (by decide +kernel) rfl
theorem cwX9_peace : Cond.code yX9_peace cX9_peace 7 (some .int) ∈ XB := xb_m6 228 (by decide +kernel) rfl
theorem nwX9_peace : Cond.instanceMethod yX9_peace ∈ XB := xb_m6 226 (by decide +kernel) rfl
theorem ewX9_peace : Cond.selects yX9_peace.cls yX9_peace yX9_peace ∈ XB := xb_m6 227 (by decide +kernel) rfl
theorem cwX9_rank : Cond.code yX9_rank cX9_rank 3 (some .int) ∈ XB := xb_m6 236 (by decide +kernel) rfl
theorem nwX9_rank : Cond.instanceMethod yX9_rank ∈ XB := xb_m6 235 (by decide +kernel) rfl
theorem ewX9_rank : Cond.selects yX9_rank.cls yX9_rank yX9_rank ∈ XB := xb_m0 66 (by decide +kernel) rfl
theorem cwX9_first : Cond.code yX9_first cX9_first 4 (some .int) ∈ XB := xb_m6 232 (by decide +kernel) rfl
theorem nwX9_first : Cond.instanceMethod yX9_first ∈ XB := xb_m6 230 (by decide +kernel) rfl
theorem ewX9_first : Cond.selects yX9_first.cls yX9_first yX9_first ∈ XB := xb_m6 231 (by decide +kernel) rfl
theorem cwX9_manyOn : Cond.code yX9_manyOn cX9_manyOn 4 (some .int) ∈ XB := xb_m7 4 (by decide +kernel) rfl
theorem nwX9_manyOn : Cond.instanceMethod yX9_manyOn ∈ XB := xb_m7 3 (by decide +kernel) rfl
theorem ewX9_manyOn : Cond.selects yX9_manyOn.cls yX9_manyOn yX9_manyOn ∈ XB := xb_m0 67 (by decide +kernel) rfl
theorem cwX9_crowd : Cond.code yX9_crowd cX9_crowd 3 (some .int) ∈ XB := xb_m7 0 (by decide +kernel) rfl
theorem nwX9_crowd : Cond.instanceMethod yX9_crowd ∈ XB := xb_m6 238 (by decide +kernel) rfl
theorem ewX9_crowd : Cond.selects yX9_crowd.cls yX9_crowd yX9_crowd ∈ XB := xb_m6 239 (by decide +kernel) rfl
theorem cwX9_mostSteps : Cond.code yX9_mostSteps cX9_mostSteps 4 (some .int) ∈ XB := xb_m7 12 (by decide +kernel) rfl
theorem nwX9_mostSteps : Cond.instanceMethod yX9_mostSteps ∈ XB := xb_m7 11 (by decide +kernel) rfl
theorem ewX9_mostSteps : Cond.selects yX9_mostSteps.cls yX9_mostSteps yX9_mostSteps ∈ XB := xb_m0 68 (by decide +kernel) rfl
theorem cwX9_gather : Cond.code yX9_gather cX9_gather 3 (some .int) ∈ XB := xb_m7 8 (by decide +kernel) rfl
theorem nwX9_gather : Cond.instanceMethod yX9_gather ∈ XB := xb_m7 6 (by decide +kernel) rfl
theorem ewX9_gather : Cond.selects yX9_gather.cls yX9_gather yX9_gather ∈ XB := xb_m7 7 (by decide +kernel) rfl
theorem cwX9_alone : Cond.code yX9_alone cX9_alone 3 (some .int) ∈ XB := xb_m7 16 (by decide +kernel) rfl
theorem nwX9_alone : Cond.instanceMethod yX9_alone ∈ XB := xb_m7 14 (by decide +kernel) rfl
theorem ewX9_alone : Cond.selects yX9_alone.cls yX9_alone yX9_alone ∈ XB := xb_m7 15 (by decide +kernel) rfl
theorem cwX9_lasting : Cond.code yX9_lasting cX9_lasting 3 (some .int) ∈ XB := xb_m7 20 (by decide +kernel) rfl
theorem nwX9_lasting : Cond.instanceMethod yX9_lasting ∈ XB := xb_m7 18 (by decide +kernel) rfl
theorem ewX9_lasting : Cond.selects yX9_lasting.cls yX9_lasting yX9_lasting ∈ XB := xb_m7 19 (by decide +kernel) rfl
theorem cwX9_draw : Cond.code yX9_draw cX9_draw 2 (some .int) ∈ XB := xb_m7 30 (by decide +kernel) rfl
theorem nwX9_draw : Cond.instanceMethod yX9_draw ∈ XB := xb_m7 29 (by decide +kernel) rfl
theorem ewX9_draw : Cond.selects yX9_draw.cls yX9_draw yX9_draw ∈ XB := xb_m0 69 (by decide +kernel) rfl
theorem cwX9_years : Cond.code yX9_years cX9_years 5 (some .int) ∈ XB := xb_m7 26 (by decide +kernel) rfl
theorem nwX9_years : Cond.instanceMethod yX9_years ∈ XB := xb_m7 24 (by decide +kernel) rfl
theorem ewX9_years : Cond.selects yX9_years.cls yX9_years yX9_years ∈ XB := xb_m7 25 (by decide +kernel) rfl
theorem cwX9_seed : Cond.code yX9_seed cX9_seed 3 (some .int) ∈ XB := xb_m7 35 (by decide +kernel) rfl
theorem nwX9_seed : Cond.instanceMethod yX9_seed ∈ XB := xb_m7 33 (by decide +kernel) rfl
theorem ewX9_seed : Cond.selects yX9_seed.cls yX9_seed yX9_seed ∈ XB := xb_m7 34 (by decide +kernel) rfl
theorem cwX9_image : Cond.code yX9_image cX9_image 1 (some .int) ∈ XB := xb_m7 39 (by decide +kernel) rfl
theorem nwX9_image : Cond.instanceMethod yX9_image ∈ XB := xb_m7 37 (by decide +kernel) rfl
theorem ewX9_image : Cond.selects yX9_image.cls yX9_image yX9_image ∈ XB := xb_m7 38 (by decide +kernel) rfl
theorem cwX9_back : Cond.code yX9_back cX9_back 2 (some .int) ∈ XB := xb_m7 43 (by decide +kernel) rfl
theorem nwX9_back : Cond.instanceMethod yX9_back ∈ XB := xb_m7 41 (by decide +kernel) rfl
theorem ewX9_back : Cond.selects yX9_back.cls yX9_back yX9_back ∈ XB := xb_m7 42 (by decide +kernel) rfl
theorem cwX9_pairs : Cond.code yX9_pairs cX9_pairs 3 (some .int) ∈ XB := xb_m7 51 (by decide +kernel) rfl
theorem nwX9_pairs : Cond.instanceMethod yX9_pairs ∈ XB := xb_m7 50 (by decide +kernel) rfl
theorem ewX9_pairs : Cond.selects yX9_pairs.cls yX9_pairs yX9_pairs ∈ XB := xb_m0 70 (by decide +kernel) rfl
theorem cwX9_ages : Cond.code yX9_ages cX9_ages 3 (some .int) ∈ XB := xb_m7 55 (by decide +kernel) rfl
theorem nwX9_ages : Cond.instanceMethod yX9_ages ∈ XB := xb_m7 54 (by decide +kernel) rfl
theorem ewX9_ages : Cond.selects yX9_ages.cls yX9_ages yX9_ages ∈ XB := xb_m0 71 (by decide +kernel) rfl
theorem cwX9_status : Cond.code yX9_status cX9_status 4 (some .int) ∈ XB := xb_m7 47 (by decide +kernel) rfl
theorem nwX9_status : Cond.instanceMethod yX9_status ∈ XB := xb_m7 45 (by decide +kernel) rfl
theorem ewX9_status : Cond.selects yX9_status.cls yX9_status yX9_status ∈ XB := xb_m7 46 (by decide +kernel) rfl
theorem iwJ9 : Cond.initialized "java/lang/Math" ∈ XB := xb_m1 4 (by decide +kernel) rfl
theorem cwJ9_abs_0f7a4 : Cond.code Lib.Math.abs.name Lib.Math.abs.code 1 (some .int) ∈ XB := xb_m4 17 (by decide +kernel) rfl
theorem swJ9_abs_0f7a4 : Cond.static Lib.Math.abs.name ∈ XB := xb_m4 16 (by decide +kernel) rfl
theorem cwJ9_max_7cf53 : Cond.code Lib.Math.max.name Lib.Math.max.code 2 (some .int) ∈ XB := xb_m3 221 (by decide +kernel) rfl
theorem swJ9_max_7cf53 : Cond.static Lib.Math.max.name ∈ XB := xb_m3 220 (by decide +kernel) rfl
theorem cwJ9_min_7cf53 : Cond.code Lib.Math.min.name Lib.Math.min.code 2 (some .int) ∈ XB := xb_m1 100 (by decide +kernel) rfl
theorem swJ9_min_7cf53 : Cond.static Lib.Math.min.name ∈ XB := xb_m1 99 (by decide +kernel) rfl
theorem lkX0_11 : Cond.methodLink RX0 11 yX0_isKind ∈ XB := xb_m3 141 (by decide +kernel) rfl
theorem lkX0_22 : Cond.methodLink RX0 22 yX0_wants ∈ XB := xb_m3 164 (by decide +kernel) rfl
theorem lkX4_43 : Cond.methodLink RX4 43 yX4_at ∈ XB := xb_m3 126 (by decide +kernel) rfl
theorem lkX4_118 : Cond.methodLink RX4 118 yX4_upTo ∈ XB := xb_m3 175 (by decide +kernel) rfl
theorem lkX4_120 : Cond.methodLink RX4 120 yX4_meaningOf ∈ XB := xb_m3 179 (by decide +kernel) rfl
theorem lkX4_87 : Cond.methodLink RX4 87 yX4_membersOf ∈ XB := xb_m3 130 (by decide +kernel) rfl
theorem lkX1_36 : Cond.methodLink RX1 36 yX4_canMeanWithout ∈ XB := xb_m4 86 (by decide +kernel) rfl
theorem lkX1_40 : Cond.methodLink RX1 40 yX1_metWithout ∈ XB := xb_m4 98 (by decide +kernel) rfl
theorem lkX1_47 : Cond.methodLink RX1 47 yX3_isLiving ∈ XB := xb_m4 107 (by decide +kernel) rfl
theorem lkX1_51 : Cond.methodLink RX1 51 yX1_missed ∈ XB := xb_m4 108 (by decide +kernel) rfl
theorem lkX1_54 : Cond.methodLink RX1 54 yJ6_bitCount_0f7a4 ∈ XB := xb_m4 109 (by decide +kernel) rfl
theorem lkX3_46 : Cond.methodLink RX3 46 arraycopyName ∈ XB := xb_m2 206 (by decide +kernel) rfl
theorem lkX3_58 : Cond.methodLink RX3 58 yX3_hasRoom ∈ XB := xb_m2 120 (by decide +kernel) rfl
theorem lkX4_70 : Cond.methodLink RX4 70 yX3_isLiving ∈ XB := xb_m3 113 (by decide +kernel) rfl
theorem lkX4_52 : Cond.methodLink RX4 52 yX4_wordOf ∈ XB := xb_m3 110 (by decide +kernel) rfl
theorem lkX4_80 : Cond.methodLink RX4 80 yX4_lengthOf ∈ XB := xb_m3 122 (by decide +kernel) rfl
theorem lkX4_90 : Cond.methodLink RX4 90 yX4_placeOf ∈ XB := xb_m3 134 (by decide +kernel) rfl
theorem lkX4_93 : Cond.methodLink RX4 93 yX0_next ∈ XB := xb_m3 138 (by decide +kernel) rfl
theorem lkX4_96 : Cond.methodLink RX4 96 yX0_wants ∈ XB := xb_m3 144 (by decide +kernel) rfl
theorem lkX4_99 : Cond.methodLink RX4 99 yX4_rowOf ∈ XB := xb_m3 149 (by decide +kernel) rfl
theorem lkX4_102 : Cond.methodLink RX4 102 yX2_with ∈ XB := xb_m3 154 (by decide +kernel) rfl
theorem lkX4_58 : Cond.methodLink RX4 58 yX4_add ∈ XB := xb_m3 114 (by decide +kernel) rfl
theorem lkX2_9 : Cond.methodLink RX2 9 yX2_at ∈ XB := xb_m3 168 (by decide +kernel) rfl
theorem lkX4_108 : Cond.methodLink RX4 108 yX0_mayEnd ∈ XB := xb_m3 161 (by decide +kernel) rfl
theorem lkX4_111 : Cond.methodLink RX4 111 yX2_meaning ∈ XB := xb_m3 165 (by decide +kernel) rfl
theorem lkX4_24 : Cond.methodLink RX4 24 Lib.Math.min.name ∈ XB := xb_m1 98 (by decide +kernel) rfl
theorem lkX4_48 : Cond.methodLink RX4 48 yX4_isMadeOf ∈ XB := xb_m3 106 (by decide +kernel) rfl
theorem lkX4_62 : Cond.methodLink RX4 62 yX4_goOn ∈ XB := xb_m3 118 (by decide +kernel) rfl
theorem lkX4_66 : Cond.methodLink RX4 66 yX4_keepWhole ∈ XB := xb_m3 157 (by decide +kernel) rfl
theorem lkX1_83 : Cond.methodLink RX1 83 yX3_has ∈ XB := xb_m4 124 (by decide +kernel) rfl
theorem lkX1_86 : Cond.methodLink RX1 86 yX4_update ∈ XB := xb_m4 125 (by decide +kernel) rfl
theorem lkX1_92 : Cond.methodLink RX1 92 yX4_upTo ∈ XB := xb_m4 126 (by decide +kernel) rfl
theorem lkX1_95 : Cond.methodLink RX1 95 yX4_membersOf ∈ XB := xb_m4 127 (by decide +kernel) rfl
theorem lkX1_98 : Cond.methodLink RX1 98 yX4_meaningOf ∈ XB := xb_m4 128 (by decide +kernel) rfl
theorem lkX1_101 : Cond.methodLink RX1 101 yX4_rowOf ∈ XB := xb_m4 129 (by decide +kernel) rfl
theorem lkX1_104 : Cond.methodLink RX1 104 yX4_lengthOf ∈ XB := xb_m4 130 (by decide +kernel) rfl
theorem lkX1_107 : Cond.methodLink RX1 107 yX2_meaning ∈ XB := xb_m4 131 (by decide +kernel) rfl
theorem lkX1_113 : Cond.methodLink RX1 113 yX3_needsOf ∈ XB := xb_m4 132 (by decide +kernel) rfl
theorem lkX1_71 : Cond.methodLink RX1 71 yX3_takeFrom ∈ XB := xb_m4 118 (by decide +kernel) rfl
theorem lkX1_75 : Cond.methodLink RX1 75 yX3_addBrother ∈ XB := xb_m4 119 (by decide +kernel) rfl
theorem lkX1_79 : Cond.methodLink RX1 79 yX1_guessMet ∈ XB := xb_m4 120 (by decide +kernel) rfl
theorem lkX3_62 : Cond.methodLink RX3 62 yX3_has ∈ XB := xb_m2 129 (by decide +kernel) rfl
theorem lkX2_24 : Cond.methodLink RX2 24 yX3_feuding ∈ XB := xb_m3 190 (by decide +kernel) rfl
theorem lkX2_28 : Cond.methodLink RX2 28 Lib.Math.min.name ∈ XB := xb_m4 234 (by decide +kernel) rfl
theorem lkX2_34 : Cond.methodLink RX2 34 Lib.Math.max.name ∈ XB := xb_m4 214 (by decide +kernel) rfl
theorem lkX1_116 : Cond.methodLink RX1 116 yX2_onlyFeud ∈ XB := xb_m4 231 (by decide +kernel) rfl
theorem lkX1_119 : Cond.methodLink RX1 119 yX3_feuding ∈ XB := xb_m4 235 (by decide +kernel) rfl
theorem lkX3_34 : Cond.methodLink RX3 34 Lib.Math.abs.name ∈ XB := xb_m4 50 (by decide +kernel) rfl
theorem lkX2_40 : Cond.methodLink RX2 40 yX3_steps ∈ XB := xb_m4 213 (by decide +kernel) rfl
theorem lkX2_43 : Cond.methodLink RX2 43 yX2_soon ∈ XB := xb_m4 210 (by decide +kernel) rfl
theorem lkX3_66 : Cond.methodLink RX3 66 yX3_hasNeedRoom ∈ XB := xb_m2 146 (by decide +kernel) rfl
theorem lkX3_69 : Cond.methodLink RX3 69 yX3_isLiving ∈ XB := xb_m2 98 (by decide +kernel) rfl
theorem lkX3_72 : Cond.methodLink RX3 72 yJ6_bitCount_0f7a4 ∈ XB := xb_m4 26 (by decide +kernel) rfl
theorem lkX3_80 : Cond.methodLink RX3 80 yX3_steps ∈ XB := xb_m4 47 (by decide +kernel) rfl
theorem lkX3_84 : Cond.methodLink RX3 84 Lib.Math.max.name ∈ XB := xb_m4 51 (by decide +kernel) rfl
theorem lkX3_77 : Cond.methodLink RX3 77 yX3_farthest ∈ XB := xb_m4 43 (by decide +kernel) rfl
theorem lkX3_98 : Cond.methodLink RX3 98 Lib.Math.min.name ∈ XB := xb_m4 69 (by decide +kernel) rfl
theorem lkX3_88 : Cond.methodLink RX3 88 yX3_olderBy1 ∈ XB := xb_m4 65 (by decide +kernel) rfl
theorem lkX3_91 : Cond.methodLink RX3 91 yX3_draw ∈ XB := xb_m5 4 (by decide +kernel) rfl
theorem lkX3_94 : Cond.methodLink RX3 94 yX3_bury ∈ XB := xb_m5 9 (by decide +kernel) rfl
theorem lkX4_115 : Cond.methodLink RX4 115 yX2_feuds ∈ XB := xb_m3 187 (by decide +kernel) rfl
theorem lkX4_123 : Cond.methodLink RX4 123 yX4_isCalm ∈ XB := xb_m3 183 (by decide +kernel) rfl
theorem lkX4_127 : Cond.methodLink RX4 127 Lib.Math.max.name ∈ XB := xb_m3 219 (by decide +kernel) rfl
theorem lkX4_130 : Cond.methodLink RX4 130 Lib.Math.abs.name ∈ XB := xb_m4 15 (by decide +kernel) rfl
theorem lkX4_133 : Cond.methodLink RX4 133 yX2_at ∈ XB := xb_m3 238 (by decide +kernel) rfl
theorem lkX4_136 : Cond.methodLink RX4 136 yX4_forgetMarks ∈ XB := xb_m3 202 (by decide +kernel) rfl
theorem lkX4_139 : Cond.methodLink RX4 139 yX4_isNew ∈ XB := xb_m3 206 (by decide +kernel) rfl
theorem lkX5_19 : Cond.methodLink RX5 19 yX5_isSort ∈ XB := xb_m2 39 (by decide +kernel) rfl
theorem lkX5_26 : Cond.methodLink RX5 26 Lib.Math.min.name ∈ XB := xb_m2 22 (by decide +kernel) rfl
theorem lkX5_32 : Cond.methodLink RX5 32 yX5_spans ∈ XB := xb_m2 48 (by decide +kernel) rfl
theorem lkX5_36 : Cond.methodLink RX5 36 yX5_narrow ∈ XB := xb_m2 49 (by decide +kernel) rfl
theorem lkX6_22 : Cond.methodLink RX6 22 yX6_hasRoom ∈ XB := xb_m2 189 (by decide +kernel) rfl
theorem lkX6_136 : Cond.methodLink RX6 136 yX6_tokenOf ∈ XB := xb_m2 219 (by decide +kernel) rfl
theorem lkJ0_335 : Cond.methodLink RJ0 335 yJ0_coder_7d493 ∈ XB := xb_m2 231 (by decide +kernel) rfl
theorem lkJ0_1059 : Cond.methodLink RJ0 1059 yJ3_checkIndex_8e157 ∈ XB := xb_m3 13 (by decide +kernel) rfl
theorem lkJ1_9 : Cond.methodLink RJ1 9 yJ0_checkIndex_df160 ∈ XB := xb_m3 8 (by decide +kernel) rfl
theorem lkJ0_492 : Cond.methodLink RJ0 492 yJ0_isLatin1_aae02 ∈ XB := xb_m3 1 (by decide +kernel) rfl
theorem lkJ0_495 : Cond.methodLink RJ0 495 yJ1_charAt_3b067 ∈ XB := xb_m3 5 (by decide +kernel) rfl
theorem lkX6_127 : Cond.methodLink RX6 127 yJ0_length_8abf5 ∈ XB := xb_m2 227 (by decide +kernel) rfl
theorem lkX6_132 : Cond.methodLink RX6 132 yJ0_charAt_5068e ∈ XB := xb_m2 237 (by decide +kernel) rfl
theorem lkX6_33 : Cond.methodLink RX6 33 yX6_step ∈ XB := xb_m2 215 (by decide +kernel) rfl
theorem lkX6_77 : Cond.methodLink RX6 77 yX3_hasRoom ∈ XB := xb_m3 39 (by decide +kernel) rfl
theorem lkX6_80 : Cond.methodLink RX6 80 yX6_stepToNumber ∈ XB := xb_m3 40 (by decide +kernel) rfl
theorem lkX6_84 : Cond.methodLink RX6 84 yX0_isKind ∈ XB := xb_m3 44 (by decide +kernel) rfl
theorem lkX6_90 : Cond.methodLink RX6 90 yX3_isAmount ∈ XB := xb_m3 45 (by decide +kernel) rfl
theorem lkX6_93 : Cond.methodLink RX6 93 yX3_isCell ∈ XB := xb_m3 46 (by decide +kernel) rfl
theorem lkX6_96 : Cond.methodLink RX6 96 yX3_addBrother ∈ XB := xb_m3 47 (by decide +kernel) rfl
theorem lkX6_100 : Cond.methodLink RX6 100 yX3_has ∈ XB := xb_m3 53 (by decide +kernel) rfl
theorem lkX6_103 : Cond.methodLink RX6 103 yX3_setFeud ∈ XB := xb_m3 54 (by decide +kernel) rfl
theorem lkX6_107 : Cond.methodLink RX6 107 yX3_hasNeedRoom ∈ XB := xb_m3 61 (by decide +kernel) rfl
theorem lkX6_110 : Cond.methodLink RX6 110 yX3_addNeed ∈ XB := xb_m3 62 (by decide +kernel) rfl
theorem lkX6_114 : Cond.methodLink RX6 114 yX3_isAge ∈ XB := xb_m3 69 (by decide +kernel) rfl
theorem lkX6_120 : Cond.methodLink RX6 120 yX3_isLiving ∈ XB := xb_m3 75 (by decide +kernel) rfl
theorem lkX6_123 : Cond.methodLink RX6 123 yX3_bury ∈ XB := xb_m3 76 (by decide +kernel) rfl
theorem lkX6_44 : Cond.methodLink RX6 44 yX6_isWord ∈ XB := xb_m2 223 (by decide +kernel) rfl
theorem lkX6_48 : Cond.methodLink RX6 48 yX6_readBrother ∈ XB := xb_m3 35 (by decide +kernel) rfl
theorem lkX6_53 : Cond.methodLink RX6 53 yX6_readFeud ∈ XB := xb_m3 49 (by decide +kernel) rfl
theorem lkX6_61 : Cond.methodLink RX6 61 yX6_readNeed ∈ XB := xb_m3 57 (by decide +kernel) rfl
theorem lkX6_69 : Cond.methodLink RX6 69 yX6_readAge ∈ XB := xb_m3 65 (by decide +kernel) rfl
theorem lkX6_74 : Cond.methodLink RX6 74 yX6_readDeath ∈ XB := xb_m3 71 (by decide +kernel) rfl
theorem lkX6_29 : Cond.methodLink RX6 29 yX6_readStatement ∈ XB := xb_m2 211 (by decide +kernel) rfl
theorem lkX7_17 : Cond.methodLink RX7 17 yX5_spans ∈ XB := xb_m4 187 (by decide +kernel) rfl
theorem lkX7_35 : Cond.methodLink RX7 35 yX3_isLiving ∈ XB := xb_m4 189 (by decide +kernel) rfl
theorem lkX7_46 : Cond.methodLink RX7 46 yX0_next ∈ XB := xb_m4 190 (by decide +kernel) rfl
theorem lkX7_50 : Cond.methodLink RX7 50 yX2_with ∈ XB := xb_m4 191 (by decide +kernel) rfl
theorem lkX7_56 : Cond.methodLink RX7 56 yX0_mayEnd ∈ XB := xb_m4 192 (by decide +kernel) rfl
theorem lkX8_63 : Cond.methodLink RX8 63 yX8_isShelf ∈ XB := xb_m2 8 (by decide +kernel) rfl
theorem lkX8_67 : Cond.methodLink RX8 67 yX5_isSort ∈ XB := xb_m2 11 (by decide +kernel) rfl
theorem lkX8_70 : Cond.methodLink RX8 70 yX8_refuse ∈ XB := xb_m2 14 (by decide +kernel) rfl
theorem lkX8_74 : Cond.methodLink RX8 74 yX5_holdRow ∈ XB := xb_m2 18 (by decide +kernel) rfl
theorem lkX8_118 : Cond.methodLink RX8 118 yX5_isEmpty ∈ XB := xb_m2 31 (by decide +kernel) rfl
theorem lkX8_395 : Cond.methodLink RX8 395 yX5_isRow ∈ XB := xb_m2 35 (by decide +kernel) rfl
theorem lkX8_78 : Cond.methodLink RX8 78 yX8_rowTrouble ∈ XB := xb_m2 27 (by decide +kernel) rfl
theorem lkX8_81 : Cond.methodLink RX8 81 yX5_spans ∈ XB := xb_m2 40 (by decide +kernel) rfl
theorem lkX8_85 : Cond.methodLink RX8 85 yX5_put ∈ XB := xb_m2 44 (by decide +kernel) rfl
theorem lkX8_89 : Cond.methodLink RX8 89 yX8_copyTrouble ∈ XB := xb_m2 57 (by decide +kernel) rfl
theorem lkX8_97 : Cond.methodLink RX8 97 arraycopyName ∈ XB := xb_m2 61 (by decide +kernel) rfl
theorem lkX8_107 : Cond.methodLink RX8 107 yX3_has ∈ XB := xb_m2 76 (by decide +kernel) rfl
theorem lkX8_110 : Cond.methodLink RX8 110 yX5_hold ∈ XB := xb_m2 80 (by decide +kernel) rfl
theorem lkX8_113 : Cond.methodLink RX8 113 yX0_isKind ∈ XB := xb_m2 88 (by decide +kernel) rfl
theorem lkX8_125 : Cond.methodLink RX8 125 yX0_isUnder ∈ XB := xb_m2 91 (by decide +kernel) rfl
theorem lkX8_131 : Cond.methodLink RX8 131 yX3_livingOfKind ∈ XB := xb_m2 94 (by decide +kernel) rfl
theorem lkX8_134 : Cond.methodLink RX8 134 yX3_isAmount ∈ XB := xb_m2 106 (by decide +kernel) rfl
theorem lkX8_137 : Cond.methodLink RX8 137 yX3_isCell ∈ XB := xb_m2 109 (by decide +kernel) rfl
theorem lkX8_140 : Cond.methodLink RX8 140 yX3_hasRoom ∈ XB := xb_m2 112 (by decide +kernel) rfl
theorem lkX8_143 : Cond.methodLink RX8 143 yX3_addBrother ∈ XB := xb_m2 116 (by decide +kernel) rfl
theorem lkX8_147 : Cond.methodLink RX8 147 yX3_feuding ∈ XB := xb_m2 125 (by decide +kernel) rfl
theorem lkX8_150 : Cond.methodLink RX8 150 yX3_setFeud ∈ XB := xb_m2 130 (by decide +kernel) rfl
theorem lkX8_154 : Cond.methodLink RX8 154 yX3_hasNeedRoom ∈ XB := xb_m2 138 (by decide +kernel) rfl
theorem lkX8_157 : Cond.methodLink RX8 157 yX3_addNeed ∈ XB := xb_m2 142 (by decide +kernel) rfl
theorem lkX8_160 : Cond.methodLink RX8 160 yX3_isAge ∈ XB := xb_m2 151 (by decide +kernel) rfl
theorem lkX8_205 : Cond.methodLink RX8 205 yX3_isLiving ∈ XB := xb_m2 166 (by decide +kernel) rfl
theorem lkX8_169 : Cond.methodLink RX8 169 yX8_livingTrouble ∈ XB := xb_m2 162 (by decide +kernel) rfl
theorem lkX8_172 : Cond.methodLink RX8 172 yX3_bury ∈ XB := xb_m2 167 (by decide +kernel) rfl
theorem lkX8_178 : Cond.methodLink RX8 178 yJ6_bitCount_0f7a4 ∈ XB := xb_m2 171 (by decide +kernel) rfl
theorem lkX8_183 : Cond.methodLink RX8 183 yX6_hasRoom ∈ XB := xb_m2 181 (by decide +kernel) rfl
theorem lkX8_184 : Cond.methodLink RX8 184 yX6_add ∈ XB := xb_m2 185 (by decide +kernel) rfl
theorem lkX8_187 : Cond.methodLink RX8 187 yX6_clear ∈ XB := xb_m2 194 (by decide +kernel) rfl
theorem lkX8_191 : Cond.methodLink RX8 191 yX3_takeFrom ∈ XB := xb_m2 202 (by decide +kernel) rfl
theorem lkX8_195 : Cond.methodLink RX8 195 yX6_read ∈ XB := xb_m2 207 (by decide +kernel) rfl
theorem lkX8_208 : Cond.methodLink RX8 208 yX3_hasNeed ∈ XB := xb_m3 86 (by decide +kernel) rfl
theorem lkX8_392 : Cond.methodLink RX8 392 yX4_update ∈ XB := xb_m3 102 (by decide +kernel) rfl
theorem lkX8_215 : Cond.methodLink RX8 215 yX8_isTold ∈ XB := xb_m3 95 (by decide +kernel) rfl
theorem lkX8_218 : Cond.methodLink RX8 218 yX8_sayingsNow ∈ XB := xb_m3 98 (by decide +kernel) rfl
theorem lkX8_222 : Cond.methodLink RX8 222 yX4_find ∈ XB := xb_m3 171 (by decide +kernel) rfl
theorem lkX8_226 : Cond.methodLink RX8 226 yX4_lengthOf ∈ XB := xb_m3 191 (by decide +kernel) rfl
theorem lkX8_229 : Cond.methodLink RX8 229 yX4_rowOf ∈ XB := xb_m3 192 (by decide +kernel) rfl
theorem lkX8_232 : Cond.methodLink RX8 232 yX2_at ∈ XB := xb_m3 193 (by decide +kernel) rfl
theorem lkX8_238 : Cond.methodLink RX8 238 yX4_unlike ∈ XB := xb_m3 198 (by decide +kernel) rfl
theorem lkX8_241 : Cond.methodLink RX8 241 yX4_upTo ∈ XB := xb_m3 210 (by decide +kernel) rfl
theorem lkX8_244 : Cond.methodLink RX8 244 yX4_least ∈ XB := xb_m3 211 (by decide +kernel) rfl
theorem lkX8_247 : Cond.methodLink RX8 247 yX4_greatest ∈ XB := xb_m3 215 (by decide +kernel) rfl
theorem lkX8_250 : Cond.methodLink RX8 250 yX4_calm ∈ XB := xb_m3 226 (by decide +kernel) rfl
theorem lkX8_254 : Cond.methodLink RX8 254 yX4_beginners ∈ XB := xb_m3 234 (by decide +kernel) rfl
theorem lkX8_257 : Cond.methodLink RX8 257 yX4_enders ∈ XB := xb_m3 239 (by decide +kernel) rfl
theorem lkX8_260 : Cond.methodLink RX8 260 yX4_standing ∈ XB := xb_m4 3 (by decide +kernel) rfl
theorem lkX8_263 : Cond.methodLink RX8 263 yX4_closest ∈ XB := xb_m4 11 (by decide +kernel) rfl
theorem lkX8_266 : Cond.methodLink RX8 266 yX3_foremost ∈ XB := xb_m4 22 (by decide +kernel) rfl
theorem lkX8_269 : Cond.methodLink RX8 269 yX3_fullestCell ∈ XB := xb_m4 31 (by decide +kernel) rfl
theorem lkX8_272 : Cond.methodLink RX8 272 yX3_middleCell ∈ XB := xb_m4 39 (by decide +kernel) rfl
theorem lkX8_278 : Cond.methodLink RX8 278 yX3_chanceOfYear ∈ XB := xb_m4 60 (by decide +kernel) rfl
theorem lkX8_281 : Cond.methodLink RX8 281 yX4_most ∈ XB := xb_m4 74 (by decide +kernel) rfl
theorem lkX8_285 : Cond.methodLink RX8 285 yX1_metWithout ∈ XB := xb_m4 82 (by decide +kernel) rfl
theorem lkX8_289 : Cond.methodLink RX8 289 yX1_missed ∈ XB := xb_m4 94 (by decide +kernel) rfl
theorem lkX8_292 : Cond.methodLink RX8 292 yX1_mostMissed ∈ XB := xb_m4 103 (by decide +kernel) rfl
theorem lkX8_296 : Cond.methodLink RX8 296 yX1_choose ∈ XB := xb_m4 114 (by decide +kernel) rfl
theorem lkX8_306 : Cond.methodLink RX8 306 yX1_fewestToMiss ∈ XB := xb_m4 140 (by decide +kernel) rfl
theorem lkX8_309 : Cond.methodLink RX8 309 yX8_memberOf ∈ XB := xb_m4 144 (by decide +kernel) rfl
theorem lkX8_312 : Cond.methodLink RX8 312 yX8_canRun ∈ XB := xb_m4 151 (by decide +kernel) rfl
theorem lkX8_315 : Cond.methodLink RX8 315 yX4_countOf ∈ XB := xb_m4 155 (by decide +kernel) rfl
theorem lkX8_318 : Cond.methodLink RX8 318 yX4_unlikeOf ∈ XB := xb_m4 159 (by decide +kernel) rfl
theorem lkX8_321 : Cond.methodLink RX8 321 yX4_firstOf ∈ XB := xb_m4 163 (by decide +kernel) rfl
theorem lkX8_324 : Cond.methodLink RX8 324 yX4_mayMean ∈ XB := xb_m4 171 (by decide +kernel) rfl
theorem lkX8_327 : Cond.methodLink RX8 327 yX8_toldTrouble ∈ XB := xb_m4 179 (by decide +kernel) rfl
theorem lkX8_330 : Cond.methodLink RX8 330 yX7_hear ∈ XB := xb_m4 183 (by decide +kernel) rfl
theorem lkX8_337 : Cond.methodLink RX8 337 yX8_wrongTrouble ∈ XB := xb_m4 197 (by decide +kernel) rfl
theorem lkX8_344 : Cond.methodLink RX8 344 yX2_meaning ∈ XB := xb_m4 201 (by decide +kernel) rfl
theorem lkX8_348 : Cond.methodLink RX8 348 yX2_feuds ∈ XB := xb_m4 206 (by decide +kernel) rfl
theorem lkX8_350 : Cond.methodLink RX8 350 yX2_bestColumn ∈ XB := xb_m4 207 (by decide +kernel) rfl
theorem lkX8_353 : Cond.methodLink RX8 353 yX2_soon ∈ XB := xb_m4 215 (by decide +kernel) rfl
theorem lkX8_357 : Cond.methodLink RX8 357 yX2_stand ∈ XB := xb_m4 220 (by decide +kernel) rfl
theorem lkX8_364 : Cond.methodLink RX8 364 yX1_bestPeace ∈ XB := xb_m4 227 (by decide +kernel) rfl
theorem lkX8_367 : Cond.methodLink RX8 367 yX3_passYear ∈ XB := xb_m5 0 (by decide +kernel) rfl
theorem lkX8_380 : Cond.methodLink RX8 380 yX3_pairsFeuding ∈ XB := xb_m5 26 (by decide +kernel) rfl
theorem lkX8_383 : Cond.methodLink RX8 383 yX3_agesTogether ∈ XB := xb_m5 30 (by decide +kernel) rfl
theorem lkX8_389 : Cond.methodLink RX8 389 yX8_shelvesHolding ∈ XB := xb_m5 34 (by decide +kernel) rfl
theorem lkX9_68 : Cond.methodLink RX9 68 yX9_no ∈ XB := xb_m5 155 (by decide +kernel) rfl
theorem lkX9_75 : Cond.methodLink RX9 75 yX9_within ∈ XB := xb_m5 152 (by decide +kernel) rfl
theorem lkX9_82 : Cond.methodLink RX9 82 yX9_isShelf ∈ XB := xb_m5 149 (by decide +kernel) rfl
theorem lkX9_86 : Cond.methodLink RX9 86 yX9_isRow ∈ XB := xb_m5 163 (by decide +kernel) rfl
theorem lkX9_89 : Cond.methodLink RX9 89 yX9_noRow ∈ XB := xb_m5 167 (by decide +kernel) rfl
theorem lkX9_92 : Cond.methodLink RX9 92 yX9_kept ∈ XB := xb_m5 171 (by decide +kernel) rfl
theorem lkX9_96 : Cond.methodLink RX9 96 yX9_isBrother ∈ XB := xb_m5 190 (by decide +kernel) rfl
theorem lkX9_99 : Cond.methodLink RX9 99 yX9_isUnder ∈ XB := xb_m5 198 (by decide +kernel) rfl
theorem lkX9_103 : Cond.methodLink RX9 103 yX9_isCell ∈ XB := xb_m5 205 (by decide +kernel) rfl
theorem lkX9_106 : Cond.methodLink RX9 106 yX9_newBrother ∈ XB := xb_m5 208 (by decide +kernel) rfl
theorem lkX9_110 : Cond.methodLink RX9 110 yX9_has ∈ XB := xb_m5 220 (by decide +kernel) rfl
theorem lkX9_113 : Cond.methodLink RX9 113 yX9_feudBe ∈ XB := xb_m5 216 (by decide +kernel) rfl
theorem lkX9_117 : Cond.methodLink RX9 117 yX9_newNeed ∈ XB := xb_m5 227 (by decide +kernel) rfl
theorem lkX9_120 : Cond.methodLink RX9 120 yX9_living ∈ XB := xb_m6 3 (by decide +kernel) rfl
theorem lkX9_124 : Cond.methodLink RX9 124 yJ6_bitCount_0f7a4 ∈ XB := xb_m6 7 (by decide +kernel) rfl
theorem lkX9_141 : Cond.methodLink RX9 141 yX9_isLetter ∈ XB := xb_m6 28 (by decide +kernel) rfl
theorem lkX9_144 : Cond.methodLink RX9 144 yX9_isDigit ∈ XB := xb_m6 31 (by decide +kernel) rfl
theorem lkX9_150 : Cond.methodLink RX9 150 yJ0_length_8abf5 ∈ XB := xb_m6 43 (by decide +kernel) rfl
theorem lkX9_155 : Cond.methodLink RX9 155 yJ0_charAt_5068e ∈ XB := xb_m6 44 (by decide +kernel) rfl
theorem lkX9_159 : Cond.methodLink RX9 159 yX9_next ∈ XB := xb_m6 24 (by decide +kernel) rfl
theorem lkX9_162 : Cond.methodLink RX9 162 yX9_number ∈ XB := xb_m6 45 (by decide +kernel) rfl
theorem lkX9_168 : Cond.methodLink RX9 168 yX9_isWord ∈ XB := xb_m6 39 (by decide +kernel) rfl
theorem lkX9_174 : Cond.methodLink RX9 174 yX9_two ∈ XB := xb_m6 50 (by decide +kernel) rfl
theorem lkX9_186 : Cond.methodLink RX9 186 yX9_keep ∈ XB := xb_m6 20 (by decide +kernel) rfl
theorem lkX9_190 : Cond.methodLink RX9 190 yX9_statement ∈ XB := xb_m6 34 (by decide +kernel) rfl
theorem lkX9_194 : Cond.methodLink RX9 194 yX9_again ∈ XB := xb_m6 59 (by decide +kernel) rfl
theorem lkX9_197 : Cond.methodLink RX9 197 yX9_isNeed ∈ XB := xb_m6 71 (by decide +kernel) rfl
theorem lkX9_200 : Cond.methodLink RX9 200 yX9_noMeaning ∈ XB := xb_m6 75 (by decide +kernel) rfl
theorem lkX9_220 : Cond.methodLink RX9 220 yX9_step ∈ XB := xb_m6 100 (by decide +kernel) rfl
theorem lkX9_223 : Cond.methodLink RX9 223 yX9_canStand ∈ XB := xb_m6 96 (by decide +kernel) rfl
theorem lkX9_226 : Cond.methodLink RX9 226 yX9_isEnd ∈ XB := xb_m6 103 (by decide +kernel) rfl
theorem lkX9_229 : Cond.methodLink RX9 229 yX9_begins ∈ XB := xb_m6 88 (by decide +kernel) rfl
theorem lkX9_233 : Cond.methodLink RX9 233 yX9_goesOn ∈ XB := xb_m6 92 (by decide +kernel) rfl
theorem lkX9_236 : Cond.methodLink RX9 236 yX9_meaning ∈ XB := xb_m6 106 (by decide +kernel) rfl
theorem lkX9_239 : Cond.methodLink RX9 239 yX9_shortestBy ∈ XB := xb_m6 84 (by decide +kernel) rfl
theorem lkX9_243 : Cond.methodLink RX9 243 yX9_isAny ∈ XB := xb_m6 114 (by decide +kernel) rfl
theorem lkX9_246 : Cond.methodLink RX9 246 yX9_means ∈ XB := xb_m6 118 (by decide +kernel) rfl
theorem lkX9_250 : Cond.methodLink RX9 250 yX9_metBy ∈ XB := xb_m6 126 (by decide +kernel) rfl
theorem lkX9_253 : Cond.methodLink RX9 253 yX9_lostBy ∈ XB := xb_m6 134 (by decide +kernel) rfl
theorem lkX9_256 : Cond.methodLink RX9 256 yX9_met ∈ XB := xb_m6 146 (by decide +kernel) rfl
theorem lkX9_259 : Cond.methodLink RX9 259 yX9_isUnmet ∈ XB := xb_m6 155 (by decide +kernel) rfl
theorem lkX9_262 : Cond.methodLink RX9 262 yX9_fewest ∈ XB := xb_m6 151 (by decide +kernel) rfl
theorem lkX9_265 : Cond.methodLink RX9 265 yX9_isSet ∈ XB := xb_m6 163 (by decide +kernel) rfl
theorem lkX9_268 : Cond.methodLink RX9 268 yX9_rows ∈ XB := xb_m6 175 (by decide +kernel) rfl
theorem lkX9_272 : Cond.methodLink RX9 272 Lib.Math.abs.name ∈ XB := xb_m6 187 (by decide +kernel) rfl
theorem lkX9_277 : Cond.methodLink RX9 277 yX9_noSaying ∈ XB := xb_m6 196 (by decide +kernel) rfl
theorem lkX9_280 : Cond.methodLink RX9 280 yX9_wrong ∈ XB := xb_m6 200 (by decide +kernel) rfl
theorem lkX9_283 : Cond.methodLink RX9 283 Lib.Math.max.name ∈ XB := xb_m6 220 (by decide +kernel) rfl
theorem lkX9_286 : Cond.methodLink RX9 286 yX9_soonFrom ∈ XB := xb_m6 216 (by decide +kernel) rfl
theorem lkX9_289 : Cond.methodLink RX9 289 yX9_bestColumn ∈ XB := xb_m6 212 (by decide +kernel) rfl
theorem lkX9_295 : Cond.methodLink RX9 295 yX9_rank ∈ XB := xb_m6 233 (by decide +kernel) rfl
theorem lkX9_298 : Cond.methodLink RX9 298 yX9_manyOn ∈ XB := xb_m7 1 (by decide +kernel) rfl
theorem lkX9_301 : Cond.methodLink RX9 301 yX9_mostSteps ∈ XB := xb_m7 9 (by decide +kernel) rfl
theorem lkX9_305 : Cond.methodLink RX9 305 Lib.Math.min.name ∈ XB := xb_m7 22 (by decide +kernel) rfl
theorem lkX9_309 : Cond.methodLink RX9 309 yX9_draw ∈ XB := xb_m7 27 (by decide +kernel) rfl
theorem lkX9_315 : Cond.methodLink RX9 315 yX9_pairs ∈ XB := xb_m7 48 (by decide +kernel) rfl
theorem lkX9_318 : Cond.methodLink RX9 318 yX9_ages ∈ XB := xb_m7 52 (by decide +kernel) rfl
set_option maxRecDepth 100000 in
theorem tokX0_isKind : xchk cX0_isKind tX0_isKind = true := by decide +kernel
set_option maxRecDepth 100000 in
theorem tokX0_isUnder : xchk cX0_isUnder tX0_isUnder = true := by decide +kernel
set_option maxRecDepth 100000 in
theorem tokX0_next : xchk cX0_next tX0_next = true := by decide +kernel
set_option maxRecDepth 100000 in
theorem tokX0_wants : xchk cX0_wants tX0_wants = true := by decide +kernel
set_option maxRecDepth 100000 in
theorem tokX0_mayEnd : xchk cX0_mayEnd tX0_mayEnd = true := by decide +kernel
set_option maxRecDepth 100000 in
theorem tokX4_upTo : xchk cX4_upTo tX4_upTo = true := by decide +kernel
set_option maxRecDepth 100000 in
theorem tokX4_at : xchk cX4_at tX4_at = true := by decide +kernel
set_option maxRecDepth 100000 in
theorem tokX4_meaningOf : xchk cX4_meaningOf tX4_meaningOf = true := by decide +kernel
set_option maxRecDepth 100000 in
theorem tokX4_membersOf : xchk cX4_membersOf tX4_membersOf = true := by decide +kernel
set_option maxRecDepth 100000 in
theorem tokX4_canMeanWithout : xchk cX4_canMeanWithout tX4_canMeanWithout = true := by decide +kernel
set_option maxRecDepth 100000 in
theorem tokX1_metWithout : xchk cX1_metWithout tX1_metWithout = true := by decide +kernel
set_option maxRecDepth 100000 in
theorem tokX1_missed : xchk cX1_missed tX1_missed = true := by decide +kernel
set_option maxRecDepth 100000 in
theorem tokX3_isLiving : xchk cX3_isLiving tX3_isLiving = true := by decide +kernel
set_option maxRecDepth 100000 in
theorem tokJ6_bitCount_0f7a4 : xchk cJ6_bitCount_0f7a4 tJ6_bitCount_0f7a4 = true := by decide +kernel
set_option maxRecDepth 100000 in
theorem tokX1_mostMissed : xchk cX1_mostMissed tX1_mostMissed = true := by decide +kernel
set_option maxRecDepth 100000 in
theorem tokX1_fewestToMiss : xchk cX1_fewestToMiss tX1_fewestToMiss = true := by decide +kernel
set_option maxRecDepth 100000 in
theorem tokX3_takeFrom : xchk cX3_takeFrom tX3_takeFrom = true := by decide +kernel
set_option maxRecDepth 100000 in
theorem tokX3_hasRoom : xchk cX3_hasRoom tX3_hasRoom = true := by decide +kernel
set_option maxRecDepth 100000 in
theorem tokX3_addBrother : xchk cX3_addBrother tX3_addBrother = true := by decide +kernel
set_option maxRecDepth 100000 in
theorem tokX3_has : xchk cX3_has tX3_has = true := by decide +kernel
set_option maxRecDepth 100000 in
theorem tokX4_wordOf : xchk cX4_wordOf tX4_wordOf = true := by decide +kernel
set_option maxRecDepth 100000 in
theorem tokX4_isMadeOf : xchk cX4_isMadeOf tX4_isMadeOf = true := by decide +kernel
set_option maxRecDepth 100000 in
theorem tokX4_add : xchk cX4_add tX4_add = true := by decide +kernel
set_option maxRecDepth 100000 in
theorem tokX4_lengthOf : xchk cX4_lengthOf tX4_lengthOf = true := by decide +kernel
set_option maxRecDepth 100000 in
theorem tokX4_placeOf : xchk cX4_placeOf tX4_placeOf = true := by decide +kernel
set_option maxRecDepth 100000 in
theorem tokX4_rowOf : xchk cX4_rowOf tX4_rowOf = true := by decide +kernel
set_option maxRecDepth 100000 in
theorem tokX2_with : xchk cX2_with tX2_with = true := by decide +kernel
set_option maxRecDepth 100000 in
theorem tokX4_goOn : xchk cX4_goOn tX4_goOn = true := by decide +kernel
set_option maxRecDepth 100000 in
theorem tokX2_at : xchk cX2_at tX2_at = true := by decide +kernel
set_option maxRecDepth 100000 in
theorem tokX2_meaning : xchk cX2_meaning tX2_meaning = true := by decide +kernel
set_option maxRecDepth 100000 in
theorem tokX4_keepWhole : xchk cX4_keepWhole tX4_keepWhole = true := by decide +kernel
set_option maxRecDepth 100000 in
theorem tokX4_update : xchk cX4_update tX4_update = true := by decide +kernel
set_option maxRecDepth 100000 in
theorem tokX3_needsOf : xchk cX3_needsOf tX3_needsOf = true := by decide +kernel
set_option maxRecDepth 100000 in
theorem tokX1_guessMet : xchk cX1_guessMet tX1_guessMet = true := by decide +kernel
set_option maxRecDepth 100000 in
theorem tokX1_choose : xchk cX1_choose tX1_choose = true := by decide +kernel
set_option maxRecDepth 100000 in
theorem tokX3_feuding : xchk cX3_feuding tX3_feuding = true := by decide +kernel
set_option maxRecDepth 100000 in
theorem tokX2_onlyFeud : xchk cX2_onlyFeud tX2_onlyFeud = true := by decide +kernel
set_option maxRecDepth 100000 in
theorem tokX1_bestPeace : xchk cX1_bestPeace tX1_bestPeace = true := by decide +kernel
set_option maxRecDepth 100000 in
theorem tokX2_feuds : xchk cX2_feuds tX2_feuds = true := by decide +kernel
set_option maxRecDepth 100000 in
theorem tokX3_steps : xchk cX3_steps tX3_steps = true := by decide +kernel
set_option maxRecDepth 100000 in
theorem tokX2_soon : xchk cX2_soon tX2_soon = true := by decide +kernel
set_option maxRecDepth 100000 in
theorem tokX2_bestColumn : xchk cX2_bestColumn tX2_bestColumn = true := by decide +kernel
set_option maxRecDepth 100000 in
theorem tokX2_stand : xchk cX2_stand tX2_stand = true := by decide +kernel
set_option maxRecDepth 100000 in
theorem tokX3_isAmount : xchk cX3_isAmount tX3_isAmount = true := by decide +kernel
set_option maxRecDepth 100000 in
theorem tokX3_isCell : xchk cX3_isCell tX3_isCell = true := by decide +kernel
set_option maxRecDepth 100000 in
theorem tokX3_isAge : xchk cX3_isAge tX3_isAge = true := by decide +kernel
set_option maxRecDepth 100000 in
theorem tokX3_bury : xchk cX3_bury tX3_bury = true := by decide +kernel
set_option maxRecDepth 100000 in
theorem tokX3_setFeud : xchk cX3_setFeud tX3_setFeud = true := by decide +kernel
set_option maxRecDepth 100000 in
theorem tokX3_hasNeed : xchk cX3_hasNeed tX3_hasNeed = true := by decide +kernel
set_option maxRecDepth 100000 in
theorem tokX3_hasNeedRoom : xchk cX3_hasNeedRoom tX3_hasNeedRoom = true := by decide +kernel
set_option maxRecDepth 100000 in
theorem tokX3_addNeed : xchk cX3_addNeed tX3_addNeed = true := by decide +kernel
set_option maxRecDepth 100000 in
theorem tokX3_livingOfKind : xchk cX3_livingOfKind tX3_livingOfKind = true := by decide +kernel
set_option maxRecDepth 100000 in
theorem tokX3_pairsFeuding : xchk cX3_pairsFeuding tX3_pairsFeuding = true := by decide +kernel
set_option maxRecDepth 100000 in
theorem tokX3_agesTogether : xchk cX3_agesTogether tX3_agesTogether = true := by decide +kernel
set_option maxRecDepth 100000 in
theorem tokX3_foremost : xchk cX3_foremost tX3_foremost = true := by decide +kernel
set_option maxRecDepth 100000 in
theorem tokX3_fullestCell : xchk cX3_fullestCell tX3_fullestCell = true := by decide +kernel
set_option maxRecDepth 100000 in
theorem tokX3_farthest : xchk cX3_farthest tX3_farthest = true := by decide +kernel
set_option maxRecDepth 100000 in
theorem tokX3_middleCell : xchk cX3_middleCell tX3_middleCell = true := by decide +kernel
set_option maxRecDepth 100000 in
theorem tokX3_olderBy1 : xchk cX3_olderBy1 tX3_olderBy1 = true := by decide +kernel
set_option maxRecDepth 100000 in
theorem tokX3_chanceOfYear : xchk cX3_chanceOfYear tX3_chanceOfYear = true := by decide +kernel
set_option maxRecDepth 100000 in
theorem tokX3_draw : xchk cX3_draw tX3_draw = true := by decide +kernel
set_option maxRecDepth 100000 in
theorem tokX3_passYear : xchk cX3_passYear tX3_passYear = true := by decide +kernel
set_option maxRecDepth 100000 in
theorem tokX4_isCalm : xchk cX4_isCalm tX4_isCalm = true := by decide +kernel
set_option maxRecDepth 100000 in
theorem tokX4_find : xchk cX4_find tX4_find = true := by decide +kernel
set_option maxRecDepth 100000 in
theorem tokX4_calm : xchk cX4_calm tX4_calm = true := by decide +kernel
set_option maxRecDepth 100000 in
theorem tokX4_most : xchk cX4_most tX4_most = true := by decide +kernel
set_option maxRecDepth 100000 in
theorem tokX4_least : xchk cX4_least tX4_least = true := by decide +kernel
set_option maxRecDepth 100000 in
theorem tokX4_greatest : xchk cX4_greatest tX4_greatest = true := by decide +kernel
set_option maxRecDepth 100000 in
theorem tokX4_closest : xchk cX4_closest tX4_closest = true := by decide +kernel
set_option maxRecDepth 100000 in
theorem tokX4_beginners : xchk cX4_beginners tX4_beginners = true := by decide +kernel
set_option maxRecDepth 100000 in
theorem tokX4_enders : xchk cX4_enders tX4_enders = true := by decide +kernel
set_option maxRecDepth 100000 in
theorem tokX4_standing : xchk cX4_standing tX4_standing = true := by decide +kernel
set_option maxRecDepth 100000 in
theorem tokX4_forgetMarks : xchk cX4_forgetMarks tX4_forgetMarks = true := by decide +kernel
set_option maxRecDepth 100000 in
theorem tokX4_isNew : xchk cX4_isNew tX4_isNew = true := by decide +kernel
set_option maxRecDepth 100000 in
theorem tokX4_unlike : xchk cX4_unlike tX4_unlike = true := by decide +kernel
set_option maxRecDepth 100000 in
theorem tokX4_countOf : xchk cX4_countOf tX4_countOf = true := by decide +kernel
set_option maxRecDepth 100000 in
theorem tokX4_unlikeOf : xchk cX4_unlikeOf tX4_unlikeOf = true := by decide +kernel
set_option maxRecDepth 100000 in
theorem tokX4_firstOf : xchk cX4_firstOf tX4_firstOf = true := by decide +kernel
set_option maxRecDepth 100000 in
theorem tokX4_mayMean : xchk cX4_mayMean tX4_mayMean = true := by decide +kernel
set_option maxRecDepth 100000 in
theorem tokX5_isSort : xchk cX5_isSort tX5_isSort = true := by decide +kernel
set_option maxRecDepth 100000 in
theorem tokX5_isEmpty : xchk cX5_isEmpty tX5_isEmpty = true := by decide +kernel
set_option maxRecDepth 100000 in
theorem tokX5_isRow : xchk cX5_isRow tX5_isRow = true := by decide +kernel
set_option maxRecDepth 100000 in
theorem tokX5_hold : xchk cX5_hold tX5_hold = true := by decide +kernel
set_option maxRecDepth 100000 in
theorem tokX5_holdRow : xchk cX5_holdRow tX5_holdRow = true := by decide +kernel
set_option maxRecDepth 100000 in
theorem tokX5_spans : xchk cX5_spans tX5_spans = true := by decide +kernel
set_option maxRecDepth 100000 in
theorem tokX5_narrow : xchk cX5_narrow tX5_narrow = true := by decide +kernel
set_option maxRecDepth 100000 in
theorem tokX5_put : xchk cX5_put tX5_put = true := by decide +kernel
set_option maxRecDepth 100000 in
theorem tokX6_hasRoom : xchk cX6_hasRoom tX6_hasRoom = true := by decide +kernel
set_option maxRecDepth 100000 in
theorem tokX6_add : xchk cX6_add tX6_add = true := by decide +kernel
set_option maxRecDepth 100000 in
theorem tokX6_clear : xchk cX6_clear tX6_clear = true := by decide +kernel
set_option maxRecDepth 100000 in
theorem tokX6_tokenOf : xchk cX6_tokenOf tX6_tokenOf = true := by decide +kernel
set_option maxRecDepth 100000 in
theorem tokX6_step : xchk cX6_step tX6_step = true := by decide +kernel
set_option maxRecDepth 100000 in
theorem tokJ0_coder_7d493 : xchk cJ0_coder_7d493 tJ0_coder_7d493 = true := by decide +kernel
set_option maxRecDepth 100000 in
theorem tokJ0_length_8abf5 : xchk cJ0_length_8abf5 tJ0_length_8abf5 = true := by decide +kernel
set_option maxRecDepth 100000 in
theorem tokJ0_isLatin1_aae02 : xchk cJ0_isLatin1_aae02 tJ0_isLatin1_aae02 = true := by decide +kernel
set_option maxRecDepth 100000 in
theorem tokJ3_checkIndex_8e157 : xchk cJ3_checkIndex_8e157 tJ3_checkIndex_8e157 = true := by decide +kernel
set_option maxRecDepth 100000 in
theorem tokJ0_checkIndex_df160 : xchk cJ0_checkIndex_df160 tJ0_checkIndex_df160 = true := by decide +kernel
set_option maxRecDepth 100000 in
theorem tokJ1_charAt_3b067 : xchk cJ1_charAt_3b067 tJ1_charAt_3b067 = true := by decide +kernel
set_option maxRecDepth 100000 in
theorem tokJ0_charAt_5068e : xchk cJ0_charAt_5068e tJ0_charAt_5068e = true := by decide +kernel
set_option maxRecDepth 100000 in
theorem tokX6_isWord : xchk cX6_isWord tX6_isWord = true := by decide +kernel
set_option maxRecDepth 100000 in
theorem tokX6_stepToNumber : xchk cX6_stepToNumber tX6_stepToNumber = true := by decide +kernel
set_option maxRecDepth 100000 in
theorem tokX6_readBrother : xchk cX6_readBrother tX6_readBrother = true := by decide +kernel
set_option maxRecDepth 100000 in
theorem tokX6_readFeud : xchk cX6_readFeud tX6_readFeud = true := by decide +kernel
set_option maxRecDepth 100000 in
theorem tokX6_readNeed : xchk cX6_readNeed tX6_readNeed = true := by decide +kernel
set_option maxRecDepth 100000 in
theorem tokX6_readAge : xchk cX6_readAge tX6_readAge = true := by decide +kernel
set_option maxRecDepth 100000 in
theorem tokX6_readDeath : xchk cX6_readDeath tX6_readDeath = true := by decide +kernel
set_option maxRecDepth 100000 in
theorem tokX6_readStatement : xchk cX6_readStatement tX6_readStatement = true := by decide +kernel
set_option maxRecDepth 100000 in
theorem tokX6_read : xchk cX6_read tX6_read = true := by decide +kernel
set_option maxRecDepth 100000 in
theorem tokX7_hear : xchk cX7_hear tX7_hear = true := by decide +kernel
set_option maxRecDepth 100000 in
theorem tokX8_isShelf : xchk cX8_isShelf tX8_isShelf = true := by decide +kernel
set_option maxRecDepth 100000 in
theorem tokX8_refuse : xchk cX8_refuse tX8_refuse = true := by decide +kernel
set_option maxRecDepth 100000 in
theorem tokX8_row : xchk cX8_row tX8_row = true := by decide +kernel
set_option maxRecDepth 100000 in
theorem tokX8_rowTrouble : xchk cX8_rowTrouble tX8_rowTrouble = true := by decide +kernel
set_option maxRecDepth 100000 in
theorem tokX8_set : xchk cX8_set tX8_set = true := by decide +kernel
set_option maxRecDepth 100000 in
theorem tokX8_copyTrouble : xchk cX8_copyTrouble tX8_copyTrouble = true := by decide +kernel
set_option maxRecDepth 100000 in
theorem tokX8_copy : xchk cX8_copy tX8_copy = true := by decide +kernel
set_option maxRecDepth 100000 in
theorem tokX8_element : xchk cX8_element tX8_element = true := by decide +kernel
set_option maxRecDepth 100000 in
theorem tokX8_holds : xchk cX8_holds tX8_holds = true := by decide +kernel
set_option maxRecDepth 100000 in
theorem tokX8_show : xchk cX8_show tX8_show = true := by decide +kernel
set_option maxRecDepth 100000 in
theorem tokX8_says : xchk cX8_says tX8_says = true := by decide +kernel
set_option maxRecDepth 100000 in
theorem tokX8_brother : xchk cX8_brother tX8_brother = true := by decide +kernel
set_option maxRecDepth 100000 in
theorem tokX8_feud : xchk cX8_feud tX8_feud = true := by decide +kernel
set_option maxRecDepth 100000 in
theorem tokX8_need : xchk cX8_need tX8_need = true := by decide +kernel
set_option maxRecDepth 100000 in
theorem tokX8_age : xchk cX8_age tX8_age = true := by decide +kernel
set_option maxRecDepth 100000 in
theorem tokX8_goes : xchk cX8_goes tX8_goes = true := by decide +kernel
set_option maxRecDepth 100000 in
theorem tokX8_livingTrouble : xchk cX8_livingTrouble tX8_livingTrouble = true := by decide +kernel
set_option maxRecDepth 100000 in
theorem tokX8_dies : xchk cX8_dies tX8_dies = true := by decide +kernel
set_option maxRecDepth 100000 in
theorem tokX8_feed : xchk cX8_feed tX8_feed = true := by decide +kernel
set_option maxRecDepth 100000 in
theorem tokX8_wipe : xchk cX8_wipe tX8_wipe = true := by decide +kernel
set_option maxRecDepth 100000 in
theorem tokX8_rock : xchk cX8_rock tX8_rock = true := by decide +kernel
set_option maxRecDepth 100000 in
theorem tokX8_brotherOf : xchk cX8_brotherOf tX8_brotherOf = true := by decide +kernel
set_option maxRecDepth 100000 in
theorem tokX8_needOf : xchk cX8_needOf tX8_needOf = true := by decide +kernel
set_option maxRecDepth 100000 in
theorem tokX8_isTold : xchk cX8_isTold tX8_isTold = true := by decide +kernel
set_option maxRecDepth 100000 in
theorem tokX8_sayingsNow : xchk cX8_sayingsNow tX8_sayingsNow = true := by decide +kernel
set_option maxRecDepth 100000 in
theorem tokX8_shortest : xchk cX8_shortest tX8_shortest = true := by decide +kernel
set_option maxRecDepth 100000 in
theorem tokX8_said : xchk cX8_said tX8_said = true := by decide +kernel
set_option maxRecDepth 100000 in
theorem tokX8_many : xchk cX8_many tX8_many = true := by decide +kernel
set_option maxRecDepth 100000 in
theorem tokX8_who : xchk cX8_who tX8_who = true := by decide +kernel
set_option maxRecDepth 100000 in
theorem tokX8_nearest : xchk cX8_nearest tX8_nearest = true := by decide +kernel
set_option maxRecDepth 100000 in
theorem tokX8_first : xchk cX8_first tX8_first = true := by decide +kernel
set_option maxRecDepth 100000 in
theorem tokX8_crowd : xchk cX8_crowd tX8_crowd = true := by decide +kernel
set_option maxRecDepth 100000 in
theorem tokX8_gather : xchk cX8_gather tX8_gather = true := by decide +kernel
set_option maxRecDepth 100000 in
theorem tokX8_alone : xchk cX8_alone tX8_alone = true := by decide +kernel
set_option maxRecDepth 100000 in
theorem tokX8_lasting : xchk cX8_lasting tX8_lasting = true := by decide +kernel
set_option maxRecDepth 100000 in
theorem tokX8_longest : xchk cX8_longest tX8_longest = true := by decide +kernel
set_option maxRecDepth 100000 in
theorem tokX8_met : xchk cX8_met tX8_met = true := by decide +kernel
set_option maxRecDepth 100000 in
theorem tokX8_without : xchk cX8_without tX8_without = true := by decide +kernel
set_option maxRecDepth 100000 in
theorem tokX8_mightiest : xchk cX8_mightiest tX8_mightiest = true := by decide +kernel
set_option maxRecDepth 100000 in
theorem tokX8_choice : xchk cX8_choice tX8_choice = true := by decide +kernel
set_option maxRecDepth 100000 in
theorem tokX8_memberOf : xchk cX8_memberOf tX8_memberOf = true := by decide +kernel
set_option maxRecDepth 100000 in
theorem tokX8_lost : xchk cX8_lost tX8_lost = true := by decide +kernel
set_option maxRecDepth 100000 in
theorem tokX8_canRun : xchk cX8_canRun tX8_canRun = true := by decide +kernel
set_option maxRecDepth 100000 in
theorem tokX8_ran : xchk cX8_ran tX8_ran = true := by decide +kernel
set_option maxRecDepth 100000 in
theorem tokX8_meant : xchk cX8_meant tX8_meant = true := by decide +kernel
set_option maxRecDepth 100000 in
theorem tokX8_toldTrouble : xchk cX8_toldTrouble tX8_toldTrouble = true := by decide +kernel
set_option maxRecDepth 100000 in
theorem tokX8_judge : xchk cX8_judge tX8_judge = true := by decide +kernel
set_option maxRecDepth 100000 in
theorem tokX8_wrongTrouble : xchk cX8_wrongTrouble tX8_wrongTrouble = true := by decide +kernel
set_option maxRecDepth 100000 in
theorem tokX8_means : xchk cX8_means tX8_means = true := by decide +kernel
set_option maxRecDepth 100000 in
theorem tokX8_stands : xchk cX8_stands tX8_stands = true := by decide +kernel
set_option maxRecDepth 100000 in
theorem tokX8_done : xchk cX8_done tX8_done = true := by decide +kernel
set_option maxRecDepth 100000 in
theorem tokX8_peace : xchk cX8_peace tX8_peace = true := by decide +kernel
set_option maxRecDepth 100000 in
theorem tokX8_years : xchk cX8_years tX8_years = true := by decide +kernel
set_option maxRecDepth 100000 in
theorem tokX8_seed : xchk cX8_seed tX8_seed = true := by decide +kernel
set_option maxRecDepth 100000 in
theorem tokX8_image : xchk cX8_image tX8_image = true := by decide +kernel
set_option maxRecDepth 100000 in
theorem tokX8_back : xchk cX8_back tX8_back = true := by decide +kernel
set_option maxRecDepth 100000 in
theorem tokX8_shelvesHolding : xchk cX8_shelvesHolding tX8_shelvesHolding = true := by decide +kernel
set_option maxRecDepth 100000 in
theorem tokX8_status : xchk cX8_status tX8_status = true := by decide +kernel
set_option maxRecDepth 100000 in
theorem tokX9_no : xchk cX9_no tX9_no = true := by decide +kernel
set_option maxRecDepth 100000 in
theorem tokX9_noMeaning : xchk cX9_noMeaning tX9_noMeaning = true := by decide +kernel
set_option maxRecDepth 100000 in
theorem tokX9_within : xchk cX9_within tX9_within = true := by decide +kernel
set_option maxRecDepth 100000 in
theorem tokX9_has : xchk cX9_has tX9_has = true := by decide +kernel
set_option maxRecDepth 100000 in
theorem tokX9_isBrother : xchk cX9_isBrother tX9_isBrother = true := by decide +kernel
set_option maxRecDepth 100000 in
theorem tokX9_isNeed : xchk cX9_isNeed tX9_isNeed = true := by decide +kernel
set_option maxRecDepth 100000 in
theorem tokX9_isCell : xchk cX9_isCell tX9_isCell = true := by decide +kernel
set_option maxRecDepth 100000 in
theorem tokX9_isShelf : xchk cX9_isShelf tX9_isShelf = true := by decide +kernel
set_option maxRecDepth 100000 in
theorem tokX9_isRow : xchk cX9_isRow tX9_isRow = true := by decide +kernel
set_option maxRecDepth 100000 in
theorem tokX9_row : xchk cX9_row tX9_row = true := by decide +kernel
set_option maxRecDepth 100000 in
theorem tokX9_noRow : xchk cX9_noRow tX9_noRow = true := by decide +kernel
set_option maxRecDepth 100000 in
theorem tokX9_kept : xchk cX9_kept tX9_kept = true := by decide +kernel
set_option maxRecDepth 100000 in
theorem tokX9_set : xchk cX9_set tX9_set = true := by decide +kernel
set_option maxRecDepth 100000 in
theorem tokX9_copy : xchk cX9_copy tX9_copy = true := by decide +kernel
set_option maxRecDepth 100000 in
theorem tokX9_element : xchk cX9_element tX9_element = true := by decide +kernel
set_option maxRecDepth 100000 in
theorem tokX9_holds : xchk cX9_holds tX9_holds = true := by decide +kernel
set_option maxRecDepth 100000 in
theorem tokX9_show : xchk cX9_show tX9_show = true := by decide +kernel
set_option maxRecDepth 100000 in
theorem tokX9_isUnder : xchk cX9_isUnder tX9_isUnder = true := by decide +kernel
set_option maxRecDepth 100000 in
theorem tokX9_says : xchk cX9_says tX9_says = true := by decide +kernel
set_option maxRecDepth 100000 in
theorem tokX9_newBrother : xchk cX9_newBrother tX9_newBrother = true := by decide +kernel
set_option maxRecDepth 100000 in
theorem tokX9_brother : xchk cX9_brother tX9_brother = true := by decide +kernel
set_option maxRecDepth 100000 in
theorem tokX9_feudBe : xchk cX9_feudBe tX9_feudBe = true := by decide +kernel
set_option maxRecDepth 100000 in
theorem tokX9_feud : xchk cX9_feud tX9_feud = true := by decide +kernel
set_option maxRecDepth 100000 in
theorem tokX9_newNeed : xchk cX9_newNeed tX9_newNeed = true := by decide +kernel
set_option maxRecDepth 100000 in
theorem tokX9_need : xchk cX9_need tX9_need = true := by decide +kernel
set_option maxRecDepth 100000 in
theorem tokX9_age : xchk cX9_age tX9_age = true := by decide +kernel
set_option maxRecDepth 100000 in
theorem tokX9_goes : xchk cX9_goes tX9_goes = true := by decide +kernel
set_option maxRecDepth 100000 in
theorem tokX9_living : xchk cX9_living tX9_living = true := by decide +kernel
set_option maxRecDepth 100000 in
theorem tokX9_dies : xchk cX9_dies tX9_dies = true := by decide +kernel
set_option maxRecDepth 100000 in
theorem tokX9_feed : xchk cX9_feed tX9_feed = true := by decide +kernel
set_option maxRecDepth 100000 in
theorem tokX9_wipe : xchk cX9_wipe tX9_wipe = true := by decide +kernel
set_option maxRecDepth 100000 in
theorem tokX9_isLetter : xchk cX9_isLetter tX9_isLetter = true := by decide +kernel
set_option maxRecDepth 100000 in
theorem tokX9_isDigit : xchk cX9_isDigit tX9_isDigit = true := by decide +kernel
set_option maxRecDepth 100000 in
theorem tokX9_next : xchk cX9_next tX9_next = true := by decide +kernel
set_option maxRecDepth 100000 in
theorem tokX9_isWord : xchk cX9_isWord tX9_isWord = true := by decide +kernel
set_option maxRecDepth 100000 in
theorem tokX9_number : xchk cX9_number tX9_number = true := by decide +kernel
set_option maxRecDepth 100000 in
theorem tokX9_two : xchk cX9_two tX9_two = true := by decide +kernel
set_option maxRecDepth 100000 in
theorem tokX9_statement : xchk cX9_statement tX9_statement = true := by decide +kernel
set_option maxRecDepth 100000 in
theorem tokX9_keep : xchk cX9_keep tX9_keep = true := by decide +kernel
set_option maxRecDepth 100000 in
theorem tokX9_again : xchk cX9_again tX9_again = true := by decide +kernel
set_option maxRecDepth 100000 in
theorem tokX9_rock : xchk cX9_rock tX9_rock = true := by decide +kernel
set_option maxRecDepth 100000 in
theorem tokX9_brotherOf : xchk cX9_brotherOf tX9_brotherOf = true := by decide +kernel
set_option maxRecDepth 100000 in
theorem tokX9_needOf : xchk cX9_needOf tX9_needOf = true := by decide +kernel
set_option maxRecDepth 100000 in
theorem tokX9_step : xchk cX9_step tX9_step = true := by decide +kernel
set_option maxRecDepth 100000 in
theorem tokX9_isEnd : xchk cX9_isEnd tX9_isEnd = true := by decide +kernel
set_option maxRecDepth 100000 in
theorem tokX9_begins : xchk cX9_begins tX9_begins = true := by decide +kernel
set_option maxRecDepth 100000 in
theorem tokX9_canStand : xchk cX9_canStand tX9_canStand = true := by decide +kernel
set_option maxRecDepth 100000 in
theorem tokX9_goesOn : xchk cX9_goesOn tX9_goesOn = true := by decide +kernel
set_option maxRecDepth 100000 in
theorem tokX9_meaning : xchk cX9_meaning tX9_meaning = true := by decide +kernel
set_option maxRecDepth 100000 in
theorem tokX9_shortestBy : xchk cX9_shortestBy tX9_shortestBy = true := by decide +kernel
set_option maxRecDepth 100000 in
theorem tokX9_shortest : xchk cX9_shortest tX9_shortest = true := by decide +kernel
set_option maxRecDepth 100000 in
theorem tokX9_means : xchk cX9_means tX9_means = true := by decide +kernel
set_option maxRecDepth 100000 in
theorem tokX9_isAny : xchk cX9_isAny tX9_isAny = true := by decide +kernel
set_option maxRecDepth 100000 in
theorem tokX9_said : xchk cX9_said tX9_said = true := by decide +kernel
set_option maxRecDepth 100000 in
theorem tokX9_metBy : xchk cX9_metBy tX9_metBy = true := by decide +kernel
set_option maxRecDepth 100000 in
theorem tokX9_met : xchk cX9_met tX9_met = true := by decide +kernel
set_option maxRecDepth 100000 in
theorem tokX9_lostBy : xchk cX9_lostBy tX9_lostBy = true := by decide +kernel
set_option maxRecDepth 100000 in
theorem tokX9_without : xchk cX9_without tX9_without = true := by decide +kernel
set_option maxRecDepth 100000 in
theorem tokX9_mightiest : xchk cX9_mightiest tX9_mightiest = true := by decide +kernel
set_option maxRecDepth 100000 in
theorem tokX9_choice : xchk cX9_choice tX9_choice = true := by decide +kernel
set_option maxRecDepth 100000 in
theorem tokX9_isUnmet : xchk cX9_isUnmet tX9_isUnmet = true := by decide +kernel
set_option maxRecDepth 100000 in
theorem tokX9_fewest : xchk cX9_fewest tX9_fewest = true := by decide +kernel
set_option maxRecDepth 100000 in
theorem tokX9_lost : xchk cX9_lost tX9_lost = true := by decide +kernel
set_option maxRecDepth 100000 in
theorem tokX9_isSet : xchk cX9_isSet tX9_isSet = true := by decide +kernel
set_option maxRecDepth 100000 in
theorem tokX9_ran : xchk cX9_ran tX9_ran = true := by decide +kernel
set_option maxRecDepth 100000 in
theorem tokX9_meant : xchk cX9_meant tX9_meant = true := by decide +kernel
set_option maxRecDepth 100000 in
theorem tokX9_rows : xchk cX9_rows tX9_rows = true := by decide +kernel
set_option maxRecDepth 100000 in
theorem tokX9_many : xchk cX9_many tX9_many = true := by decide +kernel
set_option maxRecDepth 100000 in
theorem tokX9_who : xchk cX9_who tX9_who = true := by decide +kernel
set_option maxRecDepth 100000 in
theorem tokX9_nearest : xchk cX9_nearest tX9_nearest = true := by decide +kernel
set_option maxRecDepth 100000 in
theorem tokX9_longest : xchk cX9_longest tX9_longest = true := by decide +kernel
set_option maxRecDepth 100000 in
theorem tokX9_noSaying : xchk cX9_noSaying tX9_noSaying = true := by decide +kernel
set_option maxRecDepth 100000 in
theorem tokX9_wrong : xchk cX9_wrong tX9_wrong = true := by decide +kernel
set_option maxRecDepth 100000 in
theorem tokX9_judge : xchk cX9_judge tX9_judge = true := by decide +kernel
set_option maxRecDepth 100000 in
theorem tokX9_means_ : xchk cX9_means_ tX9_means_ = true := by decide +kernel
set_option maxRecDepth 100000 in
theorem tokX9_soonFrom : xchk cX9_soonFrom tX9_soonFrom = true := by decide +kernel
set_option maxRecDepth 100000 in
theorem tokX9_bestColumn : xchk cX9_bestColumn tX9_bestColumn = true := by decide +kernel
set_option maxRecDepth 100000 in
theorem tokX9_stands : xchk cX9_stands tX9_stands = true := by decide +kernel
set_option maxRecDepth 100000 in
theorem tokX9_done : xchk cX9_done tX9_done = true := by decide +kernel
set_option maxRecDepth 100000 in
theorem tokX9_peace : xchk cX9_peace tX9_peace = true := by decide +kernel
set_option maxRecDepth 100000 in
theorem tokX9_rank : xchk cX9_rank tX9_rank = true := by decide +kernel
set_option maxRecDepth 100000 in
theorem tokX9_first : xchk cX9_first tX9_first = true := by decide +kernel
set_option maxRecDepth 100000 in
theorem tokX9_manyOn : xchk cX9_manyOn tX9_manyOn = true := by decide +kernel
set_option maxRecDepth 100000 in
theorem tokX9_crowd : xchk cX9_crowd tX9_crowd = true := by decide +kernel
set_option maxRecDepth 100000 in
theorem tokX9_mostSteps : xchk cX9_mostSteps tX9_mostSteps = true := by decide +kernel
set_option maxRecDepth 100000 in
theorem tokX9_gather : xchk cX9_gather tX9_gather = true := by decide +kernel
set_option maxRecDepth 100000 in
theorem tokX9_alone : xchk cX9_alone tX9_alone = true := by decide +kernel
set_option maxRecDepth 100000 in
theorem tokX9_lasting : xchk cX9_lasting tX9_lasting = true := by decide +kernel
set_option maxRecDepth 100000 in
theorem tokX9_draw : xchk cX9_draw tX9_draw = true := by decide +kernel
set_option maxRecDepth 100000 in
theorem tokX9_years : xchk cX9_years tX9_years = true := by decide +kernel
set_option maxRecDepth 100000 in
theorem tokX9_seed : xchk cX9_seed tX9_seed = true := by decide +kernel
set_option maxRecDepth 100000 in
theorem tokX9_image : xchk cX9_image tX9_image = true := by decide +kernel
set_option maxRecDepth 100000 in
theorem tokX9_back : xchk cX9_back tX9_back = true := by decide +kernel
set_option maxRecDepth 100000 in
theorem tokX9_pairs : xchk cX9_pairs tX9_pairs = true := by decide +kernel
set_option maxRecDepth 100000 in
theorem tokX9_ages : xchk cX9_ages tX9_ages = true := by decide +kernel
set_option maxRecDepth 100000 in
theorem tokX9_status : xchk cX9_status tX9_status = true := by decide +kernel
