/-! THE CLASS: a new book -/
theorem ap_get0 {h0 L : sn_H} {c : va_E} : (h0 ++ c :: L)[h0.length]? = some c := by rw [List.getElem?_append_right (Nat.le_refl _), Nat.sub_self]; rfl
theorem ap_set0 {h0 L : sn_H} {c c' : va_E} : (h0 ++ c :: L).set h0.length c' = h0 ++ c' :: L := by rw [List.set_append_right _ _ (Nat.le_refl _), Nat.sub_self]; rfl
def zI (n : Nat) : va_E := .inl (0, n, .inl (fun _ => 0))
def zJ (n : Nat) : va_E := .inl (1, n, .inr (.inl (fun _ => 0)))
theorem e_B_init_3 (d : Nat) {h0 : sn_H} {ru : Nat} {v0 v1 v2 v3 v4 v5 : Value} {ex : List Value} (k m l : Int32) : Sp (d + 1) me_B_init [.ref h0.length, .int k, .int m, .int l, .ref ru] (h0 ++ [.inr (3, v0 :: v1 :: v2 :: v3 :: v4 :: v5 :: ex)]) none (h0 ++ [.inr (3, .int k :: .int m :: .int l :: .ref ru :: .ref (h0.length + 1) :: .ref (h0.length + 2) :: ex), zI 32, zI 32]) := by
  refine Sp.of ok_B_init trivial rfl ?_
  refine Ev.go 1 rfl ?_
  refine Ev.oi rfl lo_10_3 lo_i lo_c rfl ?_
  refine Ev.go 2 rfl ?_
  refine Ev.pf rfl lp_B_init_9_3 ap_get0 rfl rfl ?_
  rw [ap_set0]
  refine Ev.go 2 rfl ?_
  refine Ev.pf rfl lp_B_init_15_3 ap_get0 rfl rfl ?_
  rw [ap_set0]
  refine Ev.go 2 rfl ?_
  refine Ev.pf rfl lp_B_init_18_3 ap_get0 rfl rfl ?_
  rw [ap_set0]
  refine Ev.go 2 rfl ?_
  refine Ev.pf rfl lp_B_init_21_3 ap_get0 rfl rfl ?_
  rw [ap_set0]
  refine Ev.go 2 rfl ?_
  refine Ev.na (t := 0) rfl rfl lac_0 rfl (by omega) ?_
  simp only [List.length_append, List.length_cons, List.length_nil, List.append_assoc, List.cons_append, List.nil_append]
  refine Ev.pf rfl lp_B_init_25_3 ap_get0 rfl rfl ?_
  rw [ap_set0]
  refine Ev.go 2 rfl ?_
  refine Ev.na (t := 0) rfl rfl lac_0 rfl (by omega) ?_
  simp only [List.length_append, List.length_cons, List.length_nil, List.append_assoc, List.cons_append, List.nil_append]
  refine Ev.pf rfl lp_B_init_29_3 ap_get0 rfl rfl ?_
  rw [ap_set0]
  exact Ev.retv rfl
theorem e_B_init_4 (d : Nat) {h0 : sn_H} {ru : Nat} {v0 v1 v2 v3 v4 v5 : Value} {ex : List Value} (k m l : Int32) : Sp (d + 1) me_B_init [.ref h0.length, .int k, .int m, .int l, .ref ru] (h0 ++ [.inr (4, v0 :: v1 :: v2 :: v3 :: v4 :: v5 :: ex)]) none (h0 ++ [.inr (4, .int k :: .int m :: .int l :: .ref ru :: .ref (h0.length + 1) :: .ref (h0.length + 2) :: ex), zI 32, zI 32]) := by
  refine Sp.of ok_B_init trivial rfl ?_
  refine Ev.go 1 rfl ?_
  refine Ev.oi rfl lo_10_3 lo_i lo_c rfl ?_
  refine Ev.go 2 rfl ?_
  refine Ev.pf rfl lp_B_init_9_4 ap_get0 rfl rfl ?_
  rw [ap_set0]
  refine Ev.go 2 rfl ?_
  refine Ev.pf rfl lp_B_init_15_4 ap_get0 rfl rfl ?_
  rw [ap_set0]
  refine Ev.go 2 rfl ?_
  refine Ev.pf rfl lp_B_init_18_4 ap_get0 rfl rfl ?_
  rw [ap_set0]
  refine Ev.go 2 rfl ?_
  refine Ev.pf rfl lp_B_init_21_4 ap_get0 rfl rfl ?_
  rw [ap_set0]
  refine Ev.go 2 rfl ?_
  refine Ev.na (t := 0) rfl rfl lac_0 rfl (by omega) ?_
  simp only [List.length_append, List.length_cons, List.length_nil, List.append_assoc, List.cons_append, List.nil_append]
  refine Ev.pf rfl lp_B_init_25_4 ap_get0 rfl rfl ?_
  rw [ap_set0]
  refine Ev.go 2 rfl ?_
  refine Ev.na (t := 0) rfl rfl lac_0 rfl (by omega) ?_
  simp only [List.length_append, List.length_cons, List.length_nil, List.append_assoc, List.cons_append, List.nil_append]
  refine Ev.pf rfl lp_B_init_29_4 ap_get0 rfl rfl ?_
  rw [ap_set0]
  exact Ev.retv rfl
theorem e_B_init_5 (d : Nat) {h0 : sn_H} {ru : Nat} {v0 v1 v2 v3 v4 v5 : Value} {ex : List Value} (k m l : Int32) : Sp (d + 1) me_B_init [.ref h0.length, .int k, .int m, .int l, .ref ru] (h0 ++ [.inr (5, v0 :: v1 :: v2 :: v3 :: v4 :: v5 :: ex)]) none (h0 ++ [.inr (5, .int k :: .int m :: .int l :: .ref ru :: .ref (h0.length + 1) :: .ref (h0.length + 2) :: ex), zI 32, zI 32]) := by
  refine Sp.of ok_B_init trivial rfl ?_
  refine Ev.go 1 rfl ?_
  refine Ev.oi rfl lo_10_3 lo_i lo_c rfl ?_
  refine Ev.go 2 rfl ?_
  refine Ev.pf rfl lp_B_init_9_5 ap_get0 rfl rfl ?_
  rw [ap_set0]
  refine Ev.go 2 rfl ?_
  refine Ev.pf rfl lp_B_init_15_5 ap_get0 rfl rfl ?_
  rw [ap_set0]
  refine Ev.go 2 rfl ?_
  refine Ev.pf rfl lp_B_init_18_5 ap_get0 rfl rfl ?_
  rw [ap_set0]
  refine Ev.go 2 rfl ?_
  refine Ev.pf rfl lp_B_init_21_5 ap_get0 rfl rfl ?_
  rw [ap_set0]
  refine Ev.go 2 rfl ?_
  refine Ev.na (t := 0) rfl rfl lac_0 rfl (by omega) ?_
  simp only [List.length_append, List.length_cons, List.length_nil, List.append_assoc, List.cons_append, List.nil_append]
  refine Ev.pf rfl lp_B_init_25_5 ap_get0 rfl rfl ?_
  rw [ap_set0]
  refine Ev.go 2 rfl ?_
  refine Ev.na (t := 0) rfl rfl lac_0 rfl (by omega) ?_
  simp only [List.length_append, List.length_cons, List.length_nil, List.append_assoc, List.cons_append, List.nil_append]
  refine Ev.pf rfl lp_B_init_29_5 ap_get0 rfl rfl ?_
  rw [ap_set0]
  exact Ev.retv rfl
theorem e_B_init_6 (d : Nat) {h0 : sn_H} {ru : Nat} {v0 v1 v2 v3 v4 v5 : Value} {ex : List Value} (k m l : Int32) : Sp (d + 1) me_B_init [.ref h0.length, .int k, .int m, .int l, .ref ru] (h0 ++ [.inr (6, v0 :: v1 :: v2 :: v3 :: v4 :: v5 :: ex)]) none (h0 ++ [.inr (6, .int k :: .int m :: .int l :: .ref ru :: .ref (h0.length + 1) :: .ref (h0.length + 2) :: ex), zI 32, zI 32]) := by
  refine Sp.of ok_B_init trivial rfl ?_
  refine Ev.go 1 rfl ?_
  refine Ev.oi rfl lo_10_3 lo_i lo_c rfl ?_
  refine Ev.go 2 rfl ?_
  refine Ev.pf rfl lp_B_init_9_6 ap_get0 rfl rfl ?_
  rw [ap_set0]
  refine Ev.go 2 rfl ?_
  refine Ev.pf rfl lp_B_init_15_6 ap_get0 rfl rfl ?_
  rw [ap_set0]
  refine Ev.go 2 rfl ?_
  refine Ev.pf rfl lp_B_init_18_6 ap_get0 rfl rfl ?_
  rw [ap_set0]
  refine Ev.go 2 rfl ?_
  refine Ev.pf rfl lp_B_init_21_6 ap_get0 rfl rfl ?_
  rw [ap_set0]
  refine Ev.go 2 rfl ?_
  refine Ev.na (t := 0) rfl rfl lac_0 rfl (by omega) ?_
  simp only [List.length_append, List.length_cons, List.length_nil, List.append_assoc, List.cons_append, List.nil_append]
  refine Ev.pf rfl lp_B_init_25_6 ap_get0 rfl rfl ?_
  rw [ap_set0]
  refine Ev.go 2 rfl ?_
  refine Ev.na (t := 0) rfl rfl lac_0 rfl (by omega) ?_
  simp only [List.length_append, List.length_cons, List.length_nil, List.append_assoc, List.cons_append, List.nil_append]
  refine Ev.pf rfl lp_B_init_29_6 ap_get0 rfl rfl ?_
  rw [ap_set0]
  exact Ev.retv rfl
theorem e_B_init_7 (d : Nat) {h0 : sn_H} {ru : Nat} {v0 v1 v2 v3 v4 v5 : Value} {ex : List Value} (k m l : Int32) : Sp (d + 1) me_B_init [.ref h0.length, .int k, .int m, .int l, .ref ru] (h0 ++ [.inr (7, v0 :: v1 :: v2 :: v3 :: v4 :: v5 :: ex)]) none (h0 ++ [.inr (7, .int k :: .int m :: .int l :: .ref ru :: .ref (h0.length + 1) :: .ref (h0.length + 2) :: ex), zI 32, zI 32]) := by
  refine Sp.of ok_B_init trivial rfl ?_
  refine Ev.go 1 rfl ?_
  refine Ev.oi rfl lo_10_3 lo_i lo_c rfl ?_
  refine Ev.go 2 rfl ?_
  refine Ev.pf rfl lp_B_init_9_7 ap_get0 rfl rfl ?_
  rw [ap_set0]
  refine Ev.go 2 rfl ?_
  refine Ev.pf rfl lp_B_init_15_7 ap_get0 rfl rfl ?_
  rw [ap_set0]
  refine Ev.go 2 rfl ?_
  refine Ev.pf rfl lp_B_init_18_7 ap_get0 rfl rfl ?_
  rw [ap_set0]
  refine Ev.go 2 rfl ?_
  refine Ev.pf rfl lp_B_init_21_7 ap_get0 rfl rfl ?_
  rw [ap_set0]
  refine Ev.go 2 rfl ?_
  refine Ev.na (t := 0) rfl rfl lac_0 rfl (by omega) ?_
  simp only [List.length_append, List.length_cons, List.length_nil, List.append_assoc, List.cons_append, List.nil_append]
  refine Ev.pf rfl lp_B_init_25_7 ap_get0 rfl rfl ?_
  rw [ap_set0]
  refine Ev.go 2 rfl ?_
  refine Ev.na (t := 0) rfl rfl lac_0 rfl (by omega) ?_
  simp only [List.length_append, List.length_cons, List.length_nil, List.append_assoc, List.cons_append, List.nil_append]
  refine Ev.pf rfl lp_B_init_29_7 ap_get0 rfl rfl ?_
  rw [ap_set0]
  exact Ev.retv rfl
theorem e_B_init_8 (d : Nat) {h0 : sn_H} {ru : Nat} {v0 v1 v2 v3 v4 v5 : Value} {ex : List Value} (k m l : Int32) : Sp (d + 1) me_B_init [.ref h0.length, .int k, .int m, .int l, .ref ru] (h0 ++ [.inr (8, v0 :: v1 :: v2 :: v3 :: v4 :: v5 :: ex)]) none (h0 ++ [.inr (8, .int k :: .int m :: .int l :: .ref ru :: .ref (h0.length + 1) :: .ref (h0.length + 2) :: ex), zI 32, zI 32]) := by
  refine Sp.of ok_B_init trivial rfl ?_
  refine Ev.go 1 rfl ?_
  refine Ev.oi rfl lo_10_3 lo_i lo_c rfl ?_
  refine Ev.go 2 rfl ?_
  refine Ev.pf rfl lp_B_init_9_8 ap_get0 rfl rfl ?_
  rw [ap_set0]
  refine Ev.go 2 rfl ?_
  refine Ev.pf rfl lp_B_init_15_8 ap_get0 rfl rfl ?_
  rw [ap_set0]
  refine Ev.go 2 rfl ?_
  refine Ev.pf rfl lp_B_init_18_8 ap_get0 rfl rfl ?_
  rw [ap_set0]
  refine Ev.go 2 rfl ?_
  refine Ev.pf rfl lp_B_init_21_8 ap_get0 rfl rfl ?_
  rw [ap_set0]
  refine Ev.go 2 rfl ?_
  refine Ev.na (t := 0) rfl rfl lac_0 rfl (by omega) ?_
  simp only [List.length_append, List.length_cons, List.length_nil, List.append_assoc, List.cons_append, List.nil_append]
  refine Ev.pf rfl lp_B_init_25_8 ap_get0 rfl rfl ?_
  rw [ap_set0]
  refine Ev.go 2 rfl ?_
  refine Ev.na (t := 0) rfl rfl lac_0 rfl (by omega) ?_
  simp only [List.length_append, List.length_cons, List.length_nil, List.append_assoc, List.cons_append, List.nil_append]
  refine Ev.pf rfl lp_B_init_29_8 ap_get0 rfl rfl ?_
  rw [ap_set0]
  exact Ev.retv rfl
theorem e_P_init_3 (d : Nat) {h0 : sn_H} {ru : Nat} {v0 v1 v2 v3 v4 v5 : Value} {ex : List Value} (hp : 0 < h0.length) (k m l : Int32) : Sp (d + 2) me_P_init [.ref h0.length, .int k, .int m, .int l, .ref ru] (h0 ++ [.inr (3, v0 :: v1 :: v2 :: v3 :: v4 :: v5 :: ex)]) none (h0 ++ [.inr (3, .int k :: .int m :: .int l :: .ref ru :: .ref (h0.length + 1) :: .ref (h0.length + 2) :: ex), zI 32, zI 32]) := by
  refine Sp.of ok_P_init trivial rfl ?_
  refine Ev.go 5 rfl ?_
  refine Ev.ci (E' := me_B_init) rfl mk_B_init li_3_1 rfl hp rfl (e_B_init_3 d k m l) ?_
  exact Ev.retv rfl
theorem e_P_init_4 (d : Nat) {h0 : sn_H} {ru : Nat} {v0 v1 v2 v3 v4 v5 : Value} {ex : List Value} (hp : 0 < h0.length) (k m l : Int32) : Sp (d + 2) me_P_init [.ref h0.length, .int k, .int m, .int l, .ref ru] (h0 ++ [.inr (4, v0 :: v1 :: v2 :: v3 :: v4 :: v5 :: ex)]) none (h0 ++ [.inr (4, .int k :: .int m :: .int l :: .ref ru :: .ref (h0.length + 1) :: .ref (h0.length + 2) :: ex), zI 32, zI 32]) := by
  refine Sp.of ok_P_init trivial rfl ?_
  refine Ev.go 5 rfl ?_
  refine Ev.ci (E' := me_B_init) rfl mk_B_init li_3_1 rfl hp rfl (e_B_init_4 d k m l) ?_
  exact Ev.retv rfl
theorem e_P_init_5 (d : Nat) {h0 : sn_H} {ru : Nat} {v0 v1 v2 v3 v4 v5 : Value} {ex : List Value} (hp : 0 < h0.length) (k m l : Int32) : Sp (d + 2) me_P_init [.ref h0.length, .int k, .int m, .int l, .ref ru] (h0 ++ [.inr (5, v0 :: v1 :: v2 :: v3 :: v4 :: v5 :: ex)]) none (h0 ++ [.inr (5, .int k :: .int m :: .int l :: .ref ru :: .ref (h0.length + 1) :: .ref (h0.length + 2) :: ex), zI 32, zI 32]) := by
  refine Sp.of ok_P_init trivial rfl ?_
  refine Ev.go 5 rfl ?_
  refine Ev.ci (E' := me_B_init) rfl mk_B_init li_3_1 rfl hp rfl (e_B_init_5 d k m l) ?_
  exact Ev.retv rfl
theorem e_P_init_7 (d : Nat) {h0 : sn_H} {ru : Nat} {v0 v1 v2 v3 v4 v5 : Value} {ex : List Value} (hp : 0 < h0.length) (k m l : Int32) : Sp (d + 2) me_P_init [.ref h0.length, .int k, .int m, .int l, .ref ru] (h0 ++ [.inr (7, v0 :: v1 :: v2 :: v3 :: v4 :: v5 :: ex)]) none (h0 ++ [.inr (7, .int k :: .int m :: .int l :: .ref ru :: .ref (h0.length + 1) :: .ref (h0.length + 2) :: ex), zI 32, zI 32]) := by
  refine Sp.of ok_P_init trivial rfl ?_
  refine Ev.go 5 rfl ?_
  refine Ev.ci (E' := me_B_init) rfl mk_B_init li_3_1 rfl hp rfl (e_B_init_7 d k m l) ?_
  exact Ev.retv rfl
theorem e_P_init_8 (d : Nat) {h0 : sn_H} {ru : Nat} {v0 v1 v2 v3 v4 v5 : Value} {ex : List Value} (hp : 0 < h0.length) (k m l : Int32) : Sp (d + 2) me_P_init [.ref h0.length, .int k, .int m, .int l, .ref ru] (h0 ++ [.inr (8, v0 :: v1 :: v2 :: v3 :: v4 :: v5 :: ex)]) none (h0 ++ [.inr (8, .int k :: .int m :: .int l :: .ref ru :: .ref (h0.length + 1) :: .ref (h0.length + 2) :: ex), zI 32, zI 32]) := by
  refine Sp.of ok_P_init trivial rfl ?_
  refine Ev.go 5 rfl ?_
  refine Ev.ci (E' := me_B_init) rfl mk_B_init li_3_1 rfl hp rfl (e_B_init_8 d k m l) ?_
  exact Ev.retv rfl
theorem e_A_init_5 (d : Nat) {h0 : sn_H} {ru : Nat} {v0 v1 v2 v3 v4 v5 : Value} {ex : List Value} (hp : 0 < h0.length) (k m l : Int32) : Sp (d + 3) me_A_init [.ref h0.length, .int k, .int m, .int l, .ref ru] (h0 ++ [.inr (5, v0 :: v1 :: v2 :: v3 :: v4 :: v5 :: ex)]) none (h0 ++ [.inr (5, .int k :: .int m :: .int l :: .ref ru :: .ref (h0.length + 1) :: .ref (h0.length + 2) :: ex), zI 32, zI 32]) := by
  refine Sp.of ok_A_init trivial rfl ?_
  refine Ev.go 5 rfl ?_
  refine Ev.ci (E' := me_P_init) rfl mk_P_init li_5_1 rfl hp rfl (e_P_init_5 d hp k m l) ?_
  exact Ev.retv rfl
theorem e_A_init_7 (d : Nat) {h0 : sn_H} {ru : Nat} {v0 v1 v2 v3 v4 v5 : Value} {ex : List Value} (hp : 0 < h0.length) (k m l : Int32) : Sp (d + 3) me_A_init [.ref h0.length, .int k, .int m, .int l, .ref ru] (h0 ++ [.inr (7, v0 :: v1 :: v2 :: v3 :: v4 :: v5 :: ex)]) none (h0 ++ [.inr (7, .int k :: .int m :: .int l :: .ref ru :: .ref (h0.length + 1) :: .ref (h0.length + 2) :: ex), zI 32, zI 32]) := by
  refine Sp.of ok_A_init trivial rfl ?_
  refine Ev.go 5 rfl ?_
  refine Ev.ci (E' := me_P_init) rfl mk_P_init li_5_1 rfl hp rfl (e_P_init_7 d hp k m l) ?_
  exact Ev.retv rfl
theorem e_C_init (d : Nat) {h0 : sn_H} {ru : Nat} {v0 v1 v2 v3 v4 v5 : Value} {ex : List Value} (hp : 0 < h0.length) (m l : Int32) : Sp (d + 3) me_C_init [.ref h0.length, .int m, .int l, .ref ru] (h0 ++ [.inr (4, v0 :: v1 :: v2 :: v3 :: v4 :: v5 :: ex)]) none (h0 ++ [.inr (4, .int (nI 1) :: .int m :: .int l :: .ref ru :: .ref (h0.length + 1) :: .ref (h0.length + 2) :: ex), zI 32, zI 32]) := by
  refine Sp.of ok_C_init trivial rfl ?_
  refine Ev.go 5 rfl ?_
  refine Ev.ci (E' := me_P_init) rfl mk_P_init li_4_3 rfl hp rfl (e_P_init_4 d hp _ m l) ?_
  exact Ev.retv rfl
theorem e_U_init (d : Nat) {h0 : sn_H} {ru : Nat} {v0 v1 v2 v3 v4 v5 : Value} {v6 v7 v8 v9 : Value} (hp : 0 < h0.length) (m l : Int32) : Sp (d + 2) me_U_init [.ref h0.length, .int m, .int l, .ref ru] (h0 ++ [.inr (6, v0 :: v1 :: v2 :: v3 :: v4 :: v5 :: [v6, v7, v8, v9])]) none (h0 ++ [.inr (6, .int (nI 3) :: .int m :: .int l :: .ref ru :: .ref (h0.length + 1) :: .ref (h0.length + 2) :: [.ref (h0.length + 3), .ref (h0.length + 4), .ref (h0.length + 5), .ref (h0.length + 6)]), zI 32, zI 32, zI 32, zI 32, zI 6, zI 32]) := by
  refine Sp.of ok_U_init trivial rfl ?_
  refine Ev.go 5 rfl ?_
  refine Ev.ci (E' := me_B_init) rfl mk_B_init li_6_3 rfl hp rfl (e_B_init_6 d _ m l) ?_
  refine Ev.go 2 rfl ?_
  refine Ev.na (t := 0) rfl rfl lac_0 rfl (by omega) ?_
  simp only [List.length_append, List.length_cons, List.length_nil, List.append_assoc, List.cons_append, List.nil_append]
  refine Ev.pf rfl lp_U_init_9_6 ap_get0 rfl rfl ?_
  rw [ap_set0]
  refine Ev.go 2 rfl ?_
  refine Ev.na (t := 0) rfl rfl lac_0 rfl (by omega) ?_
  simp only [List.length_append, List.length_cons, List.length_nil, List.append_assoc, List.cons_append, List.nil_append]
  refine Ev.pf rfl lp_U_init_15_6 ap_get0 rfl rfl ?_
  rw [ap_set0]
  refine Ev.go 2 rfl ?_
  refine Ev.na (t := 0) rfl rfl lac_0 rfl (by omega) ?_
  simp only [List.length_append, List.length_cons, List.length_nil, List.append_assoc, List.cons_append, List.nil_append]
  refine Ev.pf rfl lp_U_init_18_6 ap_get0 rfl rfl ?_
  rw [ap_set0]
  refine Ev.go 2 rfl ?_
  refine Ev.na (t := 0) rfl rfl lac_0 rfl (by omega) ?_
  simp only [List.length_append, List.length_cons, List.length_nil, List.append_assoc, List.cons_append, List.nil_append]
  refine Ev.pf rfl lp_U_init_21_6 ap_get0 rfl rfl ?_
  rw [ap_set0]
  exact Ev.retv rfl
theorem e_F_init (d : Nat) {h0 : sn_H} {ru : Nat} {v0 v1 v2 v3 v4 v5 : Value} {v6 v7 v8 : Value} (hp : 0 < h0.length) (m l : Int32) : Sp (d + 4) me_F_init [.ref h0.length, .int m, .int l, .ref ru] (h0 ++ [.inr (7, v0 :: v1 :: v2 :: v3 :: v4 :: v5 :: [v6, v7, v8])]) none (h0 ++ [.inr (7, .int (nI 4) :: .int m :: .int l :: .ref ru :: .ref (h0.length + 1) :: .ref (h0.length + 2) :: [.ref (h0.length + 3), .ref (h0.length + 4), .ref (h0.length + 5)]), zI 32, zI 32, zJ 32, zI 32, zI 32]) := by
  refine Sp.of ok_F_init trivial rfl ?_
  refine Ev.go 5 rfl ?_
  refine Ev.ci (E' := me_A_init) rfl mk_A_init li_7_3 rfl hp rfl (e_A_init_7 d hp _ m l) ?_
  refine Ev.go 2 rfl ?_
  refine Ev.na (t := 1) rfl rfl lac_1 rfl (by omega) ?_
  simp only [List.length_append, List.length_cons, List.length_nil, List.append_assoc, List.cons_append, List.nil_append]
  refine Ev.pf rfl lp_F_init_9_7 ap_get0 rfl rfl ?_
  rw [ap_set0]
  refine Ev.go 2 rfl ?_
  refine Ev.na (t := 0) rfl rfl lac_0 rfl (by omega) ?_
  simp only [List.length_append, List.length_cons, List.length_nil, List.append_assoc, List.cons_append, List.nil_append]
  refine Ev.pf rfl lp_F_init_15_7 ap_get0 rfl rfl ?_
  rw [ap_set0]
  refine Ev.go 2 rfl ?_
  refine Ev.na (t := 0) rfl rfl lac_0 rfl (by omega) ?_
  simp only [List.length_append, List.length_cons, List.length_nil, List.append_assoc, List.cons_append, List.nil_append]
  refine Ev.pf rfl lp_F_init_19_7 ap_get0 rfl rfl ?_
  rw [ap_set0]
  exact Ev.retv rfl
theorem e_L_init (d : Nat) {h0 : sn_H} {ru : Nat} {v0 v1 v2 v3 v4 v5 : Value} {v6 v7 v8 : Value} (hp : 0 < h0.length) (m l : Int32) : Sp (d + 3) me_L_init [.ref h0.length, .int m, .int l, .ref ru] (h0 ++ [.inr (8, v0 :: v1 :: v2 :: v3 :: v4 :: v5 :: [v6, v7, v8])]) none (h0 ++ [.inr (8, .int (nI 5) :: .int m :: .int l :: .ref ru :: .ref (h0.length + 1) :: .ref (h0.length + 2) :: [.ref (h0.length + 3), .ref (h0.length + 4), .int (nI 0)]), zI 32, zI 32, zJ 6, zJ 6]) := by
  refine Sp.of ok_L_init trivial rfl ?_
  refine Ev.go 5 rfl ?_
  refine Ev.ci (E' := me_P_init) rfl mk_P_init li_8_3 rfl hp rfl (e_P_init_8 d hp _ m l) ?_
  refine Ev.go 2 rfl ?_
  refine Ev.na (t := 1) rfl rfl lac_1 rfl (by omega) ?_
  simp only [List.length_append, List.length_cons, List.length_nil, List.append_assoc, List.cons_append, List.nil_append]
  refine Ev.pf rfl lp_L_init_11_8 ap_get0 rfl rfl ?_
  rw [ap_set0]
  refine Ev.go 2 rfl ?_
  refine Ev.na (t := 1) rfl rfl lac_1 rfl (by omega) ?_
  simp only [List.length_append, List.length_cons, List.length_nil, List.append_assoc, List.cons_append, List.nil_append]
  refine Ev.pf rfl lp_L_init_15_8 ap_get0 rfl rfl ?_
  rw [ap_set0]
  refine Ev.go 2 rfl ?_
  refine Ev.pf rfl lp_L_init_18_8 ap_get0 rfl rfl ?_
  rw [ap_set0]
  exact Ev.retv rfl
/-- the cells of a new book -/
def nbc (k m l ru n : Nat) : sn_H := match k with
  | 3 => [.inr (6, bfs (nbk 3 m l) n ru [.ref (n + 3), .ref (n + 4), .ref (n + 5), .ref (n + 6)]), zI 32, zI 32, zI 32, zI 32, zI 6, zI 32]
  | 4 => [.inr (7, bfs (nbk 4 m l) n ru [.ref (n + 3), .ref (n + 4), .ref (n + 5)]), zI 32, zI 32, zJ 32, zI 32, zI 32]
  | 5 => [.inr (8, bfs (nbk 5 m l) n ru [.ref (n + 3), .ref (n + 4), .int (nI 0)]), zI 32, zI 32, zJ 6, zJ 6]
  | k => [.inr (k + 3, bfs (nbk k m l) n ru []), zI 32, zI 32]
theorem e_X_newBook (d : Nat) {h : sn_H} {k m l ru : Nat} {kv mv lv : Int32} (e1 : kv = nI k) (e2 : mv = nI m) (e3 : lv = nI l) (hk : k < 6) (hp : 0 < h.length) : Sp (d + 5) me_X_newBook [.int kv, .int mv, .int lv, .ref ru] h (some (.ref h.length)) (h ++ nbc k m l ru h.length) := by
  subst e1; subst e2; subst e3
  refine Sp.of ok_X_newBook trivial rfl ?_
  refine Ev.go 1 rfl ?_
  have hk4 : k = 0 ∨ k = 1 ∨ k = 2 ∨ k = 3 ∨ k = 4 ∨ k = 5 := by omega
  rcases hk4 with rfl | rfl | rfl | rfl | rfl | rfl
  · refine Ev.p rfl rfl trivial ?_
    refine Ev.nw rfl lc_0_267 ?_
    refine Ev.go 5 rfl ?_
    refine Ev.ci (E' := me_P_init) rfl mk_P_init li_0_283 rfl hp rfl (e_P_init_3 (d + 2) hp _ _ _) ?_
    exact Ev.reta rfl (rfl)
  · refine Ev.p rfl rfl trivial ?_
    refine Ev.nw rfl lc_0_269 ?_
    refine Ev.go 4 rfl ?_
    refine Ev.ci (E' := me_C_init) rfl mk_C_init li_0_286 rfl hp rfl (e_C_init (d + 1) hp _ _) ?_
    exact Ev.reta rfl (rfl)
  · refine Ev.p rfl rfl trivial ?_
    refine Ev.nw rfl lc_0_271 ?_
    refine Ev.go 5 rfl ?_
    refine Ev.ci (E' := me_A_init) rfl mk_A_init li_0_289 rfl hp rfl (e_A_init_5 (d + 1) hp _ _ _) ?_
    exact Ev.reta rfl (rfl)
  · refine Ev.p rfl rfl trivial ?_
    refine Ev.nw rfl lc_0_234 ?_
    refine Ev.go 4 rfl ?_
    refine Ev.ci (E' := me_U_init) rfl mk_U_init li_0_290 rfl hp rfl (e_U_init (d + 2) hp _ _) ?_
    exact Ev.reta rfl (rfl)
  · refine Ev.p rfl rfl trivial ?_
    refine Ev.nw rfl lc_0_273 ?_
    refine Ev.go 4 rfl ?_
    refine Ev.ci (E' := me_F_init) rfl mk_F_init li_0_291 rfl hp rfl (e_F_init d hp _ _) ?_
    exact Ev.reta rfl (rfl)
  · refine Ev.swo rfl rfl (by decide) rfl ?_
    refine Ev.nw rfl lc_0_275 ?_
    refine Ev.go 4 rfl ?_
    refine Ev.ci (E' := me_L_init) rfl mk_L_init li_0_292 rfl hp rfl (e_L_init (d + 1) hp _ _) ?_
    exact Ev.reta rfl (rfl)
