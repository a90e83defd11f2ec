/-! THE LAW: its loop -/
theorem law_sw (x : Int32) : ∃ k, k < 32 ∧ x &&& nI 31 = nI k := by
  refine ⟨x.toBitVec.toNat % 32, Nat.mod_lt _ (by omega), ?_⟩
  apply Int32.toBitVec_inj.1
  apply BitVec.eq_of_toNat_eq
  rw [Int32.toBitVec_and, BitVec.toNat_and]
  have e1 : (nI 31).toBitVec.toNat = 2 ^ 5 - 1 := by decide +kernel
  have e2 : (nI (x.toBitVec.toNat % 32)).toBitVec.toNat = (x.toBitVec.toNat % 32) % 2 ^ 32 := rfl
  rw [e1, e2, Nat.and_two_pow_sub_one_eq_mod]
  omega
theorem law_le {L i : Nat} (hL : L ≤ 3072) (hi : i ≤ 3078) (c : ¬ (nI L - nI 6 < nI i)) : i + 6 ≤ L := by
  apply Classical.byContradiction
  intro z
  apply c
  rw [Int32.lt_iff_toInt_lt, Int32.toInt_sub, nI_toInt (by omega), nI_toInt (by omega), nI_toInt (by omega), Int.bmod_eq_of_le (by omega) (by omega)]
  omega
theorem EvP.impl {Ω : sn_O} {d : Nat} {E : sn_E} {pc : Nat} {lv st : List Value} {h : sn_H} {P P' : Option Value → sn_H → Prop} (K : EvP Ω d E pc lv st h P) (i : ∀ r h', P r h' → P' r h') : EvP Ω d E pc lv st h P' := by
  obtain ⟨r, h', e, q⟩ := K
  exact ⟨r, h', e, i r h' q⟩
def PLaw (h : sn_H) (n : Nat) (r : Option Value) (h' : sn_H) : Prop := r = some (.int 1) ∧ h'.length ≤ h.length + 10 * n ∧ sn_hs h' ≤ sn_hs h + 5000 * n
theorem PLaw.nil (h : sn_H) (n : Nat) : PLaw h n (some (.int 1)) h := ⟨rfl, by omega, by omega⟩
theorem PLaw.step {h h1 h' : sn_H} {n : Nat} {r : Option Value} (g : GB h h1) (q : PLaw h1 n r h') : PLaw h (n + 1) r h' := by
  obtain ⟨g1, g2⟩ := g
  obtain ⟨q1, q2, q3⟩ := q
  exact ⟨q1, by omega, by omega⟩
set_option maxRecDepth 100000 in
theorem law_step {L : Nat} {xs : Nat → Int32} {i : Nat} (hL : L ≤ 3072) (hi : i ≤ 3078) {P : Option Value → sn_H → Prop} {h : sn_H} {μ : sn_S} (q : LI h μ) (D : P (some (.int 1)) h) (C : i + 6 ≤ L → ∀ h1 μ1, LI h1 μ1 → GB h h1 → EvP (oL L xs) 21 me_Law 1208 [.ref 0, .ref 1, .ref 5, .int (nI i)] [] h1 P) : EvP (oL L xs) 21 me_Law 18 [.ref 0, .ref 1, .ref 5, .int (nI i)] [] h P := by
  obtain ⟨x, A, B, t, rfl, q, m⟩ := q
  refine EvP.s (fun _ _ K => Ev.go 2 rfl K) ?_
  refine EvP.s (fun _ _ K => Ev.sln rfl K) ?_
  refine EvP.s (fun _ _ K => Ev.go 2 rfl K) ?_
  refine EvP.br rfl rfl (fun c => ?_) (fun c => ?_)
  · refine EvP.s (fun _ _ K => Ev.go 1 rfl K) ?_
    exact ⟨some (.int 1), _, Ev.reti rfl (by decide +kernel), D⟩
  · have hj : i + 6 ≤ L := law_le hL hi c
    replace C := C hj
    refine EvP.s (fun _ _ K => Ev.go 2 rfl K) ?_
    refine EvP.s (fun _ _ K => Ev.sld rfl rfl (by omega) (by omega) K) ?_
    refine EvP.s (fun _ _ K => Ev.go 2 rfl K) ?_
    obtain ⟨k, hk, e⟩ := law_sw (xs i)
    rw [e]
    have h3 : k = 0 ∨ k = 1 ∨ k = 2 ∨ k = 3 ∨ k = 4 ∨ k = 5 ∨ k = 6 ∨ k = 7 ∨ k = 8 ∨ k = 9 ∨ k = 10 ∨ k = 11 ∨ k = 12 ∨ k = 13 ∨ k = 14 ∨ k = 15 ∨ k = 16 ∨ k = 17 ∨ k = 18 ∨ k = 19 ∨ k = 20 ∨ k = 21 ∨ k = 22 ∨ k = 23 ∨ k = 24 ∨ k = 25 ∨ k = 26 ∨ k = 27 ∨ k = 28 ∨ k = 29 ∨ k = 30 ∨ k = 31 := by omega
    rcases h3 with rfl | rfl | rfl | rfl | rfl | rfl | rfl | rfl | rfl | rfl | rfl | rfl | rfl | rfl | rfl | rfl | rfl | rfl | rfl | rfl | rfl | rfl | rfl | rfl | rfl | rfl | rfl | rfl | rfl | rfl | rfl | rfl
    · refine EvP.s (fun _ _ K => Ev.p (pc' := 144) rfl rfl trivial K) ?_
      exact k_law hj hL q m C
    · refine EvP.s (fun _ _ K => Ev.p (pc' := 177) rfl rfl trivial K) ?_
      exact k_value hj hL q m C
    · refine EvP.s (fun _ _ K => Ev.p (pc' := 210) rfl rfl trivial K) ?_
      exact k_odds hj hL q m C
    · refine EvP.s (fun _ _ K => Ev.p (pc' := 293) rfl rfl trivial K) ?_
      exact k_best hj hL q m C
    · refine EvP.s (fun _ _ K => Ev.p (pc' := 366) rfl rfl trivial K) ?_
      exact k_fewest hj hL q m C
    · refine EvP.s (fun _ _ K => Ev.p (pc' := 439) rfl rfl trivial K) ?_
      exact k_book hj hL q m C
    · refine EvP.s (fun _ _ K => Ev.p (pc' := 482) rfl rfl trivial K) ?_
      exact k_as hj hL q m C
    · refine EvP.s (fun _ _ K => Ev.p (pc' := 515) rfl rfl trivial K) ?_
      exact k_about hj hL q m C
    · refine EvP.s (fun _ _ K => Ev.p (pc' := 548) rfl rfl trivial K) ?_
      exact k_at hj hL q m C
    · refine EvP.s (fun _ _ K => Ev.p (pc' := 581) rfl rfl trivial K) ?_
      exact k_row hj hL q m C
    · refine EvP.s (fun _ _ K => Ev.p (pc' := 615) rfl rfl trivial K) ?_
      exact k_places hj hL q m C
    · refine EvP.s (fun _ _ K => Ev.p (pc' := 649) rfl rfl trivial K) ?_
      exact k_put hj hL q m C
    · refine EvP.s (fun _ _ K => Ev.p (pc' := 682) rfl rfl trivial K) ?_
      exact k_take hj hL q m C
    · refine EvP.s (fun _ _ K => Ev.p (pc' := 715) rfl rfl trivial K) ?_
      exact k_build hj hL q m C
    · refine EvP.s (fun _ _ K => Ev.p (pc' := 818) rfl rfl trivial K) ?_
      exact k_real hj hL q m C
    · refine EvP.s (fun _ _ K => Ev.p (pc' := 851) rfl rfl trivial K) ?_
      exact k_keys hj hL q m C
    · refine EvP.s (fun _ _ K => Ev.p (pc' := 885) rfl rfl trivial K) ?_
      exact k_join hj hL q m C
    · refine EvP.s (fun _ _ K => Ev.p (pc' := 944) rfl rfl trivial K) ?_
      exact k_halve hj hL q m C
    · refine EvP.s (fun _ _ K => Ev.p (pc' := 967) rfl rfl trivial K) ?_
      exact k_spoil hj hL q m C
    · refine EvP.s (fun _ _ K => Ev.p (pc' := 1001) rfl rfl trivial K) ?_
      exact k_made hj hL q m C
    · refine EvP.s (fun _ _ K => Ev.p (pc' := 1035) rfl rfl trivial K) ?_
      exact k_order hj hL q m C
    · refine EvP.s (fun _ _ K => Ev.p (pc' := 1108) rfl rfl trivial K) ?_
      exact k_most hj hL q m C
    · refine EvP.s (fun _ _ K => Ev.p (pc' := 1171) rfl rfl trivial K) ?_
      exact k_count hj hL q m C
    · refine EvP.s (fun _ _ K => Ev.p (pc' := 1194) rfl rfl trivial K) ?_
      exact k_digest hj hL q m C
    · refine EvP.s (fun _ _ K => Ev.swo (p2 := 1208) rfl rfl (by decide +kernel) rfl K) ?_
      exact C _ _ ⟨_, _, _, _, rfl, q, m⟩ (GB.refl _)
    · refine EvP.s (fun _ _ K => Ev.swo (p2 := 1208) rfl rfl (by decide +kernel) rfl K) ?_
      exact C _ _ ⟨_, _, _, _, rfl, q, m⟩ (GB.refl _)
    · refine EvP.s (fun _ _ K => Ev.swo (p2 := 1208) rfl rfl (by decide +kernel) rfl K) ?_
      exact C _ _ ⟨_, _, _, _, rfl, q, m⟩ (GB.refl _)
    · refine EvP.s (fun _ _ K => Ev.swo (p2 := 1208) rfl rfl (by decide +kernel) rfl K) ?_
      exact C _ _ ⟨_, _, _, _, rfl, q, m⟩ (GB.refl _)
    · refine EvP.s (fun _ _ K => Ev.swo (p2 := 1208) rfl rfl (by decide +kernel) rfl K) ?_
      exact C _ _ ⟨_, _, _, _, rfl, q, m⟩ (GB.refl _)
    · refine EvP.s (fun _ _ K => Ev.swo (p2 := 1208) rfl rfl (by decide +kernel) rfl K) ?_
      exact C _ _ ⟨_, _, _, _, rfl, q, m⟩ (GB.refl _)
    · refine EvP.s (fun _ _ K => Ev.swo (p2 := 1208) rfl rfl (by decide +kernel) rfl K) ?_
      exact C _ _ ⟨_, _, _, _, rfl, q, m⟩ (GB.refl _)
    · refine EvP.s (fun _ _ K => Ev.swo (p2 := 1208) rfl rfl (by decide +kernel) rfl K) ?_
      exact C _ _ ⟨_, _, _, _, rfl, q, m⟩ (GB.refl _)
set_option maxRecDepth 100000 in
theorem law_loop {L : Nat} {xs : Nat → Int32} (hL : L ≤ 3072) (n : Nat) : ∀ (i : Nat) (h : sn_H) (μ : sn_S), L < i + 6 * n + 6 → i ≤ 3078 → LI h μ → EvP (oL L xs) 21 me_Law 18 [.ref 0, .ref 1, .ref 5, .int (nI i)] [] h (PLaw h n) := by
  induction n with
  | zero =>
    intro i h μ h1 h2 q
    exact law_step hL h2 q (PLaw.nil h 0) (fun hi => absurd hi (by omega))
  | succ n ih =>
    intro i h μ h1 h2 q
    refine law_step hL h2 q (PLaw.nil h (n + 1)) (fun hi h3 μ1 q1 g => ?_)
    refine EvP.s (fun _ _ K => Ev.go 2 rfl K) ?_
    rw [nI_add]
    exact (ih (i + 6) h3 μ1 (by omega) (by omega) q1).impl (fun _ _ z => z.step g)
/-- nothing told yet -/
def mu0 : sn_S := ((0, fun _ => 0, fun _ => 0), 0, fun _ => (0, 0, 0, fun _ => 0, fun _ => 0, 0, fun _ => 0))
def x0 : sn_X5 := (sn_c0, .inr (0, [.ref 2, .int (nI 0), .ref 3, .int (nI 0), .ref 4, .null]), .inl (3, 8, .inr (.inr (.inr (.inr fun _ => none)))), .inl (4, 8, .inr (.inr (.inr (.inr fun _ => none)))), sn_nac 1 32)
theorem ws0 : WS mu0 := ⟨⟨Nat.zero_le _, fun l hl => absurd hl (Nat.not_lt_zero _)⟩, Nat.zero_le _, fun k hk => absurd hk (Nat.not_lt_zero _)⟩
theorem li0 : LI (hp x0 (fun _ _ => 0) (fun _ _ => 0) []) mu0 :=
  ⟨x0, _, _, [], rfl, ⟨ws0, fun _ => none, fun _ => none, fun _ => 0, fun _ => 0, .null, rfl, rfl, rfl, ⟨fun _ => 0, rfl⟩, Or.inl rfl, fun l hl => absurd hl (Nat.not_lt_zero _), fun k hk => absurd hk (Nat.not_lt_zero _), fun j k _ hk => absurd hk (Nat.not_lt_zero _)⟩, ws0, ⟨nI_0.symm, fun l hl => absurd hl (Nat.not_lt_zero _)⟩, nI_0.symm, fun k hk => absurd hk (Nat.not_lt_zero _)⟩
set_option maxRecDepth 100000 in
theorem law_all {L : Nat} {xs : Nat → Int32} (hL : L ≤ 3072) : EvP (oL L xs) 21 me_Law 0 [.ref 0, .retAddr 0, .retAddr 0, .retAddr 0] [] [sn_c0] (fun r h' => r = some (.int 1) ∧ h'.length ≤ 6000 ∧ sn_hs h' ≤ 3000000) := by
  refine EvP.s (fun _ _ K => Ev.nw rfl lc_11_7 K) ?_
  refine EvP.s (fun _ _ K => Ev.go 1 rfl K) ?_
  refine EvP.s (fun _ _ K => Ev.ci (E' := me_X_init) rfl mk_X_init li_11_9 rfl (Nat.succ_pos _) rfl (e_X_init 19 sn_c0) K) ?_
  refine EvP.s (fun _ _ K => Ev.go 1 rfl K) ?_
  refine EvP.s (fun _ _ K => Ev.nw rfl lc_11_10 K) ?_
  refine EvP.s (fun _ _ K => Ev.go 1 rfl K) ?_
  refine EvP.s (fun _ _ K => Ev.ci (E' := me_M_init) rfl mk_M_init li_11_12 rfl (Nat.succ_pos _) rfl (e_M_init 19 x0) K) ?_
  refine EvP.s (fun _ _ K => Ev.go 3 rfl K) ?_
  have e : sn_hs (hp x0 (fun _ _ => 0) (fun _ _ => 0) []) = 9122 := rfl
  refine (law_loop hL 512 0 _ mu0 (by omega) (by omega) li0).impl (fun r h' z => ?_)
  obtain ⟨z1, z2, z3⟩ := z
  rw [e] at z3
  rw [hp_len] at z2
  exact ⟨z1, by simp only [List.length_nil] at z2; omega, by omega⟩
