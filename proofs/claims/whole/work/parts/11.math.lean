/-! Math.max, Math.min -/
section EV
variable {Ω : sn_O} {d : Nat} {E : sn_E} {pc : Nat} {lv rest st : List Value} {h h' : sn_H} {r : Option Value} {len nx tg : Nat}
theorem Ev.mx {idx : Nat} {x y : Int32} (hi : sn_tg E.2.1 pc = some (.invokestatic idx, len, nx, tg)) (lk : Cond.methodLink (sn_rn E.1) idx ⟨"java/lang/Math", "max", "(II)I"⟩ ∈ sn_gw) (hct : Nat.ble (sn_cts rest) 8 = true) (K : Ev Ω (d + 1) E nx lv (.int (if x < y then y else x) :: rest) h r h') : Ev Ω (d + 1) E pc lv (.int y :: .int x :: rest) h r h' := by
  refine Ev.gen 0 0 rfl rfl (fun γ κ mc ms Q n k kf om a b K => ?_) K
  intro H locs ls hR hl hS
  obtain ⟨hx, hb, hml, hown, hts, hGK, hsz, hlk, hrt, hT, hrm, hnm⟩ := kf
  obtain ⟨p, l, e, R, s, m, args, below, meth, c⟩ := κ
  obtain ⟨hd, hj⟩ := hT _ (sn_tg_mem hi)
  have hnx := sn_jok_nx hj
  have hn := sn_jok_len hj (by simp [sn_len])
  subst hn; subst hnx
  dsimp only at *
  exact va_mmax hx hb (by rw [hml]; exact hl.1.symm) hown (hts _ lk) (hts _ tw_398) (hts _ tw_13) (hts _ tw_399) (by omega) (by rw [sn_cat, sn_cts_eq]; have := Nat.le_of_ble_eq_true hct; omega) (Nat.le_trans a hrm.2.2.1) (Nat.le_trans b hrm.2.2.2) hd (K H locs ls hR hl hS)
theorem Ev.mn {idx : Nat} {x y : Int32} (hi : sn_tg E.2.1 pc = some (.invokestatic idx, len, nx, tg)) (lk : Cond.methodLink (sn_rn E.1) idx ⟨"java/lang/Math", "min", "(II)I"⟩ ∈ sn_gw) (hct : Nat.ble (sn_cts rest) 8 = true) (K : Ev Ω (d + 1) E nx lv (.int (if y < x then y else x) :: rest) h r h') : Ev Ω (d + 1) E pc lv (.int y :: .int x :: rest) h r h' := by
  refine Ev.gen 0 0 rfl rfl (fun γ κ mc ms Q n k kf om a b K => ?_) K
  intro H locs ls hR hl hS
  obtain ⟨hx, hb, hml, hown, hts, hGK, hsz, hlk, hrt, hT, hrm, hnm⟩ := kf
  obtain ⟨p, l, e, R, s, m, args, below, meth, c⟩ := κ
  obtain ⟨hd, hj⟩ := hT _ (sn_tg_mem hi)
  have hnx := sn_jok_nx hj
  have hn := sn_jok_len hj (by simp [sn_len])
  subst hn; subst hnx
  dsimp only at *
  exact va_mmin hx hb (by rw [hml]; exact hl.1.symm) hown (hts _ lk) (hts _ tw_635) (hts _ tw_13) (hts _ tw_636) (by omega) (by rw [sn_cat, sn_cts_eq]; have := Nat.le_of_ble_eq_true hct; omega) (Nat.le_trans a hrm.2.2.1) (Nat.le_trans b hrm.2.2.2) hd (K H locs ls hR hl hS)
theorem Ev.mnl {idx : Nat} {x y : Int64} (hi : sn_tg E.2.1 pc = some (.invokestatic idx, len, nx, tg)) (lk : Cond.methodLink (sn_rn E.1) idx ⟨"java/lang/Math", "min", "(JJ)J"⟩ ∈ sn_gw) (hct : Nat.ble (sn_cts rest) 8 = true) (K : Ev Ω (d + 1) E nx lv (.long (if y < x then y else x) :: rest) h r h') : Ev Ω (d + 1) E pc lv (.long y :: .long x :: rest) h r h' := by
  refine Ev.gen 0 0 rfl rfl (fun γ κ mc ms Q n k kf om a b K => ?_) K
  intro H locs ls hR hl hS
  obtain ⟨hx, hb, hml, hown, hts, hGK, hsz, hlk, hrt, hT, hrm, hnm⟩ := kf
  obtain ⟨p, l, e, R, s, m, args, below, meth, c⟩ := κ
  obtain ⟨hd, hj⟩ := hT _ (sn_tg_mem hi)
  have hnx := sn_jok_nx hj
  have hn := sn_jok_len hj (by simp [sn_len])
  subst hn; subst hnx
  dsimp only at *
  exact va_mmin_long hx hb (by rw [hml]; exact hl.1.symm) hown (hts _ lk) (hts _ tw_695) (hts _ tw_13) (hts _ tw_696) (by omega) (by rw [sn_cat, sn_cts_eq]; have := Nat.le_of_ble_eq_true hct; omega) (Nat.le_trans a hrm.2.2.1) (Nat.le_trans b hrm.2.2.2) hd (K H locs ls hR hl hS)
end EV
