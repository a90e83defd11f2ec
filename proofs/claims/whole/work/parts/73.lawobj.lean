/-! THE LAW: its script, its two objects -/
section AW
variable {γ : sn_G} {κ : sn_K} {o : Nat} {tab : sn_Tb} {M : sn_Md} {d mc ms : Nat} {Q : State → Prop} {h : sn_H} {pc : Nat} {lv rest : List Value} {n k : Nat} {len nx tg : Nat}
theorem sn_awPutN (kf : sn_KF γ κ o tab M d mc ms) {idx : Nat} (hi : (pc, .putfield idx, len, nx, tg) ∈ tab) {ci j a : Nat} {fs : List Value} {v : Value} (lk : sn_LP o idx ci j M) (ha : h[a]? = some (.inr (ci, fs))) (hfl : j < fs.length) (hty : ∀ γ : sn_G, narrow (sn_cty ci j) (sn_tr γ v) = sn_tr γ v ∧ Jvm.fits (sn_cty ci j) (sn_tr γ v) = true) (K : sn_AW γ κ M.2.2.1 Q (h.set a (.inr (ci, fs.set j v))) nx lv rest n k) : sn_AW γ κ M.2.2.1 Q h pc lv (v :: .ref a :: rest) n k := by
  intro H locs ls hR hl hS
  have sm := fun {ref own n ds : String} h => sn_same (ref := ref) (own := own) (n := n) (ds := ds) kf h
  obtain ⟨hx, hb, hml, hown, hts, hGK, hsz, hlk, hrt, hT, hrm, hnm⟩ := kf
  obtain ⟨p, l, e, R, s, m, args, below, meth, c⟩ := κ
  obtain ⟨hd, hj⟩ := hT _ hi
  have hnx := sn_jok_nx hj
  have hn := sn_jok_len hj (by simp [sn_len])
  subst hn; subst hnx
  obtain ⟨i, rfl⟩ := hR.ne0 ha (fun q => by cases q)
  have hat := hR.2.2 i _ ha
  obtain ⟨⟨⟨C, T, N⟩, ref, hck, hk, hlink, hsm⟩, hfin⟩ := lk
  obtain ⟨hc, hin, hty0, hnm0⟩ := hck
  have hfin := hfin _ hc
  dsimp only at *
  have hK := hGK.1
  have hap := va_apart (own := sn_rn o) hts hin (sn_cty ci) hty0 hnm0 hK hc
  obtain ⟨r, h1, cell, q1, q2, q3, q4⟩ := hat
  have hr : r = (C, T, N) := Option.some.inj (h1.symm.trans hc)
  subst hr
  obtain ⟨hSl, hfc, kC, hkC, hkind⟩ := hK.1 ci _ hc
  obtain ⟨cf, kf, fi, f, hif, hsl⟩ := hSl j hk
  have hlay := hts _ (hin _ (u_in_lay hk))
  have hst := (u_facts hfc hkC (u_lays hts hin hk) hif).1
  obtain ⟨hna, hfi⟩ := hty γ
  have hlm : j < (fs.map (sn_tr γ)).length := by rw [List.length_map]; exact hfl
  have fin : ∀ (H' : Heap), H'[γ.2.2.2 + i]? = some (cell.setSlot f.slot (sn_tr γ v)) → H'.size = H.size → (∀ q, q ≠ γ.2.2.2 + i → H'[q]? = H[q]?) → W p l e R s m args below meth c H' (locs ++ [⟨γ.2.2.2 + i, f.slot⟩]) n k Q (F0 m (pc + 3) ls (rest.map (sn_tr γ))) := by
    intro H' e1 e2 e3
    refine K H' _ ls (hR.set ha ?_ e2 e3) hl (hS.put e2 e3 (Nat.le_add_right _ _))
    rw [hsl] at e1
    refine ⟨_, hc, t_OB.to (V := updV (vp_V (fs.map (sn_tr γ))) j (sn_tr γ v)) ⟨_, e1, q2, q3, t_set q4 hap hk (sn_tr γ v)⟩ (fun x _ => ?_)⟩
    rw [List.map_set]
    exact vp_updV_set hlm (sn_tr γ v) x
  rcases hfin with hfin | ⟨hfin, hin2, hdecl⟩
  · unfold u_lay at hlay
    rw [if_neg (by rw [hfin]; decide)] at hlay
    have h6 := u_store hfc hkC hkind hlay hif (hty0 j hk) hna hfi
    exact W.putK hx hb (f := f) ⟨hown, hts _ hlink, ⟨_, _, _, sm hsm _ hif⟩, hst⟩ (by rw [q2]; exact h6) q1 q3 (by rw [hsl]; exact k2_hasslot (q4 j hk)) rfl rfl hd fin
  · unfold u_lay at hlay
    rw [if_pos hfin] at hlay
    have hcf : m.cls = cf := by
      obtain ⟨_, _, c', _, _, _, -, -, hf', -, -, -, hown2, -⟩ := Cond.laysFinal_spec hlay
      have e1 : c' = cf := by have := hif.symm.trans hf'; simp at this; exact this.1.symm
      rw [hdecl] at hown2
      rw [← e1]; exact Option.some.inj (hown.symm.trans hown2)
    have h6 := u_fits hfc hkC hkind (Or.inr hlay) hif (hty0 j hk) hna hfi
    exact W.putFinK hx hb hown (hts _ hlink) (sm hsm _ hif) hst hcf (hnm.trans hin2) (by rw [q2]; exact h6) q1 q3 (by rw [hsl]; exact k2_hasslot (q4 j hk)) rfl rfl hd fin
/-- the script: L ints xs at cell 0 -/
def oL (L : Nat) (xs : Nat → Int32) : sn_O := fun γ κ => va_X γ.2.2.1 L xs κ.2.2.2.2.1 κ.2.2.2.2.1.heap ∧ γ.2.2.1 < κ.2.2.2.2.1.heap.size ∧ κ.2.2.2.2.1.heap.size ≤ γ.2.2.2
theorem sn_awSld {L : Nat} {xs : Nat → Int32} (kf : sn_KF γ κ o tab M d mc ms) (om : oL L xs γ κ) (hi : (pc, .iaload, len, nx, tg) ∈ tab) {i : Int32} (hin : vp_in i L) (K : sn_AW γ κ M.2.2.1 Q h nx lv (.int (xs i.toNatClampNeg) :: rest) n k) : sn_AW γ κ M.2.2.1 Q h pc lv (.int i :: .ref 0 :: rest) n k := by
  intro H locs ls hR hl hS
  obtain ⟨hx, hb, hml, hown, hts, hGK, hsz, hlk, hrt, hT, hrm, hnm⟩ := kf
  obtain ⟨p, l, e, R, s, m, args, below, meth, c⟩ := κ
  obtain ⟨hd, hj⟩ := hT _ hi
  have hnx := sn_jok_nx hj
  have hn := sn_jok_len hj (by simp [sn_len])
  subst hn; subst hnx
  obtain ⟨hX, hbl, hsz0⟩ := om
  exact va_sld hx hb hX hbl (fun q => absurd q (by show ¬ γ.2.2.2 ≤ γ.2.2.1; dsimp only at *; omega)) hS hin hd (K H locs ls hR hl hS)
theorem sn_awSln {L : Nat} {xs : Nat → Int32} (kf : sn_KF γ κ o tab M d mc ms) (om : oL L xs γ κ) (hi : (pc, .arraylength, len, nx, tg) ∈ tab) (K : sn_AW γ κ M.2.2.1 Q h nx lv (.int (nI L) :: rest) n k) : sn_AW γ κ M.2.2.1 Q h pc lv (.ref 0 :: rest) n k := by
  intro H locs ls hR hl hS
  obtain ⟨hx, hb, hml, hown, hts, hGK, hsz, hlk, hrt, hT, hrm, hnm⟩ := kf
  obtain ⟨p, l, e, R, s, m, args, below, meth, c⟩ := κ
  obtain ⟨hd, hj⟩ := hT _ hi
  have hnx := sn_jok_nx hj
  have hn := sn_jok_len hj (by simp [sn_len])
  subst hn; subst hnx
  obtain ⟨hX, hbl, hsz0⟩ := om
  exact va_slen hx hb hX hbl (fun q => absurd q (by show ¬ γ.2.2.2 ≤ γ.2.2.1; dsimp only at *; omega)) hS hd (K H locs ls hR hl hS)
end AW
section EV
variable {Ω : sn_O} {d : Nat} {E : sn_E} {pc : Nat} {lv st rest : List Value} {h h' : sn_H} {r : Option Value} {len nx tg : Nat} {P : Option Value → sn_H → Prop}
theorem Ev.sld {L : Nat} {xs : Nat → Int32} {j : Nat} {i : Int32} (hi : sn_tg E.2.1 pc = some (.iaload, len, nx, tg)) (e : i = nI j) (hj : j < L) (hL : L < 2 ^ 31) (K : Ev (oL L xs) d E nx lv (.int (xs j) :: rest) h r h') : Ev (oL L xs) d E pc lv (.int i :: .ref 0 :: rest) h r h' := by
  subst e
  refine Ev.same (fun _ _ _ _ _ _ _ kf om K => sn_awSld kf om (sn_tg_mem hi) (vp_in_nI hj hL) (by rw [nI_clamp (by omega)]; exact K)) K
theorem Ev.sln {L : Nat} {xs : Nat → Int32} (hi : sn_tg E.2.1 pc = some (.arraylength, len, nx, tg)) (K : Ev (oL L xs) d E nx lv (.int (nI L) :: rest) h r h') : Ev (oL L xs) d E pc lv (.ref 0 :: rest) h r h' :=
  Ev.same (fun _ _ _ _ _ _ _ kf om K => sn_awSln kf om (sn_tg_mem hi) K) K
theorem Ev.pfn {idx ci j a : Nat} {fs : List Value} {v : Value} (hi : sn_tg E.2.1 pc = some (.putfield idx, len, nx, tg)) (lk : sn_LP E.1 idx ci j E.2.2) (ha : h[a]? = some (.inr (ci, fs))) (hl : Nat.blt j fs.length = true) (hty : ∀ γ : sn_G, narrow (sn_cty ci j) (sn_tr γ v) = sn_tr γ v ∧ Jvm.fits (sn_cty ci j) (sn_tr γ v) = true) (K : Ev Ω d E nx lv rest (h.set a (.inr (ci, fs.set j v))) r h') : Ev Ω d E pc lv (v :: .ref a :: rest) h r h' :=
  Ev.gen 0 0 (by rw [List.length_set]; rfl) (sn_hs_set ha (by simp [sn_sl])) (fun _ _ _ _ _ _ _ kf _ _ _ K => sn_awPutN kf (sn_tg_mem hi) lk ha (Nat.blt_eq.mp hl) hty K) K
theorem Ev.hq {h1 : sn_H} (e : h1 = h) (K : Ev Ω d E pc lv st h r h') : Ev Ω d E pc lv st h1 r h' := by subst e; exact K
end EV
theorem e_X_init (d : Nat) (c0 : va_E) : Sp (d + 1) me_X_init [.ref 1] [c0, .inr (0, [.null, .int 0, .null, .int 0, .null, .null])] none [c0, .inr (0, [.ref 2, .int (nI 0), .ref 3, .int (nI 0), .ref 4, .null]), .inl (3, 8, .inr (.inr (.inr (.inr fun _ => none)))), .inl (4, 8, .inr (.inr (.inr (.inr fun _ => none)))), sn_nac 1 32] := by
  refine Sp.of ok_X_init trivial rfl ?_
  refine Ev.go 1 rfl ?_
  refine Ev.oi rfl lo_0_1 lo_i lo_c rfl ?_
  refine Ev.go 2 rfl ?_
  refine Ev.nq (t := 3) rfl (Or.inl rfl) lq_0_9 rfl (by omega) ?_
  refine Ev.pf rfl lp_X_init_11_0 rfl rfl rfl ?_
  refine Ev.go 2 rfl ?_
  refine Ev.pf rfl lp_X_init_15_0 rfl rfl rfl ?_
  refine Ev.go 2 rfl ?_
  refine Ev.nq (t := 4) rfl (Or.inr rfl) lq_0_19 rfl (by omega) ?_
  refine Ev.pf rfl lp_X_init_21_0 rfl rfl rfl ?_
  refine Ev.go 2 rfl ?_
  refine Ev.pf rfl lp_X_init_25_0 rfl rfl rfl ?_
  refine Ev.go 2 rfl ?_
  refine Ev.na (t := 1) rfl rfl lac_1 rfl (by omega) ?_
  refine Ev.pf rfl lp_X_init_28_0 rfl rfl rfl ?_
  refine Ev.go 2 rfl ?_
  refine Ev.pfn rfl lp_X_init_32_0 rfl rfl (fun _ => ⟨rfl, rfl⟩) ?_
  exact Ev.retv rfl
theorem e_M_init (d : Nat) (x : sn_X5) : Sp (d + 1) me_M_init [.ref 5] (x.1 :: x.2.1 :: x.2.2.1 :: x.2.2.2.1 :: x.2.2.2.2 :: .inr (1, [.int 0, .null, .null, .int 0, .null, .null, .null, .null, .null, .null, .null, .null, .int 0, .null, .null, .null, .null, .null, .null, .null, .null, .null, .null, .null, .long 0]) :: []) none (hp x (fun _ _ => 0) (fun _ _ => 0) []) := by
  refine Sp.of ok_M_init trivial rfl ?_
  refine Ev.go 1 rfl ?_
  refine Ev.oi rfl lo_1_1 lo_i lo_c rfl ?_
  refine Ev.go 2 rfl ?_
  refine Ev.na (t := 0) rfl rfl lac_0 rfl (by omega) ?_
  refine Ev.pf rfl lp_M_init_7_1 rfl rfl rfl ?_
  refine Ev.hq (h := x.1 :: x.2.1 :: x.2.2.1 :: x.2.2.2.1 :: x.2.2.2.2 :: .inr (1, [.int 0, .ref 6, .null, .int 0, .null, .null, .null, .null, .null, .null, .null, .null, .int 0, .null, .null, .null, .null, .null, .null, .null, .null, .null, .null, .null, .long 0]) :: [sn_nac 0 8]) rfl ?_
  refine Ev.go 2 rfl ?_
  refine Ev.na (t := 0) rfl rfl lac_0 rfl (by omega) ?_
  refine Ev.pf rfl lp_M_init_13_1 rfl rfl rfl ?_
  refine Ev.hq (h := x.1 :: x.2.1 :: x.2.2.1 :: x.2.2.2.1 :: x.2.2.2.2 :: .inr (1, [.int 0, .ref 6, .ref 7, .int 0, .null, .null, .null, .null, .null, .null, .null, .null, .int 0, .null, .null, .null, .null, .null, .null, .null, .null, .null, .null, .null, .long 0]) :: [sn_nac 0 8, sn_nac 0 8]) rfl ?_
  refine Ev.go 2 rfl ?_
  refine Ev.na (t := 0) rfl rfl lac_0 rfl (by omega) ?_
  refine Ev.pf rfl lp_M_init_16_1 rfl rfl rfl ?_
  refine Ev.hq (h := x.1 :: x.2.1 :: x.2.2.1 :: x.2.2.2.1 :: x.2.2.2.2 :: .inr (1, [.int 0, .ref 6, .ref 7, .int 0, .ref 8, .null, .null, .null, .null, .null, .null, .null, .int 0, .null, .null, .null, .null, .null, .null, .null, .null, .null, .null, .null, .long 0]) :: [sn_nac 0 8, sn_nac 0 8, sn_nac 0 8]) rfl ?_
  refine Ev.go 2 rfl ?_
  refine Ev.na (t := 0) rfl rfl lac_0 rfl (by omega) ?_
  refine Ev.pf rfl lp_M_init_19_1 rfl rfl rfl ?_
  refine Ev.hq (h := x.1 :: x.2.1 :: x.2.2.1 :: x.2.2.2.1 :: x.2.2.2.2 :: .inr (1, [.int 0, .ref 6, .ref 7, .int 0, .ref 8, .ref 9, .null, .null, .null, .null, .null, .null, .int 0, .null, .null, .null, .null, .null, .null, .null, .null, .null, .null, .null, .long 0]) :: [sn_nac 0 8, sn_nac 0 8, sn_nac 0 8, sn_nac 0 8]) rfl ?_
  refine Ev.go 2 rfl ?_
  refine Ev.na (t := 0) rfl rfl lac_0 rfl (by omega) ?_
  refine Ev.pf rfl lp_M_init_22_1 rfl rfl rfl ?_
  refine Ev.hq (h := x.1 :: x.2.1 :: x.2.2.1 :: x.2.2.2.1 :: x.2.2.2.2 :: .inr (1, [.int 0, .ref 6, .ref 7, .int 0, .ref 8, .ref 9, .ref 10, .null, .null, .null, .null, .null, .int 0, .null, .null, .null, .null, .null, .null, .null, .null, .null, .null, .null, .long 0]) :: [sn_nac 0 8, sn_nac 0 8, sn_nac 0 8, sn_nac 0 8, sn_nac 0 8]) rfl ?_
  refine Ev.go 2 rfl ?_
  refine Ev.na (t := 0) rfl rfl lac_0 rfl (by omega) ?_
  refine Ev.pf rfl lp_M_init_25_1 rfl rfl rfl ?_
  refine Ev.hq (h := x.1 :: x.2.1 :: x.2.2.1 :: x.2.2.2.1 :: x.2.2.2.2 :: .inr (1, [.int 0, .ref 6, .ref 7, .int 0, .ref 8, .ref 9, .ref 10, .ref 11, .null, .null, .null, .null, .int 0, .null, .null, .null, .null, .null, .null, .null, .null, .null, .null, .null, .long 0]) :: [sn_nac 0 8, sn_nac 0 8, sn_nac 0 8, sn_nac 0 8, sn_nac 0 8, sn_nac 0 256]) rfl ?_
  refine Ev.go 2 rfl ?_
  refine Ev.na (t := 0) rfl rfl lac_0 rfl (by omega) ?_
  refine Ev.pf rfl lp_M_init_28_1 rfl rfl rfl ?_
  refine Ev.hq (h := x.1 :: x.2.1 :: x.2.2.1 :: x.2.2.2.1 :: x.2.2.2.2 :: .inr (1, [.int 0, .ref 6, .ref 7, .int 0, .ref 8, .ref 9, .ref 10, .ref 11, .ref 12, .null, .null, .null, .int 0, .null, .null, .null, .null, .null, .null, .null, .null, .null, .null, .null, .long 0]) :: [sn_nac 0 8, sn_nac 0 8, sn_nac 0 8, sn_nac 0 8, sn_nac 0 8, sn_nac 0 256, sn_nac 0 256]) rfl ?_
  refine Ev.go 2 rfl ?_
  refine Ev.na (t := 0) rfl rfl lac_0 rfl (by omega) ?_
  refine Ev.pf rfl lp_M_init_31_1 rfl rfl rfl ?_
  refine Ev.hq (h := x.1 :: x.2.1 :: x.2.2.1 :: x.2.2.2.1 :: x.2.2.2.2 :: .inr (1, [.int 0, .ref 6, .ref 7, .int 0, .ref 8, .ref 9, .ref 10, .ref 11, .ref 12, .ref 13, .null, .null, .int 0, .null, .null, .null, .null, .null, .null, .null, .null, .null, .null, .null, .long 0]) :: [sn_nac 0 8, sn_nac 0 8, sn_nac 0 8, sn_nac 0 8, sn_nac 0 8, sn_nac 0 256, sn_nac 0 256, sn_nac 0 8]) rfl ?_
  refine Ev.go 2 rfl ?_
  refine Ev.na (t := 1) rfl rfl lac_1 rfl (by omega) ?_
  refine Ev.pf rfl lp_M_init_34_1 rfl rfl rfl ?_
  refine Ev.hq (h := x.1 :: x.2.1 :: x.2.2.1 :: x.2.2.2.1 :: x.2.2.2.2 :: .inr (1, [.int 0, .ref 6, .ref 7, .int 0, .ref 8, .ref 9, .ref 10, .ref 11, .ref 12, .ref 13, .ref 14, .null, .int 0, .null, .null, .null, .null, .null, .null, .null, .null, .null, .null, .null, .long 0]) :: [sn_nac 0 8, sn_nac 0 8, sn_nac 0 8, sn_nac 0 8, sn_nac 0 8, sn_nac 0 256, sn_nac 0 256, sn_nac 0 8, sn_nac 1 48]) rfl ?_
  refine Ev.go 2 rfl ?_
  refine Ev.na (t := 0) rfl rfl lac_0 rfl (by omega) ?_
  refine Ev.pf rfl lp_M_init_38_1 rfl rfl rfl ?_
  refine Ev.hq (h := x.1 :: x.2.1 :: x.2.2.1 :: x.2.2.2.1 :: x.2.2.2.2 :: .inr (1, [.int 0, .ref 6, .ref 7, .int 0, .ref 8, .ref 9, .ref 10, .ref 11, .ref 12, .ref 13, .ref 14, .ref 15, .int 0, .null, .null, .null, .null, .null, .null, .null, .null, .null, .null, .null, .long 0]) :: [sn_nac 0 8, sn_nac 0 8, sn_nac 0 8, sn_nac 0 8, sn_nac 0 8, sn_nac 0 256, sn_nac 0 256, sn_nac 0 8, sn_nac 1 48, sn_nac 0 32]) rfl ?_
  refine Ev.go 2 rfl ?_
  refine Ev.na (t := 0) rfl rfl lac_0 rfl (by omega) ?_
  refine Ev.pf rfl lp_M_init_41_1 rfl rfl rfl ?_
  refine Ev.hq (h := x.1 :: x.2.1 :: x.2.2.1 :: x.2.2.2.1 :: x.2.2.2.2 :: .inr (1, [.int 0, .ref 6, .ref 7, .int 0, .ref 8, .ref 9, .ref 10, .ref 11, .ref 12, .ref 13, .ref 14, .ref 15, .int 0, .ref 16, .null, .null, .null, .null, .null, .null, .null, .null, .null, .null, .long 0]) :: [sn_nac 0 8, sn_nac 0 8, sn_nac 0 8, sn_nac 0 8, sn_nac 0 8, sn_nac 0 256, sn_nac 0 256, sn_nac 0 8, sn_nac 1 48, sn_nac 0 32, sn_nac 0 32]) rfl ?_
  refine Ev.go 2 rfl ?_
  refine Ev.na (t := 0) rfl rfl lac_0 rfl (by omega) ?_
  refine Ev.pf rfl lp_M_init_44_1 rfl rfl rfl ?_
  refine Ev.hq (h := x.1 :: x.2.1 :: x.2.2.1 :: x.2.2.2.1 :: x.2.2.2.2 :: .inr (1, [.int 0, .ref 6, .ref 7, .int 0, .ref 8, .ref 9, .ref 10, .ref 11, .ref 12, .ref 13, .ref 14, .ref 15, .int 0, .ref 16, .ref 17, .null, .null, .null, .null, .null, .null, .null, .null, .null, .long 0]) :: [sn_nac 0 8, sn_nac 0 8, sn_nac 0 8, sn_nac 0 8, sn_nac 0 8, sn_nac 0 256, sn_nac 0 256, sn_nac 0 8, sn_nac 1 48, sn_nac 0 32, sn_nac 0 32, sn_nac 0 32]) rfl ?_
  refine Ev.go 2 rfl ?_
  refine Ev.na (t := 1) rfl rfl lac_1 rfl (by omega) ?_
  refine Ev.pf rfl lp_M_init_47_1 rfl rfl rfl ?_
  refine Ev.hq (h := x.1 :: x.2.1 :: x.2.2.1 :: x.2.2.2.1 :: x.2.2.2.2 :: .inr (1, [.int 0, .ref 6, .ref 7, .int 0, .ref 8, .ref 9, .ref 10, .ref 11, .ref 12, .ref 13, .ref 14, .ref 15, .int 0, .ref 16, .ref 17, .ref 18, .null, .null, .null, .null, .null, .null, .null, .null, .long 0]) :: [sn_nac 0 8, sn_nac 0 8, sn_nac 0 8, sn_nac 0 8, sn_nac 0 8, sn_nac 0 256, sn_nac 0 256, sn_nac 0 8, sn_nac 1 48, sn_nac 0 32, sn_nac 0 32, sn_nac 0 32, sn_nac 1 7]) rfl ?_
  refine Ev.go 2 rfl ?_
  refine Ev.na (t := 1) rfl rfl lac_1 rfl (by omega) ?_
  refine Ev.pf rfl lp_M_init_50_1 rfl rfl rfl ?_
  refine Ev.hq (h := x.1 :: x.2.1 :: x.2.2.1 :: x.2.2.2.1 :: x.2.2.2.2 :: .inr (1, [.int 0, .ref 6, .ref 7, .int 0, .ref 8, .ref 9, .ref 10, .ref 11, .ref 12, .ref 13, .ref 14, .ref 15, .int 0, .ref 16, .ref 17, .ref 18, .ref 19, .null, .null, .null, .null, .null, .null, .null, .long 0]) :: [sn_nac 0 8, sn_nac 0 8, sn_nac 0 8, sn_nac 0 8, sn_nac 0 8, sn_nac 0 256, sn_nac 0 256, sn_nac 0 8, sn_nac 1 48, sn_nac 0 32, sn_nac 0 32, sn_nac 0 32, sn_nac 1 7, sn_nac 1 32]) rfl ?_
  refine Ev.go 2 rfl ?_
  refine Ev.na (t := 2) rfl rfl lac_2 rfl (by omega) ?_
  refine Ev.pf rfl lp_M_init_53_1 rfl rfl rfl ?_
  refine Ev.hq (h := x.1 :: x.2.1 :: x.2.2.1 :: x.2.2.2.1 :: x.2.2.2.2 :: .inr (1, [.int 0, .ref 6, .ref 7, .int 0, .ref 8, .ref 9, .ref 10, .ref 11, .ref 12, .ref 13, .ref 14, .ref 15, .int 0, .ref 16, .ref 17, .ref 18, .ref 19, .ref 20, .null, .null, .null, .null, .null, .null, .long 0]) :: [sn_nac 0 8, sn_nac 0 8, sn_nac 0 8, sn_nac 0 8, sn_nac 0 8, sn_nac 0 256, sn_nac 0 256, sn_nac 0 8, sn_nac 1 48, sn_nac 0 32, sn_nac 0 32, sn_nac 0 32, sn_nac 1 7, sn_nac 1 32, sn_nac 2 4096]) rfl ?_
  refine Ev.go 2 rfl ?_
  refine Ev.na (t := 1) rfl rfl lac_1 rfl (by omega) ?_
  refine Ev.pf rfl lp_M_init_57_1 rfl rfl rfl ?_
  refine Ev.hq (h := x.1 :: x.2.1 :: x.2.2.1 :: x.2.2.2.1 :: x.2.2.2.2 :: .inr (1, [.int 0, .ref 6, .ref 7, .int 0, .ref 8, .ref 9, .ref 10, .ref 11, .ref 12, .ref 13, .ref 14, .ref 15, .int 0, .ref 16, .ref 17, .ref 18, .ref 19, .ref 20, .ref 21, .null, .null, .null, .null, .null, .long 0]) :: [sn_nac 0 8, sn_nac 0 8, sn_nac 0 8, sn_nac 0 8, sn_nac 0 8, sn_nac 0 256, sn_nac 0 256, sn_nac 0 8, sn_nac 1 48, sn_nac 0 32, sn_nac 0 32, sn_nac 0 32, sn_nac 1 7, sn_nac 1 32, sn_nac 2 4096, sn_nac 1 4096]) rfl ?_
  refine Ev.go 2 rfl ?_
  refine Ev.na (t := 0) rfl rfl lac_0 rfl (by omega) ?_
  refine Ev.pf rfl lp_M_init_60_1 rfl rfl rfl ?_
  refine Ev.hq (h := x.1 :: x.2.1 :: x.2.2.1 :: x.2.2.2.1 :: x.2.2.2.2 :: .inr (1, [.int 0, .ref 6, .ref 7, .int 0, .ref 8, .ref 9, .ref 10, .ref 11, .ref 12, .ref 13, .ref 14, .ref 15, .int 0, .ref 16, .ref 17, .ref 18, .ref 19, .ref 20, .ref 21, .ref 22, .null, .null, .null, .null, .long 0]) :: [sn_nac 0 8, sn_nac 0 8, sn_nac 0 8, sn_nac 0 8, sn_nac 0 8, sn_nac 0 256, sn_nac 0 256, sn_nac 0 8, sn_nac 1 48, sn_nac 0 32, sn_nac 0 32, sn_nac 0 32, sn_nac 1 7, sn_nac 1 32, sn_nac 2 4096, sn_nac 1 4096, sn_nac 0 32]) rfl ?_
  refine Ev.go 2 rfl ?_
  refine Ev.na (t := 0) rfl rfl lac_0 rfl (by omega) ?_
  refine Ev.pf rfl lp_M_init_63_1 rfl rfl rfl ?_
  refine Ev.hq (h := x.1 :: x.2.1 :: x.2.2.1 :: x.2.2.2.1 :: x.2.2.2.2 :: .inr (1, [.int 0, .ref 6, .ref 7, .int 0, .ref 8, .ref 9, .ref 10, .ref 11, .ref 12, .ref 13, .ref 14, .ref 15, .int 0, .ref 16, .ref 17, .ref 18, .ref 19, .ref 20, .ref 21, .ref 22, .ref 23, .null, .null, .null, .long 0]) :: [sn_nac 0 8, sn_nac 0 8, sn_nac 0 8, sn_nac 0 8, sn_nac 0 8, sn_nac 0 256, sn_nac 0 256, sn_nac 0 8, sn_nac 1 48, sn_nac 0 32, sn_nac 0 32, sn_nac 0 32, sn_nac 1 7, sn_nac 1 32, sn_nac 2 4096, sn_nac 1 4096, sn_nac 0 32, sn_nac 0 6]) rfl ?_
  refine Ev.go 2 rfl ?_
  refine Ev.na (t := 0) rfl rfl lac_0 rfl (by omega) ?_
  refine Ev.pf rfl lp_M_init_66_1 rfl rfl rfl ?_
  refine Ev.hq (h := x.1 :: x.2.1 :: x.2.2.1 :: x.2.2.2.1 :: x.2.2.2.2 :: .inr (1, [.int 0, .ref 6, .ref 7, .int 0, .ref 8, .ref 9, .ref 10, .ref 11, .ref 12, .ref 13, .ref 14, .ref 15, .int 0, .ref 16, .ref 17, .ref 18, .ref 19, .ref 20, .ref 21, .ref 22, .ref 23, .ref 24, .null, .null, .long 0]) :: [sn_nac 0 8, sn_nac 0 8, sn_nac 0 8, sn_nac 0 8, sn_nac 0 8, sn_nac 0 256, sn_nac 0 256, sn_nac 0 8, sn_nac 1 48, sn_nac 0 32, sn_nac 0 32, sn_nac 0 32, sn_nac 1 7, sn_nac 1 32, sn_nac 2 4096, sn_nac 1 4096, sn_nac 0 32, sn_nac 0 6, sn_nac 0 6]) rfl ?_
  refine Ev.go 2 rfl ?_
  refine Ev.na (t := 0) rfl rfl lac_0 rfl (by omega) ?_
  refine Ev.pf rfl lp_M_init_69_1 rfl rfl rfl ?_
  refine Ev.hq (h := x.1 :: x.2.1 :: x.2.2.1 :: x.2.2.2.1 :: x.2.2.2.2 :: .inr (1, [.int 0, .ref 6, .ref 7, .int 0, .ref 8, .ref 9, .ref 10, .ref 11, .ref 12, .ref 13, .ref 14, .ref 15, .int 0, .ref 16, .ref 17, .ref 18, .ref 19, .ref 20, .ref 21, .ref 22, .ref 23, .ref 24, .ref 25, .null, .long 0]) :: [sn_nac 0 8, sn_nac 0 8, sn_nac 0 8, sn_nac 0 8, sn_nac 0 8, sn_nac 0 256, sn_nac 0 256, sn_nac 0 8, sn_nac 1 48, sn_nac 0 32, sn_nac 0 32, sn_nac 0 32, sn_nac 1 7, sn_nac 1 32, sn_nac 2 4096, sn_nac 1 4096, sn_nac 0 32, sn_nac 0 6, sn_nac 0 6, sn_nac 0 32]) rfl ?_
  refine Ev.go 2 rfl ?_
  refine Ev.na (t := 0) rfl rfl lac_0 rfl (by omega) ?_
  refine Ev.pf rfl lp_M_init_72_1 rfl rfl rfl ?_
  refine Ev.hq (h := x.1 :: x.2.1 :: x.2.2.1 :: x.2.2.2.1 :: x.2.2.2.2 :: .inr (1, [.int 0, .ref 6, .ref 7, .int 0, .ref 8, .ref 9, .ref 10, .ref 11, .ref 12, .ref 13, .ref 14, .ref 15, .int 0, .ref 16, .ref 17, .ref 18, .ref 19, .ref 20, .ref 21, .ref 22, .ref 23, .ref 24, .ref 25, .ref 26, .long 0]) :: [sn_nac 0 8, sn_nac 0 8, sn_nac 0 8, sn_nac 0 8, sn_nac 0 8, sn_nac 0 256, sn_nac 0 256, sn_nac 0 8, sn_nac 1 48, sn_nac 0 32, sn_nac 0 32, sn_nac 0 32, sn_nac 1 7, sn_nac 1 32, sn_nac 2 4096, sn_nac 1 4096, sn_nac 0 32, sn_nac 0 6, sn_nac 0 6, sn_nac 0 32, sn_nac 0 32]) rfl ?_
  exact Ev.retv rfl
