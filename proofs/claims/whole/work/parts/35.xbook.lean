/-! THE CLASS: laws, places, what is filled -/
theorem e_W_valueFor (d : Nat) {h : sn_H} {ad a b y : Nat} {yv : Int32} (hL : h[ad]? = some (.inr (2, [.int (nI a), .int (nI b)]))) (e1 : yv = nI y) (ha : a ≤ 36) (hb : b ≤ 36) (hy : y < 32) : Sp d me_W_valueFor [.ref ad, .int yv] h (some (.int (nI (val a b y)))) h := by
  subst e1
  refine Sp.of ok_W_valueFor trivial rfl ?_
  refine Ev.go 1 rfl ?_
  refine Ev.gf rfl lf_2_9_2 hL rfl ?_
  refine Ev.go 3 rfl ?_
  refine Ev.gf rfl lf_2_15_2 hL rfl ?_
  refine Ev.go 2 rfl ?_
  refine Ev.rm rfl (by rw [pk_mul, nI_add]) rfl (lin ha hb hy) (by omega) (by omega) ?_
  exact Ev.reti rfl (rfl)
theorem e_W_placeFor (d : Nat) {h : sn_H} {ad a b y m : Nat} {yv mv : Int32} (hL : h[ad]? = some (.inr (2, [.int (nI a), .int (nI b)]))) (e1 : yv = nI y) (e2 : mv = nI m) (ha : a ≤ 36) (hb : b ≤ 36) (hy : y < 32) (hm : 0 < m) (hm2 : m ≤ 32) : Sp d me_W_placeFor [.ref ad, .int yv, .int mv] h (some (.int (nI (val a b y % m)))) h := by
  subst e1; subst e2
  refine Sp.of ok_W_placeFor trivial rfl ?_
  refine Ev.go 1 rfl ?_
  refine Ev.zle rfl rfl (by omega) (fun c1 => ?_) (fun c1 => ?_)
  · refine Ev.go 1 rfl ?_
    exact absurd c1 (by omega)
  refine Ev.go 1 rfl ?_
  refine Ev.gf rfl lf_2_9_2 hL rfl ?_
  refine Ev.go 3 rfl ?_
  refine Ev.gf rfl lf_2_15_2 hL rfl ?_
  refine Ev.go 2 rfl ?_
  refine Ev.rm rfl (by rw [pk_mul, nI_add]) rfl (lin ha hb hy) (by omega) (by omega) ?_
  refine Ev.go 1 rfl ?_
  refine Ev.rm rfl rfl rfl (by omega) (by omega) (by omega) ?_
  refine Ev.go 1 rfl ?_
  exact Ev.reti rfl (rfl)
theorem e_W_markFor (d : Nat) {h : sn_H} {ad a b y : Nat} {yv : Int32} (hL : h[ad]? = some (.inr (2, [.int (nI a), .int (nI b)]))) (e1 : yv = nI y) (ha : a ≤ 36) (hb : b ≤ 36) (hy : y < 32) : Sp d me_W_markFor [.ref ad, .int yv] h (some (.int (nI (val a b y % 7 + 1)))) h := by
  subst e1
  refine Sp.of ok_W_markFor trivial rfl ?_
  refine Ev.go 1 rfl ?_
  refine Ev.gf rfl lf_2_9_2 hL rfl ?_
  refine Ev.go 3 rfl ?_
  refine Ev.gf rfl lf_2_15_2 hL rfl ?_
  refine Ev.go 2 rfl ?_
  refine Ev.rm rfl (by rw [pk_mul, nI_add]) rfl (lin ha hb hy) (by omega) (by omega) ?_
  refine Ev.go 1 rfl ?_
  refine Ev.rm rfl rfl rfl (by omega) (by omega) (by omega) ?_
  refine Ev.go 2 rfl ?_
  exact Ev.reti rfl (by rw [nI_add])
theorem e_P_placeBits (d : Nat) {h : sn_H} {w : sn_Lw} {b : sn_Bk} {ad ru : Nat} {ex : List Value} (hw : WL w) (hb : WB w.1 b) (hO : BO h w b ad ru ex) {y : Nat} {yv : Int32} (e1 : yv = nI y) (hy : y < 32) (hk : bk b = 0 ∨ bk b = 1 ∨ bk b = 5) : Sp (d + 1) me_P_placeBits [.ref ad, .int yv] h (some (.long (lN (pls w b y)))) h := by
  subst e1
  obtain ⟨hB, fr, hF, hfr⟩ := hO
  have hm := hb.2.1
  have hpc := hb.2.2.2.2.1
  have hbk := hb.1
  have hci : sn_pl (bk b + 3) := by unfold sn_pl; omega
  have epl : pls w b y = orf (fun j => 2 ^ (vl w b j y % bm b)) (pcnt (bl b)) := by
    unfold pls
    rw [if_neg (by omega)]
    refine orf_cong (fun j hj => ?_)
    unfold plc
    rw [if_neg (by omega)]
  rw [epl]
  refine Sp.of ok_P_placeBits trivial rfl ?_
  have L : ∀ (n : Nat) (j : Nat) (bv : Int64) (jv : Int32), (j + n = pcnt (bl b)) → (bv = lN (orf (fun j => 2 ^ (vl w b j y % bm b)) j)) → (jv = nI j) → Ev o0 (d + 1) me_P_placeBits 5 [.ref ad, .int (nI y), .long bv, .retAddr 0, .int jv] [] h (some (.long (lN (orf (fun j => 2 ^ (vl w b j y % bm b)) (pcnt (bl b)))))) h := by
    intro n
    induction n using Nat.strongRecOn with
    | _ n ih =>
      intro j bv jv h1 h2 e3
      subst h2
      subst e3
      refine Ev.go 2 rfl ?_
      refine Ev.gf rfl (lfb_3_7 (hci)) hB rfl ?_
      refine Ev.ln rfl hF rfl ?_
      refine Ev.ige rfl rfl rfl (by omega) (by omega) (fun c12 => ?_) (fun c12 => ?_)
      · refine Ev.go 1 rfl ?_
        exact Ev.retl rfl (by rw [show j = pcnt (bl b) by omega])
      obtain ⟨la, hla, hLa⟩ := hfr j (by omega)
      have hnt := hb.nt hw (j := j) (by omega)
      refine Ev.go 3 rfl ?_
      refine Ev.gf rfl (lfb_3_7 (hci)) hB rfl ?_
      refine Ev.go 1 rfl ?_
      refine Ev.aln rfl (Or.inl rfl) hF rfl (by omega) (by omega) hla ?_
      refine Ev.go 2 rfl ?_
      refine Ev.gf rfl (lfb_3_13 (hci)) hB rfl ?_
      refine Ev.cv (E' := me_W_placeFor) rfl mk_W_placeFor lv_3_17_2 rfl hLa rfl (e_W_placeFor d hLa rfl rfl hnt.2.1 hnt.2.2 hy (by omega) hm.2) ?_
      refine Ev.go 5 rfl ?_
      exact ih (n - 1) (by omega) (j + 1) _ _ (by omega) (by rw [sh1 (by have := Nat.mod_lt (vl w b j y) (show 0 < bm b by omega); unfold vl at this; omega)]; exact or_step rfl) (by rw [nI_add])
  refine Ev.go 4 rfl ?_
  exact L (pcnt (bl b)) 0 _ _ (by omega) rfl rfl
