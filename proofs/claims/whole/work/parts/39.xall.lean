/-! THE CLASS: over all laws -/
theorem le_n (x : Int32) {n : Nat} (h : n < 2 ^ 31) : x ≤ nI n ↔ x.toInt ≤ (n : Int) := by rw [fa_le, nI_toInt h]
theorem bsB_any {s m a : Nat} {z z' : Nat × Nat × Nat} (h : 32 < z.1) (h' : 32 < z'.1) : ∀ n, bsB s m a (n + 1) z = bsB s m a (n + 1) z'
  | 0 => by
    have := flBy_le a 0 m s
    rw [bsB_t (show flBy a 0 m s < (bsB s m a 0 z).1 by show _ < z.1; omega), bsB_t (show flBy a 0 m s < (bsB s m a 0 z').1 by show _ < z'.1; omega)]
  | n + 1 => by rw [bsB, bsB_any h h' n, ← bsB]
theorem bsA_any (s m : Nat) : ∀ n, bsA s m 33 (n + 1) = bsA s m 99 (n + 1)
  | 0 => bsB_any (z := (33, 0, 0)) (z' := (99, 0, 0)) (by decide) (by decide) 36
  | n + 1 => by rw [bsA_s, bsA_any s m n, ← bsA_s]
theorem bsA_36 (s m : Nat) : bsA s m 33 36 = bsA s m 99 36 := bsA_any s m 35
theorem p_X_fewest (d : Nat) {h : sn_H} {μ : sn_S} (q : XR h μ) (s : Int64) (lv ev : Int32) : Sp (d + 3) me_X_fewest [.ref 1, .long s, .int lv, .int ev] h (some (.int (an_fewest μ s lv ev))) h := by
  have q0 := q
  obtain ⟨⟨hw, h8, hWB⟩, fl, fb, ad, ru, cw, o⟩ := q
  have hw8 := hw.1
  have hX := o.1
  refine Sp.of ok_X_fewest trivial rfl ?_
  refine Ev.go 2 rfl ?_
  refine Ev.cv (E' := me_X_isLaw) rfl mk_X_isLaw lv_0_39_0 rfl hX rfl (e_X_isLaw (d + 2) q0 _) ?_
  refine Ev.zn rfl rfl (fun c5 => ?_) (fun c5 => ?_)
  · refine Ev.go 1 rfl ?_
    refine Ev.cs (E' := me_X_isSet) rfl mk_X_isSet ls_0_50 rfl rfl (e_X_isSet (d + 2) _ _) ?_
    refine Ev.zb rfl rfl (fun c15 => ?_) (fun c15 => ?_)
    · refine Ev.go 1 rfl ?_
      exact Ev.reti rfl (by unfold an_fewest; rw [if_neg (fun z => z (ofd c5)), if_pos (fun z => ofn c15 z.1)])
    refine Ev.go 1 rfl ?_
    refine Ev.br rfl rfl (fun c20 => ?_) (fun c20 => ?_)
    · refine Ev.go 1 rfl ?_
      exact Ev.reti rfl (by unfold an_fewest; rw [if_neg (fun z => z (ofd c5)), if_pos (fun z => by have z2 := z.2; rw [lt0] at c20; unfold rg at z2; omega)])
    refine Ev.go 2 rfl ?_
    refine Ev.br rfl rfl (fun c27 => ?_) (fun c27 => ?_)
    · rw [lt0] at c20
      rw [ltn _ (by omega)] at c27
      have hev : rg ev 32 := by unfold rg; omega
      obtain ⟨l, hl, hl2, rfl⟩ := rg_ex (ofd c5)
      obtain ⟨e, he, he2, rfl⟩ := rg_ex hev
      obtain ⟨s, hs, rfl⟩ := sg_ex (ofd c15)
      have h9 := hw.2 l hl
      obtain ⟨la, hla, hLa⟩ := o.2.2.2.2.2.1 l hl
      have hu : an_fewest μ (lN s) (nI l) (nI e) = onI (fwF ((sw μ).2.1 l) ((sw μ).2.2 l) s e 31 2) := by unfold an_fewest; rw [if_neg (fun z => z (ofd c5)), if_neg (fun z => z ⟨ofd c15, hev⟩), tn_nI hl2, tn_nI he2, ts_lN hs]
      rw [hu]
      refine Ev.go 1 rfl ?_
      refine Ev.gf rfl lf_0_11_0 hX rfl ?_
      refine Ev.go 1 rfl ?_
      refine Ev.aln rfl (Or.inl rfl) o.2.1 rfl (by omega) (by omega) hla ?_
      refine Ev.go 3 rfl ?_
      generalize hz : onI (fwF ((sw μ).2.1 l) ((sw μ).2.2 l) s e 31 2) = z
      have L : ∀ (n : Nat) (m : Nat) (mv : Int32), (m + n = 33) → (2 ≤ m) → (onI (fwF ((sw μ).2.1 l) ((sw μ).2.2 l) s e n m) = z) → (mv = nI m) → Ev o0 (d + 3) me_X_fewest 44 [.ref 1, .long (lN s), .retAddr 0, .int (nI l), .int (nI e), .ref la, .int mv] [] h (some (.int z)) h := by
        intro n
        induction n using Nat.strongRecOn with
        | _ n ih =>
          intro m mv h1 h0 hn e3
          subst e3
          refine Ev.go 2 rfl ?_
          refine Ev.igt rfl rfl rfl (by omega) (by omega) (fun c48 => ?_) (fun c48 => ?_)
          · refine Ev.go 1 rfl ?_
            exact Ev.reti rfl (by rw [← hn, show n = 0 by omega]; rfl)
          refine Ev.go 2 rfl ?_
          refine Ev.gf rfl lf_0_77_2 hLa rfl ?_
          refine Ev.go 1 rfl ?_
          refine Ev.gf rfl lf_0_80_2 hLa rfl ?_
          refine Ev.go 1 rfl ?_
          refine Ev.cs (E' := me_X_strangersMet) rfl mk_X_strangersMet ls_0_73 rfl rfl (e_X_strangersMet d _ rfl rfl rfl rfl h9.2.1 h9.2.2 h0 (by omega) hs) ?_
          refine Ev.go 1 rfl ?_
          refine Ev.igt rfl rfl rfl (by have := flBy_le ((sw μ).2.1 l) ((sw μ).2.2 l) m s; omega) (by omega) (fun c69 => ?_) (fun c69 => ?_)
          · refine Ev.go 2 rfl ?_
            obtain ⟨n, rfl⟩ : ∃ z, n = z + 1 := ⟨n - 1, by omega⟩
            exact ih n (by omega) (m + 1) _ (by omega) (by omega) (by rw [← hn]; simp only [fwF]; rw [if_neg (by omega)]) (by rw [nI_add])
          refine Ev.go 1 rfl ?_
          exact Ev.reti rfl (by rw [← hn, show n = n - 1 + 1 by omega]; simp only [fwF]; rw [if_pos (by omega)]; rfl)
      exact L 31 2 _ (by omega) (by omega) hz rfl
    refine Ev.go 1 rfl ?_
    exact Ev.reti rfl (by unfold an_fewest; rw [if_neg (fun z => z (ofd c5)), if_pos (fun z => by have z2 := z.2; rw [ltn _ (by omega)] at c27; unfold rg at z2; omega)])
  refine Ev.go 1 rfl ?_
  exact Ev.reti rfl (by unfold an_fewest; rw [if_pos (ofn c5)])
theorem p_X_best (d : Nat) (h : sn_H) (s : Int64) (mv cv : Int32) : Sp (d + 3) me_X_best [.ref 1, .long s, .int mv, .int cv] h (some (.int (an_best s mv cv))) h := by
  refine Sp.of ok_X_best trivial rfl ?_
  refine Ev.go 1 rfl ?_
  refine Ev.cs (E' := me_X_isSet) rfl mk_X_isSet ls_0_50 rfl rfl (e_X_isSet (d + 2) _ _) ?_
  refine Ev.zb rfl rfl (fun c4 => ?_) (fun c4 => ?_)
  · refine Ev.go 1 rfl ?_
    exact Ev.reti rfl (by unfold an_best; rw [if_pos (fun z => ofn c4 z.1)])
  refine Ev.go 1 rfl ?_
  refine Ev.cs (E' := me_X_isSize) rfl mk_X_isSize ls_0_54 rfl rfl (e_X_isSize (d + 2) _ _) ?_
  refine Ev.zb rfl rfl (fun c11 => ?_) (fun c11 => ?_)
  · refine Ev.go 1 rfl ?_
    exact Ev.reti rfl (by unfold an_best; rw [if_pos (fun z => ofn c11 z.2.1)])
  refine Ev.go 1 rfl ?_
  refine Ev.br rfl rfl (fun c16 => ?_) (fun c16 => ?_)
  · refine Ev.go 1 rfl ?_
    exact Ev.reti rfl (by unfold an_best; rw [if_pos (fun z => by have z2 := z.2.2; rw [lt0] at c16; unfold rg at z2; omega)])
  refine Ev.go 2 rfl ?_
  refine Ev.br rfl rfl (fun c22 => ?_) (fun c22 => ?_)
  · rw [lt0] at c16
    rw [le_n _ (by omega)] at c22
    have hcv : rg cv 3 := by unfold rg; omega
    obtain ⟨s, hs, rfl⟩ := sg_ex (ofd c4)
    obtain ⟨c, hc, hc2, rfl⟩ := rg_ex hcv
    obtain ⟨m, hm0, hm3, rfl⟩ := rg_ex (x := mv) (n := 33) ⟨by have := ofd c11; omega, by have := ofd c11; omega⟩
    have hm1 := ofd c11
    rw [nI_toInt hm3] at hm1
    have hm : 2 ≤ m := by omega
    have hm2 : m ≤ 32 := by omega
    have hu : an_best (lN s) (nI m) (nI c) = if c = 0 then nI (bsA s m 99 36).1 else if c = 1 then nI (bsA s m 99 36).2.1 else nI (bsA s m 99 36).2.2 := by
      unfold an_best
      rw [if_neg (fun z => z ⟨ofd c4, ofd c11, hcv⟩), tn_nI hc2, tn_nI hm3, ts_lN hs]
    rw [hu]
    generalize hz0 : (if c = 0 then nI (bsA s m 99 36).1 else if c = 1 then nI (bsA s m 99 36).2.1 else nI (bsA s m 99 36).2.2) = z
    refine Ev.go 8 rfl ?_
    have L1 : ∀ (n1 : Nat) (i : Nat) (v5 : Int32) (v6 : Int32) (v7 : Int32) (v8 : Int32) (v9 : Value) (v10 : Value), (i + n1 = 36) → (v5 = nI (bsA s m 33 i).1) → (v6 = nI (bsA s m 33 i).2.1) → (v7 = nI (bsA s m 33 i).2.2) → (v8 = nI (i + 1)) → Ev o0 (d + 3) me_X_best 41 [.ref 1, .long (lN s), .retAddr 0, .int (nI m), .int (nI c), .int v5, .int v6, .int v7, .int v8, v9, v10] [] h (some (.int z)) h := by
      intro n1
      induction n1 using Nat.strongRecOn with
      | _ n1 ih1 =>
        intro i v5 v6 v7 v8 v9 v10 h1 h5 h6 h7 h8
        subst h5
        subst h6
        subst h7
        subst h8
        have hz := bsA_le s m 33 i
        refine Ev.go 2 rfl ?_
        refine Ev.ige rfl rfl rfl (by omega) (by omega) (fun c45 => ?_) (fun c45 => ?_)
        · refine Ev.go 1 rfl ?_
          refine Ev.zne rfl rfl (by omega) (fun c102 => ?_) (fun c102 => ?_)
          · refine Ev.go 2 rfl ?_
            refine Ev.ine rfl rfl rfl (by omega) (by omega) (fun c113 => ?_) (fun c113 => ?_)
            · refine Ev.go 1 rfl ?_
              exact Ev.reti rfl (by rw [← hz0, show i = 36 by omega, bsA_36]; first | exact (if_pos c102).symm | (rw [if_neg (by omega)]; first | exact (if_pos c113).symm | exact (if_neg c113).symm))
            refine Ev.go 2 rfl ?_
            exact Ev.reti rfl (by rw [← hz0, show i = 36 by omega, bsA_36]; first | exact (if_pos c102).symm | (rw [if_neg (by omega)]; first | exact (if_pos c113).symm | exact (if_neg c113).symm))
          refine Ev.go 2 rfl ?_
          exact Ev.reti rfl (by rw [← hz0, show i = 36 by omega, bsA_36]; first | exact (if_pos c102).symm | (rw [if_neg (by omega)]; first | exact (if_pos c113).symm | exact (if_neg c113).symm))
        refine Ev.go 2 rfl ?_
        have L2 : ∀ (n : Nat) (j : Nat) (v5 : Int32) (v6 : Int32) (v7 : Int32) (v9 : Int32) (v10 : Value), (j + n = 37) → (v5 = nI (bsB s m (i + 1) j (bsA s m 33 i)).1) → (v6 = nI (bsB s m (i + 1) j (bsA s m 33 i)).2.1) → (v7 = nI (bsB s m (i + 1) j (bsA s m 33 i)).2.2) → (v9 = nI j) → Ev o0 (d + 3) me_X_best 51 [.ref 1, .long (lN s), .retAddr 0, .int (nI m), .int (nI c), .int v5, .int v6, .int v7, .int (nI (i + 1)), .int v9, v10] [] h (some (.int z)) h := by
          intro n
          induction n using Nat.strongRecOn with
          | _ n ih =>
            intro j v5 v6 v7 v9 v10 g1 g5 g6 g7 g9
            subst g5
            subst g6
            subst g7
            subst g9
            have hz := Nat.le_trans (bsB_le s m (i + 1) (bsA s m 33 i) j) (bsA_le s m 33 i)
            have hf := flBy_le (i + 1) j m s
            refine Ev.go 2 rfl ?_
            refine Ev.ige rfl rfl rfl (by omega) (by omega) (fun c55 => ?_) (fun c55 => ?_)
            · have e37 : j = 37 := by omega
              subst e37
              refine Ev.go 2 rfl ?_
              exact ih1 (n1 - 1) (by omega) (i + 1) _ _ _ _ _ _ (by omega) (by rw [bsA_s]) (by rw [bsA_s]) (by rw [bsA_s]) (by rw [nI_add])
            refine Ev.go 4 rfl ?_
            refine Ev.cs (E' := me_X_strangersMet) rfl mk_X_strangersMet ls_0_73 rfl rfl (e_X_strangersMet d _ rfl rfl rfl rfl (by omega) (by omega) hm hm2 hs) ?_
            refine Ev.go 3 rfl ?_
            refine Ev.ige rfl rfl rfl (by omega) (by omega) (fun c73 => ?_) (fun c73 => ?_)
            · refine Ev.go 2 rfl ?_
              exact ih (n - 1) (by omega) (j + 1) _ _ _ _ _ (by omega) (by rw [bsB_f c73]) (by rw [bsB_f c73]) (by rw [bsB_f c73]) (by rw [nI_add])
            refine Ev.go 8 rfl ?_
            exact ih (n - 1) (by omega) (j + 1) _ _ _ _ _ (by omega) (by rw [bsB_t c73]) (by rw [bsB_t c73]) (by rw [bsB_t c73]) (by rw [nI_add])
        exact L2 37 0 _ _ _ _ _ (by omega) rfl rfl rfl rfl
    exact L1 36 0 _ _ _ _ _ _ (by omega) rfl rfl rfl rfl
  refine Ev.go 1 rfl ?_
  exact Ev.reti rfl (by unfold an_best; rw [if_pos (fun z => by have z2 := z.2.2; rw [le_n _ (by omega)] at c22; unfold rg at z2; omega)])
theorem euc {a e n : Nat} (h1 : e ≤ a) (h2 : a * e < 2 ^ (n + 1)) (h3 : 0 < e) : e * (a % e) < 2 ^ n := by
  have hr := Nat.mod_lt a h3
  have hd := Nat.div_add_mod a e
  have hq : 1 ≤ a / e := (Nat.le_div_iff_mul_le h3).mpr (by omega)
  have h4 : e * 1 ≤ e * (a / e) := Nat.mul_le_mul_left e hq
  have h5 : e * (a % e + a % e) ≤ e * a := Nat.mul_le_mul_left e (by omega)
  rw [Nat.mul_add, Nat.mul_comm e a] at h5
  rw [Nat.pow_succ] at h2
  omega
theorem e_X_commonDivisor (d : Nat) (h : sn_H) {a0 b0 : Nat} {av bv : Int32} (e1 : av = nI a0) (e2 : bv = nI b0) (h1 : b0 ≤ a0) (h2 : a0 < 2 ^ 20) : Sp (d + 1) me_X_commonDivisor [.int av, .int bv] h (some (.int (nI (Nat.gcd a0 b0)))) h := by
  subst e1; subst e2
  have hab : a0 * b0 < 2 ^ 64 := by have := Nat.mul_le_mul (show a0 ≤ 2 ^ 20 by omega) (show b0 ≤ 2 ^ 20 by omega); omega
  generalize hz : Nat.gcd a0 b0 = z
  refine Sp.of ok_X_commonDivisor trivial rfl ?_
  have L : ∀ (n : Nat) (a : Nat) (e : Nat) (i : Nat) (v2 : Int32) (v3 : Int32) (v4 : Int32) (v5 : Value), (i + n = 64) → (a < 2 ^ 20) → (e ≤ a) → (a * e < 2 ^ n) → (Nat.gcd a e = z) → (v2 = nI a) → (v3 = nI e) → (v4 = nI i) → Ev o0 (d + 1) me_X_commonDivisor 7 [.int (nI a0), .int (nI b0), .int v2, .int v3, .int v4, v5] [] h (some (.int (nI z))) h := by
    intro n
    induction n using Nat.strongRecOn with
    | _ n ih =>
      intro a e i v2 v3 v4 v5 g1 g2 g3 gs g4 g8 g9 g10
      subst g8
      subst g9
      subst g10
      refine Ev.go 2 rfl ?_
      refine Ev.ige rfl rfl rfl (by omega) (by omega) (fun c11 => ?_) (fun c11 => ?_)
      · refine Ev.go 1 rfl ?_
        exact Ev.reti rfl (by
                have e0 : n = 0 := by omega
                subst e0
                have e1 : e = 0 := by
                  by_cases w : e = 0
                  · exact w
                  · have := Nat.mul_pos (show 0 < a by omega) (show 0 < e by omega); omega
                subst e1
                rw [← g4, Nat.gcd_zero_right])
      refine Ev.go 1 rfl ?_
      refine Ev.zle rfl rfl (by omega) (fun c15 => ?_) (fun c15 => ?_)
      · refine Ev.go 1 rfl ?_
        exact Ev.reti rfl (by subst c15; rw [← g4, Nat.gcd_zero_right])
      refine Ev.go 2 rfl ?_
      refine Ev.cs (E' := me_X_rest) rfl mk_X_rest ls_0_280 rfl rfl (e_X_rest d h rfl rfl (by omega) c15 (by omega)) ?_
      refine Ev.go 7 rfl ?_
      obtain ⟨n, rfl⟩ : ∃ z, n = z + 1 := ⟨n - 1, by omega⟩
      have hr := Nat.mod_lt a c15
      exact ih n (by omega) e (a % e) (i + 1) _ _ _ _ (by omega) (by omega) (by omega) (euc g3 gs c15) (by rw [← g4, Nat.gcd_comm a e, Nat.gcd_rec e a, Nat.gcd_comm]) rfl rfl (by rw [nI_add])
  refine Ev.go 6 rfl ?_
  exact L 64 a0 b0 0 _ _ _ _ (by omega) h2 h1 hab hz rfl rfl rfl
theorem p_X_odds (d : Nat) (h : sn_H) (s : Int64) (yv mv cv : Int32) : Sp (d + 3) me_X_odds [.ref 1, .long s, .int yv, .int mv, .int cv] h (some (.int (an_odds s yv mv cv))) h := by
  refine Sp.of ok_X_odds trivial rfl ?_
  refine Ev.go 1 rfl ?_
  refine Ev.cs (E' := me_X_isSet) rfl mk_X_isSet ls_0_50 rfl rfl (e_X_isSet (d + 2) _ _) ?_
  refine Ev.zb rfl rfl (fun c4 => ?_) (fun c4 => ?_)
  · refine Ev.go 1 rfl ?_
    exact Ev.reti rfl (by unfold an_odds; rw [if_pos (fun z => ofn c4 z.1)])
  refine Ev.go 1 rfl ?_
  refine Ev.cs (E' := me_X_isSize) rfl mk_X_isSize ls_0_54 rfl rfl (e_X_isSize (d + 2) _ _) ?_
  refine Ev.zb rfl rfl (fun c12 => ?_) (fun c12 => ?_)
  · refine Ev.go 1 rfl ?_
    exact Ev.reti rfl (by unfold an_odds; rw [if_pos (fun z => ofn c12 z.2.1)])
  refine Ev.go 1 rfl ?_
  refine Ev.br rfl rfl (fun c17 => ?_) (fun c17 => ?_)
  · refine Ev.go 1 rfl ?_
    exact Ev.reti rfl (by unfold an_odds; rw [if_pos (fun z => by have z2 := z.2.2; rw [lt0] at c17; unfold rg at z2; omega)])
  refine Ev.go 2 rfl ?_
  refine Ev.br rfl rfl (fun c23 => ?_) (fun c23 => ?_)
  · rw [lt0] at c17
    rw [le_n _ (by omega)] at c23
    have hcv : rg cv 2 := by unfold rg; omega
    obtain ⟨s, hs, rfl⟩ := sg_ex (ofd c4)
    obtain ⟨c, hc, hc2, rfl⟩ := rg_ex hcv
    obtain ⟨m, hm0, hm3, rfl⟩ := rg_ex (x := mv) (n := 33) ⟨by have := ofd c12; omega, by have := ofd c12; omega⟩
    have hm1 := ofd c12
    rw [nI_toInt hm3] at hm1
    have hm : 2 ≤ m := by omega
    have hm2 : m ≤ 32 := by omega
    have hu : an_odds (lN s) yv (nI m) (nI c) = if ¬ (rg yv 32 ∧ s.testBit (tn yv) = false) then - nI 101 else nI ((if c = 0 then odA s (tn yv) m 36 else 1332) / Nat.gcd (odA s (tn yv) m 36) 1332) := by
      unfold an_odds
      rw [if_neg (fun z => z ⟨ofd c4, ofd c12, hcv⟩), tn_nI hc2, tn_nI hm3, ts_lN hs]
    rw [hu]
    refine Ev.go 1 rfl ?_
    refine Ev.cs (E' := me_X_isKey) rfl mk_X_isKey ls_0_43 rfl rfl (e_X_isKey (d + 2) _ _) ?_
    refine Ev.zb rfl rfl (fun c33 => ?_) (fun c33 => ?_)
    · refine Ev.go 1 rfl ?_
      exact Ev.reti rfl (by rw [if_pos (fun z => ofn c33 z.1)])
    obtain ⟨y, hy, hy2, rfl⟩ := rg_ex (ofd c33)
    rw [tn_nI hy2]
    refine Ev.go 2 rfl ?_
    refine Ev.cs (E' := me_X_has) rfl mk_X_has ls_0_57 rfl rfl (e_X_has (d + 2) _ rfl rfl (by omega) (by omega)) ?_
    refine Ev.zb rfl rfl (fun c41 => ?_) (fun c41 => ?_)
    · rw [if_neg (fun z => z ⟨ofd c33, c41⟩)]
      generalize hz0 : nI ((if c = 0 then odA s y m 36 else 1332) / Nat.gcd (odA s y m 36) 1332) = z
      refine Ev.go 6 rfl ?_
      have h36 := odA_le s y m 36
      have hg := Nat.gcd_pos_of_pos_left (odA s y m 36) (show 0 < 1332 by omega)
      have hg2 := Nat.gcd_le_left (odA s y m 36) (show 0 < 1332 by omega)
      have L3 : ∀ (v8 : Int32) (v9 : Value), Ev o0 (d + 3) me_X_odds 117 [.ref 1, .long (lN s), .retAddr 0, .int (nI y), .int (nI m), .int (nI c), .int (nI (odA s y m 36)), .int (nI 1332), .int v8, v9] [] h (some (.int z)) h := by
        intro v8 v9
        refine Ev.go 2 rfl ?_
        refine Ev.cs (E' := me_X_commonDivisor) rfl mk_X_commonDivisor ls_0_69 rfl rfl (e_X_commonDivisor (d + 1) h (a0 := 1332) (b0 := odA s y m 36) rfl rfl (by omega) (by omega)) ?_
        refine Ev.go 2 rfl ?_
        refine Ev.zne rfl rfl (by omega) (fun c128 => ?_) (fun c128 => ?_)
        · refine Ev.go 3 rfl ?_
          refine Ev.zle rfl rfl (by omega) (fun c142 => ?_) (fun c142 => ?_)
          · refine Ev.go 1 rfl ?_
            exact absurd c142 (by omega)
          refine Ev.go 2 rfl ?_
          refine Ev.dv rfl rfl rfl (by omega) (by omega) (by omega) ?_
          refine Ev.go 1 rfl ?_
          exact Ev.reti rfl (by rw [← hz0, Nat.gcd_comm (odA s y m 36)]; first | rw [if_pos c128] | rw [if_neg (by omega)])
        refine Ev.go 2 rfl ?_
        refine Ev.go 2 rfl ?_
        refine Ev.zle rfl rfl (by omega) (fun c142 => ?_) (fun c142 => ?_)
        · refine Ev.go 1 rfl ?_
          exact absurd c142 (by omega)
        refine Ev.go 2 rfl ?_
        refine Ev.dv rfl rfl rfl (by omega) (by omega) (by omega) ?_
        refine Ev.go 1 rfl ?_
        exact Ev.reti rfl (by rw [← hz0, Nat.gcd_comm (odA s y m 36)]; first | rw [if_pos c128] | rw [if_neg (by omega)])
      have L1 : ∀ (n1 : Nat) (i : Nat) (v6 : Int32) (v7 : Int32) (v8 : Int32) (v9 : Value), (i + n1 = 36) → (v6 = nI (odA s y m i)) → (v7 = nI (37 * i)) → (v8 = nI (i + 1)) → Ev o0 (d + 3) me_X_odds 56 [.ref 1, .long (lN s), .retAddr 0, .int (nI y), .int (nI m), .int (nI c), .int v6, .int v7, .int v8, v9] [] h (some (.int z)) h := by
        intro n1
        induction n1 using Nat.strongRecOn with
        | _ n1 ih1 =>
          intro i v6 v7 v8 v9 h1 h6 h7 h8
          subst h6
          subst h7
          subst h8
          refine Ev.go 2 rfl ?_
          refine Ev.ige rfl rfl rfl (by omega) (by omega) (fun c60 => ?_) (fun c60 => ?_)
          · have e36 : i = 36 := by omega
            subst e36
            exact L3 _ _
          refine Ev.go 2 rfl ?_
          have L2 : ∀ (n : Nat) (j : Nat) (v6 : Int32) (v7 : Int32) (v9 : Int32), (j + n = 37) → (v6 = nI (odA s y m i + odB s y m (i + 1) j)) → (v7 = nI (37 * i + j)) → (v9 = nI j) → Ev o0 (d + 3) me_X_odds 66 [.ref 1, .long (lN s), .retAddr 0, .int (nI y), .int (nI m), .int (nI c), .int v6, .int v7, .int (nI (i + 1)), .int v9] [] h (some (.int z)) h := by
            intro n
            induction n using Nat.strongRecOn with
            | _ n ih =>
              intro j v6 v7 v9 g1 g6 g7 g9
              subst g6
              subst g7
              subst g9
              refine Ev.go 2 rfl ?_
              refine Ev.ige rfl rfl rfl (by omega) (by omega) (fun c70 => ?_) (fun c70 => ?_)
              · have e37 : j = 37 := by omega
                subst e37
                refine Ev.go 2 rfl ?_
                exact ih1 (n1 - 1) (by omega) (i + 1) _ _ _ _ (by omega) rfl (by congr 1) (by rw [nI_add])
              refine Ev.go 5 rfl ?_
              refine Ev.cs (E' := me_X_placesOfSet) rfl mk_X_placesOfSet ls_0_61 rfl rfl (e_X_placesOfSet (d + 1) _ rfl rfl rfl rfl (by omega) (by omega) hm hm2 hs) ?_
              refine Ev.go 4 rfl ?_
              refine Ev.cs (E' := me_X_placeBy) rfl mk_X_placeBy ls_0_65 rfl rfl (e_X_placeBy (d + 2) _ rfl rfl rfl rfl (by omega) (by omega) hy (by omega) hm2) ?_
              refine Ev.cs (E' := me_X_has) rfl mk_X_has ls_0_57 rfl rfl (e_X_has (d + 2) _ rfl rfl (by have := plBy_lt (a := i + 1) (b := j) (s := s) (show 0 < m by omega) hm2; omega) (by have := Nat.mod_lt (val (i + 1) j y) (show 0 < m by omega); omega)) ?_
              refine Ev.zb rfl rfl (fun c99 => ?_) (fun c99 => ?_)
              · refine Ev.go 2 rfl ?_
                exact ih (n - 1) (by omega) (j + 1) _ _ _ (by omega) (by congr 1; simp [odB, ctf, c99]) (by rw [nI_add]; congr 1) (by rw [nI_add])
              refine Ev.go 3 rfl ?_
              exact ih (n - 1) (by omega) (j + 1) _ _ _ (by omega) (by rw [nI_add]; congr 1; rw [Nat.add_assoc]; congr 1; simp [odB, ctf, c99]) (by rw [nI_add]; congr 1) (by rw [nI_add])
          exact L2 37 0 _ _ _ (by omega) (by simp [odB, ctf]) rfl rfl
      exact L1 36 0 _ _ _ _ (by omega) rfl rfl rfl
    refine Ev.go 1 rfl ?_
    exact Ev.reti rfl (by rw [if_pos (fun z => by rw [c41] at z; cases z.2)])
  refine Ev.go 1 rfl ?_
  exact Ev.reti rfl (by unfold an_odds; rw [if_pos (fun z => by have z2 := z.2.2; rw [le_n _ (by omega)] at c23; unfold rg at z2; omega)])
