/-! THE REFERENCE: over all laws -/
theorem bsB_le (s m a : Nat) (z : Nat × Nat × Nat) : ∀ n, (bsB s m a n z).1 ≤ z.1
  | 0 => Nat.le_refl _
  | n + 1 => by
    have := bsB_le s m a z n
    simp only [bsB]
    split
    · simp only; omega
    · exact this
theorem bsA_le (s m z0 : Nat) : ∀ n, (bsA s m z0 n).1 ≤ z0
  | 0 => Nat.le_refl _
  | n + 1 => Nat.le_trans (bsB_le s m (n + 1) (bsA s m z0 n) 37) (bsA_le s m z0 n)
theorem bsA_s (s m z0 n : Nat) : bsA s m z0 (n + 1) = bsB s m (n + 1) 37 (bsA s m z0 n) := rfl
theorem bsB_t {s m a n : Nat} {z : Nat × Nat × Nat} (h : flBy a n m s < (bsB s m a n z).1) : bsB s m a (n + 1) z = (flBy a n m s, a, n) := by simp only [bsB]; rw [if_pos h]
theorem bsB_f {s m a n : Nat} {z : Nat × Nat × Nat} (h : (bsB s m a n z).1 ≤ flBy a n m s) : bsB s m a (n + 1) z = bsB s m a n z := by simp only [bsB]; rw [if_neg (by omega)]
theorem p_M_best (d : Nat) (x : sn_X5) (A : sn_A2) (B : sn_B2) (t : sn_H) (s : Int64) (mv cv : Int32) : Sp (d + 3) me_M_best [.ref 5, .long s, .int mv, .int cv] (hp x A B t) (some (.int (an_best s mv cv))) (hp x A B t) := by
  refine Sp.of ok_M_best trivial rfl ?_
  refine Ev.go 1 rfl ?_
  refine Ev.cs (E' := me_M_isSet) rfl mk_M_isSet ls_1_108 rfl rfl (e_M_isSet2 (d + 1) _ _) ?_
  refine Ev.zb rfl rfl (fun c4 => ?_) (fun c4 => ?_)
  · refine Ev.go 1 rfl ?_
    exact Ev.reti rfl (by unfold an_best; rw [if_pos (fun z => ofn c4 z.1)])
  refine Ev.go 4 rfl ?_
  refine Ev.cs (E' := me_M_within) rfl mk_M_within ls_1_77 rfl rfl (e_M_withinI (d + 2) _ _ (l := 2) (u := 32) rfl rfl) ?_
  refine Ev.zb rfl rfl (fun c18 => ?_) (fun c18 => ?_)
  · refine Ev.go 1 rfl ?_
    exact Ev.reti rfl (by unfold an_best; rw [if_pos (fun z => ofn c18 z.2.1)])
  refine Ev.go 4 rfl ?_
  refine Ev.cs (E' := me_M_within) rfl mk_M_within ls_1_77 rfl rfl (e_M_within0 (d + 2) _ _ (n := 3) rfl) ?_
  refine Ev.zn rfl rfl (fun c31 => ?_) (fun c31 => ?_)
  · obtain ⟨s, hs, rfl⟩ := sg_ex (ofd c4)
    obtain ⟨c, hc, hc2, rfl⟩ := rg_ex (ofd c31)
    obtain ⟨m, hm0, hm3, rfl⟩ := rg_ex (x := mv) (n := 33) ⟨by have := ofd c18; omega, by have := ofd c18; omega⟩
    have hm1 := ofd c18
    rw [nI_toInt hm3] at hm1
    have hm : 2 ≤ m := by omega
    have hm2 : m ≤ 32 := by omega
    have hu : an_best (lN s) (nI m) (nI c) = if c = 0 then nI (bsA s m 99 36).1 else if c = 1 then nI (bsA s m 99 36).2.1 else nI (bsA s m 99 36).2.2 := by
      unfold an_best
      rw [if_neg (fun z => z ⟨ofd c4, ofd c18, ofd c31⟩), tn_nI hc2, tn_nI hm3, ts_lN hs]
    rw [hu]
    generalize hz0 : (if c = 0 then nI (bsA s m 99 36).1 else if c = 1 then nI (bsA s m 99 36).2.1 else nI (bsA s m 99 36).2.2) = z
    refine Ev.go 8 rfl ?_
    have L1 : ∀ (n1 : Nat) (i : Nat) (v5 : Int32) (v6 : Int32) (v7 : Int32) (v8 : Int32) (v9 : Value) (v10 : Value), i + n1 = 36 → v5 = nI (bsA s m 99 i).1 → v6 = nI (bsA s m 99 i).2.1 → v7 = nI (bsA s m 99 i).2.2 → v8 = nI (i + 1) → Ev o0 (d + 3) me_M_best 50 [.ref 5, .long (lN s), .retAddr 0, .int (nI m), .int (nI c), .int v5, .int v6, .int v7, .int v8, v9, v10] [] (hp x A B t) (some (.int z)) (hp x A B t) := by
      intro n1
      induction n1 using Nat.strongRecOn with
      | _ n1 ih1 =>
        intro i v5 v6 v7 v8 v9 v10 h1 h5 h6 h7 h8
        subst h5
        subst h6
        subst h7
        subst h8
        have hz := bsA_le s m 99 i
        refine Ev.go 2 rfl ?_
        refine Ev.igt rfl rfl rfl (by omega) (by omega) (fun c54 => ?_) (fun c54 => ?_)
        · refine Ev.go 1 rfl ?_
          refine Ev.zne rfl rfl (by omega) (fun c140 => ?_) (fun c140 => ?_)
          · refine Ev.go 2 rfl ?_
            refine Ev.ine rfl rfl rfl (by omega) (by omega) (fun c151 => ?_) (fun c151 => ?_)
            · refine Ev.go 1 rfl ?_
              exact Ev.reti rfl (by rw [← hz0, show i = 36 by omega]; first | exact (if_pos c140).symm | (rw [if_neg (by omega)]; first | exact (if_pos c151).symm | exact (if_neg c151).symm))
            refine Ev.go 2 rfl ?_
            exact Ev.reti rfl (by rw [← hz0, show i = 36 by omega]; first | exact (if_pos c140).symm | (rw [if_neg (by omega)]; first | exact (if_pos c151).symm | exact (if_neg c151).symm))
          refine Ev.go 2 rfl ?_
          exact Ev.reti rfl (by rw [← hz0, show i = 36 by omega]; first | exact (if_pos c140).symm | (rw [if_neg (by omega)]; first | exact (if_pos c151).symm | exact (if_neg c151).symm))
        refine Ev.go 2 rfl ?_
        have L2 : ∀ (n : Nat) (j : Nat) (v5 : Int32) (v6 : Int32) (v7 : Int32) (v9 : Int32) (v10 : Value), j + n = 37 → v5 = nI (bsB s m (i + 1) j (bsA s m 99 i)).1 → v6 = nI (bsB s m (i + 1) j (bsA s m 99 i)).2.1 → v7 = nI (bsB s m (i + 1) j (bsA s m 99 i)).2.2 → v9 = nI j → Ev o0 (d + 3) me_M_best 60 [.ref 5, .long (lN s), .retAddr 0, .int (nI m), .int (nI c), .int v5, .int v6, .int v7, .int (nI (i + 1)), .int v9, v10] [] (hp x A B t) (some (.int z)) (hp x A B t) := by
          intro n
          induction n using Nat.strongRecOn with
          | _ n ih =>
            intro j v5 v6 v7 v9 v10 g1 g5 g6 g7 g9
            subst g5
            subst g6
            subst g7
            subst g9
            have hz := Nat.le_trans (bsB_le s m (i + 1) (bsA s m 99 i) j) (bsA_le s m 99 i)
            have hf := flBy_le (i + 1) j m s
            refine Ev.go 2 rfl ?_
            refine Ev.igt rfl rfl rfl (by omega) (by omega) (fun c64 => ?_) (fun c64 => ?_)
            · have e37 : j = 37 := by omega
              subst e37
              refine Ev.go 2 rfl ?_
              exact ih1 (n1 - 1) (by omega) (i + 1) _ _ _ _ _ _ (by omega) (by rw [bsA_s]) (by rw [bsA_s]) (by rw [bsA_s]) (by rw [nI_add])
            refine Ev.go 4 rfl ?_
            refine Ev.cs (E' := me_M_falseBy) rfl mk_M_falseBy ls_1_116 rfl rfl (e_M_falseBy d _ rfl rfl rfl rfl (by omega) (by omega) hm hm2 hs) ?_
            refine Ev.go 3 rfl ?_
            refine Ev.ige rfl rfl rfl (by omega) (by omega) (fun c82 => ?_) (fun c82 => ?_)
            · refine Ev.go 4 rfl ?_
              refine Ev.ige rfl rfl rfl (by omega) (by omega) (fun c98 => ?_) (fun c98 => ?_)
              · refine Ev.go 4 rfl ?_
                refine Ev.ige rfl rfl rfl (by omega) (by omega) (fun c114 => ?_) (fun c114 => ?_)
                · refine Ev.go 4 rfl ?_
                  first
                    | (exfalso; omega)
                    | exact ih (n - 1) (by omega) (j + 1) _ _ _ _ _ (by omega) (by rw [bsB_f c82]) (by rw [bsB_f c82]) (by rw [bsB_f c82]) (by rw [nI_add])
                refine Ev.go 2 rfl ?_
                refine Ev.go 3 rfl ?_
                first
                  | (exfalso; omega)
                  | exact ih (n - 1) (by omega) (j + 1) _ _ _ _ _ (by omega) (by rw [bsB_f c82]) (by rw [bsB_f c82]) (by rw [bsB_f c82]) (by rw [nI_add])
              refine Ev.go 2 rfl ?_
              refine Ev.go 3 rfl ?_
              refine Ev.ige rfl rfl rfl (by omega) (by omega) (fun c114 => ?_) (fun c114 => ?_)
              · refine Ev.go 4 rfl ?_
                first
                  | (exfalso; omega)
                  | exact ih (n - 1) (by omega) (j + 1) _ _ _ _ _ (by omega) (by rw [bsB_f c82]) (by rw [bsB_f c82]) (by rw [bsB_f c82]) (by rw [nI_add])
              refine Ev.go 2 rfl ?_
              refine Ev.go 3 rfl ?_
              first
                | (exfalso; omega)
                | exact ih (n - 1) (by omega) (j + 1) _ _ _ _ _ (by omega) (by rw [bsB_f c82]) (by rw [bsB_f c82]) (by rw [bsB_f c82]) (by rw [nI_add])
            refine Ev.go 2 rfl ?_
            refine Ev.go 3 rfl ?_
            refine Ev.ige rfl rfl rfl (by omega) (by omega) (fun c98 => ?_) (fun c98 => ?_)
            · refine Ev.go 4 rfl ?_
              refine Ev.ige rfl rfl rfl (by omega) (by omega) (fun c114 => ?_) (fun c114 => ?_)
              · refine Ev.go 4 rfl ?_
                first
                  | (exfalso; omega)
                  | exact ih (n - 1) (by omega) (j + 1) _ _ _ _ _ (by omega) (by rw [bsB_t c82]) (by rw [bsB_t c82]) (by rw [bsB_t c82]) (by rw [nI_add])
              refine Ev.go 2 rfl ?_
              refine Ev.go 3 rfl ?_
              first
                | (exfalso; omega)
                | exact ih (n - 1) (by omega) (j + 1) _ _ _ _ _ (by omega) (by rw [bsB_t c82]) (by rw [bsB_t c82]) (by rw [bsB_t c82]) (by rw [nI_add])
            refine Ev.go 2 rfl ?_
            refine Ev.go 3 rfl ?_
            refine Ev.ige rfl rfl rfl (by omega) (by omega) (fun c114 => ?_) (fun c114 => ?_)
            · refine Ev.go 4 rfl ?_
              first
                | (exfalso; omega)
                | exact ih (n - 1) (by omega) (j + 1) _ _ _ _ _ (by omega) (by rw [bsB_t c82]) (by rw [bsB_t c82]) (by rw [bsB_t c82]) (by rw [nI_add])
            refine Ev.go 2 rfl ?_
            refine Ev.go 3 rfl ?_
            first
              | (exfalso; omega)
              | exact ih (n - 1) (by omega) (j + 1) _ _ _ _ _ (by omega) (by rw [bsB_t c82]) (by rw [bsB_t c82]) (by rw [bsB_t c82]) (by rw [nI_add])
        exact L2 37 0 _ _ _ _ _ (by omega) rfl rfl rfl rfl
    exact L1 36 0 _ _ _ _ _ _ (by omega) rfl rfl rfl rfl
  refine Ev.go 1 rfl ?_
  exact Ev.reti rfl (by unfold an_best; rw [if_pos (fun z => ofn c31 z.2.2)])
theorem p_M_odds (d : Nat) (x : sn_X5) (A : sn_A2) (B : sn_B2) (t : sn_H) (s : Int64) (yv mv cv : Int32) : Sp (d + 3) me_M_odds [.ref 5, .long s, .int yv, .int mv, .int cv] (hp x A B t) (some (.int (an_odds s yv mv cv))) (hp x A B t) := by
  refine Sp.of ok_M_odds trivial rfl ?_
  refine Ev.go 1 rfl ?_
  refine Ev.cs (E' := me_M_isSet) rfl mk_M_isSet ls_1_108 rfl rfl (e_M_isSet2 (d + 1) _ _) ?_
  refine Ev.zb rfl rfl (fun c4 => ?_) (fun c4 => ?_)
  · refine Ev.go 1 rfl ?_
    exact Ev.reti rfl (by unfold an_odds; rw [if_pos (fun z => ofn c4 z.1)])
  refine Ev.go 4 rfl ?_
  refine Ev.cs (E' := me_M_within) rfl mk_M_within ls_1_77 rfl rfl (e_M_withinI (d + 2) _ _ (l := 2) (u := 32) rfl rfl) ?_
  refine Ev.zb rfl rfl (fun c19 => ?_) (fun c19 => ?_)
  · refine Ev.go 1 rfl ?_
    exact Ev.reti rfl (by unfold an_odds; rw [if_pos (fun z => ofn c19 z.2.1)])
  refine Ev.go 4 rfl ?_
  refine Ev.cs (E' := me_M_within) rfl mk_M_within ls_1_77 rfl rfl (e_M_within0 (d + 2) _ _ (n := 2) rfl) ?_
  refine Ev.zn rfl rfl (fun c30 => ?_) (fun c30 => ?_)
  · obtain ⟨s, hs, rfl⟩ := sg_ex (ofd c4)
    obtain ⟨c, hc, hc2, rfl⟩ := rg_ex (ofd c30)
    obtain ⟨m, hm0, hm3, rfl⟩ := rg_ex (x := mv) (n := 33) ⟨by have := ofd c19; omega, by have := ofd c19; omega⟩
    have hm1 := ofd c19
    rw [nI_toInt hm3] at hm1
    have hm : 2 ≤ m := by omega
    have hm2 : m ≤ 32 := by omega
    have hu : an_odds (lN s) yv (nI m) (nI c) = if ¬ (rg yv 32 ∧ s.testBit (tn yv) = false) then - nI 101 else nI ((if c = 0 then odA s (tn yv) m 36 else 1332) / Nat.gcd (odA s (tn yv) m 36) 1332) := by
      unfold an_odds
      rw [if_neg (fun z => z ⟨ofd c4, ofd c19, ofd c30⟩), tn_nI hc2, tn_nI hm3, ts_lN hs]
    rw [hu]
    refine Ev.go 1 rfl ?_
    refine Ev.cs (E' := me_M_isKey) rfl mk_M_isKey ls_1_93 rfl rfl (e_M_isKey2 (d + 1) _ _) ?_
    refine Ev.zb rfl rfl (fun c40 => ?_) (fun c40 => ?_)
    · refine Ev.go 1 rfl ?_
      exact Ev.reti rfl (by rw [if_pos (fun z => ofn c40 z.1)])
    obtain ⟨y, hy, hy2, rfl⟩ := rg_ex (ofd c40)
    rw [tn_nI hy2]
    refine Ev.go 2 rfl ?_
    refine Ev.cs (E' := me_M_has) rfl mk_M_has ls_1_100 rfl rfl (e_M_has (d + 2) _ rfl rfl (by omega) (by omega)) ?_
    refine Ev.zb rfl rfl (fun c48 => ?_) (fun c48 => ?_)
    · rw [if_neg (fun z => z ⟨ofd c40, c48⟩)]
      generalize hz0 : nI ((if c = 0 then odA s y m 36 else 1332) / Nat.gcd (odA s y m 36) 1332) = z
      refine Ev.go 6 rfl ?_
      have L3 : ∀ (n : Nat) (a : Nat) (e : Nat) (v8 : Int32) (v9 : Int32) (v10 : Value), e ≤ n → a ≤ 1332 → e ≤ 1332 → Nat.gcd a e = Nat.gcd (odA s y m 36) 1332 → v8 = nI a → v9 = nI e → Ev o0 (d + 3) me_M_odds 142 [.ref 5, .long (lN s), .retAddr 0, .int (nI y), .int (nI m), .int (nI c), .int (nI (odA s y m 36)), .int (nI 1332), .int v8, .int v9, v10] [] (hp x A B t) (some (.int z)) (hp x A B t) := by
        intro n
        induction n using Nat.strongRecOn with
        | _ n ih =>
          intro a e v8 v9 v10 g1 g2 g3 g4 g8 g9
          subst g8
          subst g9
          have h36 := odA_le s y m 36
          refine Ev.go 1 rfl ?_
          refine Ev.zeq rfl rfl (by omega) (fun c144 => ?_) (fun c144 => ?_)
          · subst c144
            rw [Nat.gcd_zero_right] at g4
            have ha0 : 0 < a := by rw [g4]; exact Nat.gcd_pos_of_pos_right _ (by omega)
            refine Ev.go 1 rfl ?_
            refine Ev.zne rfl rfl (by omega) (fun c167 => ?_) (fun c167 => ?_)
            · refine Ev.go 2 rfl ?_
              refine Ev.dv rfl rfl rfl (by omega) (by omega) (by omega) ?_
              exact Ev.reti rfl (by rw [← hz0, ← g4]; first | rw [if_pos c167] | rw [if_neg (by omega)])
            refine Ev.go 2 rfl ?_
            refine Ev.dv rfl rfl rfl (by omega) (by omega) (by omega) ?_
            refine Ev.go 1 rfl ?_
            exact Ev.reti rfl (by rw [← hz0, ← g4]; first | rw [if_pos c167] | rw [if_neg (by omega)])
          refine Ev.go 2 rfl ?_
          refine Ev.rm rfl rfl rfl (by omega) (by omega) (by omega) ?_
          refine Ev.go 6 rfl ?_
          have hr := Nat.mod_lt a c144
          exact ih (a % e) (by omega) e (a % e) _ _ _ (Nat.le_refl _) g3 (by omega) (by rw [← g4, Nat.gcd_comm a e, Nat.gcd_rec e a, Nat.gcd_comm]) rfl rfl
      have L1 : ∀ (n1 : Nat) (i : Nat) (v6 : Int32) (v7 : Int32) (v8 : Int32) (v9 : Value), i + n1 = 36 → v6 = nI (odA s y m i) → v7 = nI (37 * i) → v8 = nI (i + 1) → Ev o0 (d + 3) me_M_odds 63 [.ref 5, .long (lN s), .retAddr 0, .int (nI y), .int (nI m), .int (nI c), .int v6, .int v7, .int v8, v9, .retAddr 0] [] (hp x A B t) (some (.int z)) (hp x A B t) := by
        intro n1
        induction n1 using Nat.strongRecOn with
        | _ n1 ih1 =>
          intro i v6 v7 v8 v9 h1 h6 h7 h8
          subst h6
          subst h7
          subst h8
          refine Ev.go 2 rfl ?_
          refine Ev.igt rfl rfl rfl (by omega) (by omega) (fun c67 => ?_) (fun c67 => ?_)
          · refine Ev.go 4 rfl ?_
            have e36 : i = 36 := by omega
            subst e36
            exact L3 1332 (odA s y m 36) 1332 _ _ _ (by omega) (by have := odA_le s y m 36; omega) (by omega) rfl rfl rfl
          refine Ev.go 2 rfl ?_
          have L2 : ∀ (n : Nat) (j : Nat) (v6 : Int32) (v7 : Int32) (v9 : Int32), j + n = 37 → v6 = nI (odA s y m i + odB s y m (i + 1) j) → v7 = nI (37 * i + j) → v9 = nI j → Ev o0 (d + 3) me_M_odds 73 [.ref 5, .long (lN s), .retAddr 0, .int (nI y), .int (nI m), .int (nI c), .int v6, .int v7, .int (nI (i + 1)), .int v9, .retAddr 0] [] (hp x A B t) (some (.int z)) (hp x A B t) := by
            intro n
            induction n using Nat.strongRecOn with
            | _ n ih =>
              intro j v6 v7 v9 g1 g6 g7 g9
              subst g6
              subst g7
              subst g9
              refine Ev.go 2 rfl ?_
              refine Ev.igt rfl rfl rfl (by omega) (by omega) (fun c77 => ?_) (fun c77 => ?_)
              · have e37 : j = 37 := by omega
                subst e37
                refine Ev.go 2 rfl ?_
                exact ih1 (n1 - 1) (by omega) (i + 1) _ _ _ _ (by omega) rfl (by congr 1) (by rw [nI_add])
              refine Ev.go 6 rfl ?_
              refine Ev.cs (E' := me_M_placesBy) rfl mk_M_placesBy ls_1_104 rfl rfl (e_M_placesBy (d + 1) _ rfl rfl rfl rfl (by omega) (by omega) hm hm2 hs) ?_
              refine Ev.go 6 rfl ?_
              refine Ev.rm rfl (by rw [pk_mul, nI_add]) rfl (lin (by omega) (by omega) hy) (by omega) (by omega) ?_
              refine Ev.go 1 rfl ?_
              refine Ev.rm rfl rfl rfl (by omega) (by omega) (by omega) ?_
              refine Ev.cs (E' := me_M_has) rfl mk_M_has ls_1_100 rfl rfl (e_M_has (d + 2) _ rfl rfl (by have := plBy_lt (a := i + 1) (b := j) (s := s) (show 0 < m by omega) hm2; omega) (by have := Nat.mod_lt (((i + 1) * y + j) % 37) (show 0 < m by omega); omega)) ?_
              refine Ev.zb rfl rfl (fun c111 => ?_) (fun c111 => ?_)
              · refine Ev.go 5 rfl ?_
                exact ih (n - 1) (by omega) (j + 1) _ _ _ (by omega) (by rw [nI_add]; congr 1; rw [Nat.add_assoc]; congr 1; simp [odB, ctf, val, c111]) (by rw [nI_add]; congr 1) (by rw [nI_add])
              refine Ev.go 2 rfl ?_
              refine Ev.go 4 rfl ?_
              exact ih (n - 1) (by omega) (j + 1) _ _ _ (by omega) (by rw [nI_add]; congr 1; rw [Nat.add_assoc]; congr 1; simp [odB, ctf, val, c111]) (by rw [nI_add]; congr 1) (by rw [nI_add])
          exact L2 37 0 _ _ _ (by omega) (by simp [odB, ctf]) rfl rfl
      exact L1 36 0 _ _ _ _ (by omega) rfl rfl rfl
    refine Ev.go 1 rfl ?_
    exact Ev.reti rfl (by rw [if_pos (fun z => by rw [c48] at z; cases z.2)])
  refine Ev.go 1 rfl ?_
  exact Ev.reti rfl (by unfold an_odds; rw [if_pos (fun z => ofn c30 z.2.2)])
