/-! THE REFERENCE: its rows of books -/
def MK (A : sn_A2) (B : sn_B2) (w : sn_Lw) (k : Nat) (b : sn_Bk) : Prop := WL w ∧ ML A w ∧ WB w.1 b ∧ MB A B k b ∧ k < 8
theorem e_M_valueOf (d : Nat) (x : sn_X5) {A : sn_A2} {B : sn_B2} (t : sn_H) {w : sn_Lw} (hw : WL w) (hL : ML A w) {lv xv : Int32} {l y : Nat} (e1 : lv = nI l) (e2 : xv = nI y) (hl : l < w.1) (hy : y < 32) : Sp d me_M_valueOf [.ref 5, .int lv, .int xv] (hp x A B t) (some (.int (nI (val (w.2.1 l) (w.2.2 l) y)))) (hp x A B t) := by
  subst e1; subst e2
  have h8 := hw.1
  have h9 := hw.2 l hl
  refine Sp.of ok_M_valueOf trivial rfl ?_
  refine Ev.go 1 rfl ?_
  refine Ev.gf rfl lf_1_7_1 hp_5 rfl ?_
  refine Ev.go 1 rfl ?_
  refine Ev.iln rfl hp_6 rfl (by omega) (by omega) ?_
  rw [(hL.2 l hl).1]
  refine Ev.go 3 rfl ?_
  refine Ev.gf rfl lf_1_13_1 hp_5 rfl ?_
  refine Ev.go 1 rfl ?_
  refine Ev.iln rfl hp_7 rfl (by omega) (by omega) ?_
  rw [(hL.2 l hl).2]
  refine Ev.go 2 rfl ?_
  refine Ev.rm rfl (by rw [pk_mul, nI_add]) rfl (lin h9.2.1 h9.2.2 hy) (by omega) (by omega) ?_
  exact Ev.reti rfl (rfl)
theorem e_M_lawAt (d : Nat) (x : sn_X5) {A : sn_A2} {B : sn_B2} (t : sn_H) {w : sn_Lw} {k : Nat} {b : sn_Bk} (q : MK A B w k b) {kv jv : Int32} {j : Nat} (e1 : kv = nI k) (e2 : jv = nI j) (hj : j < pcnt (bl b)) : Sp d me_M_lawAt [.ref 5, .int kv, .int jv] (hp x A B t) (some (.int (nI (nth (bl b) j)))) (hp x A B t) := by
  obtain ⟨hw, hL, hb, hB, hk⟩ := q
  obtain ⟨r8, r9, r10, r11, r12, r13, r14⟩ := id hB
  have hm := hb.2.1
  have hpc := hb.2.2.2.2.1
  have hbl := hb.bl256 hw.1
  subst e1
  subst e2
  refine Sp.of ok_M_lawAt trivial rfl ?_
  refine Ev.go 1 rfl ?_
  refine Ev.gf rfl lf_1_22_1 hp_5 rfl ?_
  refine Ev.go 1 rfl ?_
  refine Ev.iln rfl hp_10 rfl (by omega) (by omega) ?_
  rw [r10]
  refine Ev.go 5 rfl ?_
  skip
  have hct := pcnt_ct (n := bl b) (k := 8) hbl
  have L : ∀ (n : Nat) (l : Nat) (s : Nat) (lv : Int32) (sv : Int32), (l + n = 8) → (s + ctf (fun i => (bl b).testBit i) l = j) → (nthF (bl b) n l s = nth (bl b) j) → (lv = nI l) → (sv = nI s) → Ev o0 d me_M_lawAt 13 [.ref 5, .int (nI k), .int (nI j), .int (nI (bl b)), .int lv, .int sv] [] (hp x A B t) (some (.int (nI (nth (bl b) j)))) (hp x A B t) := by
    intro n
    induction n using Nat.strongRecOn with
    | _ n ih =>
      intro l s lv sv h1 h2 h3 h4 h5
      subst h4
      subst h5
      have hn : n ≠ 0 := by
        intro e
        subst e
        have e8 : l = 8 := by omega
        subst e8
        omega
      obtain ⟨n, rfl⟩ : ∃ z, n = z + 1 := ⟨n - 1, by omega⟩
      have hl : l < 8 := by omega
      have hs : s ≤ 8 := by have := pcnt_le (k := 8) hbl; omega
      have hx := hasI (s := bl b) (k := l) (by omega) (by omega)
      refine Ev.go 5 rfl ?_
      refine Ev.zb rfl hx (fun c19 => ?_) (fun c19 => ?_)
      · refine Ev.go 10 rfl ?_
        exact ih n (by omega) (l + 1) (s - ((bl b).testBit l).toNat) _ _ (by omega) (by simp only [ctf]; simp [c19]; omega) (by rw [← h3]; simp [nthF, c19]) (by rw [nI_add]) (by rw [hx, b2i_n, pk_sub (by simp [c19])])
      refine Ev.go 1 rfl ?_
      refine Ev.zle rfl rfl (by omega) (fun c24 => ?_) (fun c24 => ?_)
      · refine Ev.go 1 rfl ?_
        exact Ev.reti rfl (by rw [← h3]; simp [nthF, c19, c24])
      refine Ev.go 10 rfl ?_
      exact ih n (by omega) (l + 1) (s - ((bl b).testBit l).toNat) _ _ (by omega) (by simp only [ctf]; simp [c19]; omega) (by rw [← h3]; simp [nthF, c19, c24]) (by rw [nI_add]) (by rw [hx, b2i_n, pk_sub (by simp [c19]; omega)])
  exact L 8 0 j _ _ rfl (by simp [ctf]) rfl rfl rfl
theorem oth_dec : ∀ f, f < 8 → ∀ m, m < 33 → ∀ p, p < m → (if 0 ≤ (nI 5 * nI f - nI p) - (nI 5 * nI f - nI p) / nI m * nI m then (nI 5 * nI f - nI p) - (nI 5 * nI f - nI p) / nI m * nI m else (nI 5 * nI f - nI p) - (nI 5 * nI f - nI p) / nI m * nI m + nI m) = nI (oth m p f) := by decide +kernel
theorem e_M_firstPlace (d : Nat) (x : sn_X5) {A : sn_A2} {B : sn_B2} (t : sn_H) {w : sn_Lw} {k : Nat} {b : sn_Bk} (q : MK A B w k b) {kv xv : Int32} {y : Nat} (e1 : kv = nI k) (e2 : xv = nI y) (hy : y < 32) : Sp (d + 1) me_M_firstPlace [.ref 5, .int kv, .int xv] (hp x A B t) (some (.int (nI (frs w b y)))) (hp x A B t) := by
  obtain ⟨hw, hL, hb, hB, hk⟩ := q
  obtain ⟨r8, r9, r10, r11, r12, r13, r14⟩ := id hB
  have hm := hb.2.1
  have hpc := hb.2.2.2.2.1
  have hbl := hb.bl256 hw.1
  subst e1
  subst e2
  refine Sp.of ok_M_firstPlace trivial rfl ?_
  refine Ev.go 4 rfl ?_
  refine Ev.cv (E' := me_M_lawAt) rfl mk_M_lawAt lv_1_147_1 rfl hp_5 rfl (e_M_lawAt d x t ⟨hw, hL, hb, hB, hk⟩ rfl rfl (by omega)) ?_
  refine Ev.go 1 rfl ?_
  refine Ev.cv (E' := me_M_valueOf) rfl mk_M_valueOf lv_1_96_1 rfl hp_5 rfl (e_M_valueOf d x t hw hL rfl rfl (hb.nt hw (by omega)).1 hy) ?_
  refine Ev.go 1 rfl ?_
  refine Ev.gf rfl lf_1_19_1 hp_5 rfl ?_
  refine Ev.go 1 rfl ?_
  refine Ev.iln rfl hp_9 rfl (by omega) (by omega) ?_
  rw [r9]
  refine Ev.rm rfl rfl rfl (by have := val_lt (w.2.1 (nth (bl b) 0)) (w.2.2 (nth (bl b) 0)) y; omega) (by omega) (by omega) ?_
  exact Ev.reti rfl (rfl)
theorem e_M_pushedMark (d : Nat) (x : sn_X5) {A : sn_A2} {B : sn_B2} (t : sn_H) {w : sn_Lw} {k : Nat} {b : sn_Bk} (q : MK A B w k b) {kv xv : Int32} {y : Nat} (e1 : kv = nI k) (e2 : xv = nI y) (hy : y < 32) (hp2 : 1 < pcnt (bl b)) : Sp (d + 1) me_M_pushedMark [.ref 5, .int kv, .int xv] (hp x A B t) (some (.int (nI (mrk w b 1 y)))) (hp x A B t) := by
  obtain ⟨hw, hL, hb, hB, hk⟩ := q
  obtain ⟨r8, r9, r10, r11, r12, r13, r14⟩ := id hB
  have hm := hb.2.1
  have hpc := hb.2.2.2.2.1
  have hbl := hb.bl256 hw.1
  subst e1
  subst e2
  refine Sp.of ok_M_pushedMark trivial rfl ?_
  refine Ev.go 4 rfl ?_
  refine Ev.cv (E' := me_M_lawAt) rfl mk_M_lawAt lv_1_147_1 rfl hp_5 rfl (e_M_lawAt d x t ⟨hw, hL, hb, hB, hk⟩ rfl rfl (by omega)) ?_
  refine Ev.go 1 rfl ?_
  refine Ev.cv (E' := me_M_valueOf) rfl mk_M_valueOf lv_1_96_1 rfl hp_5 rfl (e_M_valueOf d x t hw hL rfl rfl (hb.nt hw (by omega)).1 hy) ?_
  refine Ev.cs (E' := me_M_markOf) rfl mk_M_markOf ls_1_150 rfl rfl (e_M_markOf d _ rfl (val_lt _ _ _)) ?_
  exact Ev.reti rfl (rfl)
theorem e_M_otherPlace (d : Nat) (x : sn_X5) {A : sn_A2} {B : sn_B2} (t : sn_H) {w : sn_Lw} {k : Nat} {b : sn_Bk} (q : MK A B w k b) {kv pv fv : Int32} {p f : Nat} (e1 : kv = nI k) (e2 : pv = nI p) (e3 : fv = nI f) (hp2 : p < bm b) (hf : f < 8) : Sp d me_M_otherPlace [.ref 5, .int kv, .int pv, .int fv] (hp x A B t) (some (.int (nI (oth (bm b) p f)))) (hp x A B t) := by
  obtain ⟨hw, hL, hb, hB, hk⟩ := q
  obtain ⟨r8, r9, r10, r11, r12, r13, r14⟩ := id hB
  have hm := hb.2.1
  have hpc := hb.2.2.2.2.1
  have hbl := hb.bl256 hw.1
  subst e1
  subst e2
  subst e3
  have hd := oth_dec f hf (bm b) (by omega) p hp2
  refine Sp.of ok_M_otherPlace trivial rfl ?_
  refine Ev.go 6 rfl ?_
  refine Ev.gf rfl lf_1_19_1 hp_5 rfl ?_
  refine Ev.go 1 rfl ?_
  refine Ev.iln rfl hp_9 rfl (by omega) (by omega) ?_
  rw [r9]
  refine Ev.p rfl rfl (nI_ne0 (by omega) (by omega)) ?_
  refine Ev.go 2 rfl ?_
  refine Ev.br rfl rfl (fun c16 => ?_) (fun c16 => ?_)
  · refine Ev.go 1 rfl ?_
    exact Ev.reti rfl (by rw [← hd, if_pos c16])
  refine Ev.go 2 rfl ?_
  refine Ev.gf rfl lf_1_19_1 hp_5 rfl ?_
  refine Ev.go 1 rfl ?_
  refine Ev.iln rfl hp_9 rfl (by omega) (by omega) ?_
  rw [r9]
  refine Ev.go 2 rfl ?_
  exact Ev.reti rfl (by rw [← hd, if_neg c16])
theorem e_M_placeBy (d : Nat) (x : sn_X5) {A : sn_A2} {B : sn_B2} (t : sn_H) {w : sn_Lw} {k : Nat} {b : sn_Bk} (q : MK A B w k b) {kv jv xv : Int32} {j y : Nat} (e1 : kv = nI k) (e2 : jv = nI j) (e3 : xv = nI y) (hj : j < pcnt (bl b)) (hy : y < 32) : Sp (d + 1) me_M_placeBy [.ref 5, .int kv, .int jv, .int xv] (hp x A B t) (some (.int (nI (plc w b j y)))) (hp x A B t) := by
  obtain ⟨hw, hL, hb, hB, hk⟩ := q
  obtain ⟨r8, r9, r10, r11, r12, r13, r14⟩ := id hB
  have hm := hb.2.1
  have hpc := hb.2.2.2.2.1
  have hbl := hb.bl256 hw.1
  subst e1
  subst e2
  subst e3
  have hv := val_lt (w.2.1 (nth (bl b) j)) (w.2.2 (nth (bl b) j)) y
  have hq : bm b / pcnt (bl b) ≤ bm b := Nat.div_le_self _ _
  refine Sp.of ok_M_placeBy trivial rfl ?_
  have J : (bk b = 2 ∨ bk b = 4) → ∀ mv : Int32, mv = nI (prt b) → Ev o0 (d + 1) me_M_placeBy 74 [.ref 5, .int (nI k), .int (nI j), .int (nI y), .int (nI (val (w.2.1 (nth (bl b) j)) (w.2.2 (nth (bl b) j)) y)), .int (nI (bm b / pcnt (bl b)))] [.int mv] (hp x A B t) (some (.int (nI (plc w b j y)))) (hp x A B t) := by
    intro hkd mv emv
    subst emv
    have h1 := prt_pos (b := b)
    have h2 := prt_le hb
    have h3 : j * prt b ≤ 3 * 32 := Nat.mul_le_mul (by omega) h2
    have h4 := Nat.mod_lt (val (w.2.1 (nth (bl b) j)) (w.2.2 (nth (bl b) j)) y) (show 0 < prt b by omega)
    refine Ev.go 6 rfl ?_
    refine Ev.rm rfl rfl rfl (by omega) (by omega) (by omega) ?_
    refine Ev.go 2 rfl ?_
    refine Ev.gf rfl lf_1_19_1 hp_5 rfl ?_
    refine Ev.go 1 rfl ?_
    refine Ev.iln rfl hp_9 rfl (by omega) (by omega) ?_
    rw [r9]
    refine Ev.rm rfl (by rw [pk_mul, nI_add]) rfl (by omega) (by omega) (by omega) ?_
    exact Ev.reti rfl (by unfold plc; rw [if_pos hkd]; rfl)
  refine Ev.go 4 rfl ?_
  refine Ev.cv (E' := me_M_lawAt) rfl mk_M_lawAt lv_1_147_1 rfl hp_5 rfl (e_M_lawAt d x t ⟨hw, hL, hb, hB, hk⟩ rfl rfl hj) ?_
  refine Ev.go 1 rfl ?_
  refine Ev.cv (E' := me_M_valueOf) rfl mk_M_valueOf lv_1_96_1 rfl hp_5 rfl (e_M_valueOf d x t hw hL rfl rfl (hb.nt hw hj).1 hy) ?_
  refine Ev.go 2 rfl ?_
  refine Ev.gf rfl lf_1_16_1 hp_5 rfl ?_
  refine Ev.go 1 rfl ?_
  refine Ev.iln rfl hp_8 rfl (by omega) (by omega) ?_
  rw [r8]
  refine Ev.go 1 rfl ?_
  refine Ev.ieq rfl rfl rfl (by have := hb.1; omega) (by omega) (fun c20 => ?_) (fun c20 => ?_)
  · refine Ev.go 1 rfl ?_
    refine Ev.gf rfl lf_1_19_1 hp_5 rfl ?_
    refine Ev.go 1 rfl ?_
    refine Ev.iln rfl hp_9 rfl (by omega) (by omega) ?_
    rw [r9]
    refine Ev.go 1 rfl ?_
    refine Ev.gf rfl lf_1_22_1 hp_5 rfl ?_
    refine Ev.go 1 rfl ?_
    refine Ev.iln rfl hp_10 rfl (by omega) (by omega) ?_
    rw [r10]
    refine Ev.go 1 rfl ?_
    refine Ev.cs (E' := me_M_ones) rfl mk_M_ones ls_1_127 rfl rfl (e_M_ones d _ (nI_l (by omega)) (by omega)) ?_
    refine Ev.dv rfl rfl rfl (by omega) (by omega) (by omega) ?_
    refine Ev.go 3 rfl ?_
    refine Ev.ige rfl rfl rfl (by omega) (by omega) (fun c65 => ?_) (fun c65 => ?_)
    · refine Ev.go 1 rfl ?_
      exact J (Or.inl c20) _ (by congr 1; unfold prt; omega)
    refine Ev.go 2 rfl ?_
    exact J (Or.inl c20) _ (by congr 1; unfold prt; omega)
  refine Ev.go 1 rfl ?_
  refine Ev.gf rfl lf_1_16_1 hp_5 rfl ?_
  refine Ev.go 1 rfl ?_
  refine Ev.iln rfl hp_8 rfl (by omega) (by omega) ?_
  rw [r8]
  refine Ev.go 1 rfl ?_
  refine Ev.ieq rfl rfl rfl (by have := hb.1; omega) (by omega) (fun c30 => ?_) (fun c30 => ?_)
  · refine Ev.go 1 rfl ?_
    refine Ev.gf rfl lf_1_19_1 hp_5 rfl ?_
    refine Ev.go 1 rfl ?_
    refine Ev.iln rfl hp_9 rfl (by omega) (by omega) ?_
    rw [r9]
    refine Ev.go 1 rfl ?_
    refine Ev.gf rfl lf_1_22_1 hp_5 rfl ?_
    refine Ev.go 1 rfl ?_
    refine Ev.iln rfl hp_10 rfl (by omega) (by omega) ?_
    rw [r10]
    refine Ev.go 1 rfl ?_
    refine Ev.cs (E' := me_M_ones) rfl mk_M_ones ls_1_127 rfl rfl (e_M_ones d _ (nI_l (by omega)) (by omega)) ?_
    refine Ev.dv rfl rfl rfl (by omega) (by omega) (by omega) ?_
    refine Ev.go 3 rfl ?_
    refine Ev.ige rfl rfl rfl (by omega) (by omega) (fun c65 => ?_) (fun c65 => ?_)
    · refine Ev.go 1 rfl ?_
      exact J (Or.inr c30) _ (by congr 1; unfold prt; omega)
    refine Ev.go 2 rfl ?_
    exact J (Or.inr c30) _ (by congr 1; unfold prt; omega)
  refine Ev.go 2 rfl ?_
  refine Ev.gf rfl lf_1_19_1 hp_5 rfl ?_
  refine Ev.go 1 rfl ?_
  refine Ev.iln rfl hp_9 rfl (by omega) (by omega) ?_
  rw [r9]
  refine Ev.rm rfl rfl rfl (by omega) (by omega) (by omega) ?_
  exact Ev.reti rfl (by unfold plc; rw [if_neg (by omega)]; rfl)
theorem e_M_placesOf (d : Nat) (x : sn_X5) {A : sn_A2} {B : sn_B2} (t : sn_H) {w : sn_Lw} {k : Nat} {b : sn_Bk} (q : MK A B w k b) {kv xv : Int32} {y : Nat} (e1 : kv = nI k) (e2 : xv = nI y) (hy : y < 32) : Sp (d + 2) me_M_placesOf [.ref 5, .int kv, .int xv] (hp x A B t) (some (.long (lN (pls w b y)))) (hp x A B t) := by
  obtain ⟨hw, hL, hb, hB, hk⟩ := q
  obtain ⟨r8, r9, r10, r11, r12, r13, r14⟩ := id hB
  have hm := hb.2.1
  have hpc := hb.2.2.2.2.1
  have hbl := hb.bl256 hw.1
  subst e1
  subst e2
  have h3 := hb.2.2.2.2.2.1
  have hf := frs_lt (w := w) hb y
  refine Sp.of ok_M_placesOf trivial rfl ?_
  have L : ¬ bk b = 3 → ∀ (n : Nat) (j : Nat) (bv : Int64) (jv : Int32), (j + n = pcnt (bl b)) → (bv = lN (orf (fun j => 2 ^ plc w b j y) j)) → (jv = nI j) → Ev o0 (d + 2) me_M_placesOf 41 [.ref 5, .int (nI k), .int (nI y), .long bv, .retAddr 0, .int jv] [] (hp x A B t) (some (.long (lN (pls w b y)))) (hp x A B t) := by
    intro hkd n
    induction n using Nat.strongRecOn with
    | _ n ih =>
      intro j bv jv h1 h2 e3
      subst h2
      subst e3
      refine Ev.go 2 rfl ?_
      refine Ev.gf rfl lf_1_22_1 hp_5 rfl ?_
      refine Ev.go 1 rfl ?_
      refine Ev.iln rfl hp_10 rfl (by omega) (by omega) ?_
      rw [r10]
      refine Ev.go 1 rfl ?_
      refine Ev.cs (E' := me_M_ones) rfl mk_M_ones ls_1_127 rfl rfl (e_M_ones (d + 1) _ (nI_l (by omega)) (by omega)) ?_
      refine Ev.ige rfl rfl rfl (by omega) (by omega) (fun c53 => ?_) (fun c53 => ?_)
      · refine Ev.go 1 rfl ?_
        exact Ev.retl rfl (by rw [show j = pcnt (bl b) by omega]; unfold pls; rw [if_neg hkd])
      refine Ev.go 6 rfl ?_
      refine Ev.cv (E' := me_M_placeBy) rfl mk_M_placeBy lv_1_163_1 rfl hp_5 rfl (e_M_placeBy d x t ⟨hw, hL, hb, hB, hk⟩ rfl rfl rfl (by omega) hy) ?_
      refine Ev.go 5 rfl ?_
      exact ih (n - 1) (by omega) (j + 1) _ _ (by omega) (by rw [sh1 (by have := plc_lt (w := w) hb j y; omega)]; exact or_step rfl) (by rw [nI_add])
  refine Ev.go 1 rfl ?_
  refine Ev.gf rfl lf_1_16_1 hp_5 rfl ?_
  refine Ev.go 1 rfl ?_
  refine Ev.iln rfl hp_8 rfl (by omega) (by omega) ?_
  rw [r8]
  refine Ev.go 1 rfl ?_
  refine Ev.ine rfl rfl rfl (by have := hb.1; omega) (by omega) (fun c7 => ?_) (fun c7 => ?_)
  · refine Ev.go 4 rfl ?_
    exact L c7 (pcnt (bl b)) 0 _ _ (by omega) rfl rfl
  refine Ev.go 3 rfl ?_
  refine Ev.cv (E' := me_M_firstPlace) rfl mk_M_firstPlace lv_1_153_1 rfl hp_5 rfl (e_M_firstPlace d x t ⟨hw, hL, hb, hB, hk⟩ rfl rfl hy) ?_
  refine Ev.go 11 rfl ?_
  refine Ev.cv (E' := me_M_pushedMark) rfl mk_M_pushedMark lv_1_156_1 rfl hp_5 rfl (e_M_pushedMark d x t ⟨hw, hL, hb, hB, hk⟩ rfl rfl hy (by have := h3 c7; omega)) ?_
  refine Ev.cv (E' := me_M_otherPlace) rfl mk_M_otherPlace lv_1_159_1 rfl hp_5 rfl (e_M_otherPlace (d + 1) x t ⟨hw, hL, hb, hB, hk⟩ rfl rfl rfl hf (by have := mrk_le (w := w) (b := b) 1 y; omega)) ?_
  refine Ev.go 2 rfl ?_
  exact Ev.retl rfl (by rw [sh1 (by omega), sh1 (by have := oth_lt (frs w b y) (mrk w b 1 y) (show 0 < bm b by omega); omega), fb_orL]; unfold pls; rw [if_pos c7])
theorem e_M_filled (d : Nat) (x : sn_X5) {A : sn_A2} {B : sn_B2} (t : sn_H) {w : sn_Lw} {k : Nat} {b : sn_Bk} (q : MK A B w k b) {kv : Int32} (e1 : kv = nI k) : Sp d me_M_filled [.ref 5, .int kv] (hp x A B t) (some (.long (lN (fil b)))) (hp x A B t) := by
  obtain ⟨hw, hL, hb, hB, hk⟩ := q
  obtain ⟨r8, r9, r10, r11, r12, r13, r14⟩ := id hB
  have hm := hb.2.1
  have hpc := hb.2.2.2.2.1
  have hbl := hb.bl256 hw.1
  subst e1
  refine Sp.of ok_M_filled trivial rfl ?_
  refine Ev.go 4 rfl ?_
  skip
  have L : ∀ (n : Nat) (i : Nat) (bv : Int64) (iv : Int32), (i + n = bm b) → (bv = lN (orf (fun i => if 0 < bn b i then 2 ^ i else 0) i)) → (iv = nI i) → Ev o0 d me_M_filled 5 [.ref 5, .int (nI k), .long bv, .retAddr 0, .int iv] [] (hp x A B t) (some (.long (lN (fil b)))) (hp x A B t) := by
    intro n
    induction n using Nat.strongRecOn with
    | _ n ih =>
      intro i bv iv h1 h2 e3
      subst h2
      subst e3
      refine Ev.go 2 rfl ?_
      refine Ev.gf rfl lf_1_19_1 hp_5 rfl ?_
      refine Ev.go 1 rfl ?_
      refine Ev.iln rfl hp_9 rfl (by omega) (by omega) ?_
      rw [r9]
      refine Ev.ige rfl rfl rfl (by omega) (by omega) (fun c13 => ?_) (fun c13 => ?_)
      · refine Ev.go 1 rfl ?_
        exact Ev.retl rfl (by rw [show i = bm b by omega]; rfl)
      refine Ev.go 2 rfl ?_
      refine Ev.gf rfl lf_1_25_1 hp_5 rfl ?_
      refine Ev.go 5 rfl ?_
      refine Ev.iln rfl hp_11 (by rw [pk_mul, nI_add]) (by omega) (by omega) ?_
      rw [r11 i (by omega)]
      refine Ev.zle rfl rfl (by have := hb.2.2.2.2.2.2.2.1 i; omega) (fun c29 => ?_) (fun c29 => ?_)
      · refine Ev.go 5 rfl ?_
        exact ih (n - 1) (by omega) (i + 1) _ _ (by omega) (or_step (by simp [c29])) (by rw [nI_add])
      refine Ev.go 4 rfl ?_
      refine Ev.go 4 rfl ?_
      exact ih (n - 1) (by omega) (i + 1) _ _ (by omega) (by rw [sh1 (by omega)]; exact or_step (by simp [c29])) (by rw [nI_add])
  exact L (bm b) 0 _ _ (by omega) rfl rfl
theorem e_M_numbersAbove (d : Nat) (x : sn_X5) {A : sn_A2} {B : sn_B2} (t : sn_H) {w : sn_Lw} {k : Nat} {b : sn_Bk} (q : MK A B w k b) {kv : Int32} (e1 : kv = nI k) : Sp d me_M_numbersAbove [.ref 5, .int kv] (hp x A B t) (some (.int (nI (nab b)))) (hp x A B t) := by
  obtain ⟨hw, hL, hb, hB, hk⟩ := q
  obtain ⟨r8, r9, r10, r11, r12, r13, r14⟩ := id hB
  have hm := hb.2.1
  have hpc := hb.2.2.2.2.1
  have hbl := hb.bl256 hw.1
  subst e1
  refine Sp.of ok_M_numbersAbove trivial rfl ?_
  refine Ev.go 4 rfl ?_
  skip
  have L : ∀ (n : Nat) (i : Nat) (cv : Int32) (iv : Int32), (i + n = bm b) → (cv = nI (ctf (fun i => decide (0 < bn b i)) i)) → (iv = nI i) → Ev o0 d me_M_numbersAbove 4 [.ref 5, .int (nI k), .int cv, .int iv] [] (hp x A B t) (some (.int (nI (nab b)))) (hp x A B t) := by
    intro n
    induction n using Nat.strongRecOn with
    | _ n ih =>
      intro i cv iv h1 h2 e3
      subst h2
      subst e3
      refine Ev.go 2 rfl ?_
      refine Ev.gf rfl lf_1_19_1 hp_5 rfl ?_
      refine Ev.go 1 rfl ?_
      refine Ev.iln rfl hp_9 rfl (by omega) (by omega) ?_
      rw [r9]
      refine Ev.ige rfl rfl rfl (by omega) (by omega) (fun c11 => ?_) (fun c11 => ?_)
      · refine Ev.go 1 rfl ?_
        exact Ev.reti rfl (by rw [show i = bm b by omega]; rfl)
      refine Ev.go 2 rfl ?_
      refine Ev.gf rfl lf_1_25_1 hp_5 rfl ?_
      refine Ev.go 5 rfl ?_
      refine Ev.iln rfl hp_11 (by rw [pk_mul, nI_add]) (by omega) (by omega) ?_
      rw [r11 i (by omega)]
      refine Ev.zle rfl rfl (by have := hb.2.2.2.2.2.2.2.1 i; omega) (fun c26 => ?_) (fun c26 => ?_)
      · refine Ev.go 5 rfl ?_
        exact ih (n - 1) (by omega) (i + 1) _ _ (by omega) (ct_step (by simp [c26])) (by rw [nI_add])
      refine Ev.go 2 rfl ?_
      refine Ev.go 4 rfl ?_
      exact ih (n - 1) (by omega) (i + 1) _ _ (by omega) (ct_step (by simp [c26])) (by rw [nI_add])
  exact L (bm b) 0 _ _ (by omega) rfl rfl
theorem e_M_reallyIn (d : Nat) (x : sn_X5) {A : sn_A2} {B : sn_B2} (t : sn_H) {w : sn_Lw} {k : Nat} {b : sn_Bk} (q : MK A B w k b) {kv : Int32} (e1 : kv = nI k) : Sp d me_M_reallyIn [.ref 5, .int kv] (hp x A B t) (some (.long (lN (rin b)))) (hp x A B t) := by
  obtain ⟨hw, hL, hb, hB, hk⟩ := q
  obtain ⟨r8, r9, r10, r11, r12, r13, r14⟩ := id hB
  have hm := hb.2.1
  have hpc := hb.2.2.2.2.1
  have hbl := hb.bl256 hw.1
  subst e1
  refine Sp.of ok_M_reallyIn trivial rfl ?_
  refine Ev.go 4 rfl ?_
  skip
  have L : ∀ (n : Nat) (i : Nat) (bv : Int64) (iv : Int32), (i + n = 32) → (bv = lN (orf (fun x => if 0 < bt b x then 2 ^ x else 0) i)) → (iv = nI i) → Ev o0 d me_M_reallyIn 5 [.ref 5, .int (nI k), .long bv, .retAddr 0, .int iv] [] (hp x A B t) (some (.long (lN (rin b)))) (hp x A B t) := by
    intro n
    induction n using Nat.strongRecOn with
    | _ n ih =>
      intro i bv iv h1 h2 e3
      subst h2
      subst e3
      refine Ev.go 2 rfl ?_
      refine Ev.ige rfl rfl rfl (by omega) (by omega) (fun c9 => ?_) (fun c9 => ?_)
      · refine Ev.go 1 rfl ?_
        exact Ev.retl rfl (by rw [show i = 32 by omega]; rfl)
      refine Ev.go 2 rfl ?_
      refine Ev.gf rfl lf_1_28_1 hp_5 rfl ?_
      refine Ev.go 5 rfl ?_
      refine Ev.iln rfl hp_12 (by rw [pk_mul, nI_add]) (by omega) (by omega) ?_
      rw [r12 i (by omega)]
      refine Ev.zle rfl rfl (by have := hb.2.2.2.2.2.2.2.2.2.1 i; omega) (fun c25 => ?_) (fun c25 => ?_)
      · refine Ev.go 5 rfl ?_
        exact ih (n - 1) (by omega) (i + 1) _ _ (by omega) (or_step (by simp [c25])) (by rw [nI_add])
      refine Ev.go 4 rfl ?_
      refine Ev.go 4 rfl ?_
      exact ih (n - 1) (by omega) (i + 1) _ _ (by omega) (by rw [sh1 (by omega)]; exact or_step (by simp [c25])) (by rw [nI_add])
  exact L 32 0 _ _ (by omega) rfl rfl
theorem e_M_layerPlace (d : Nat) (x : sn_X5) {A : sn_A2} {B : sn_B2} (t : sn_H) {w : sn_Lw} {k : Nat} {b : sn_Bk} (q : MK A B w k b) {kv rv xv : Int32} {r y : Nat} (e1 : kv = nI k) (e2 : rv = nI r) (e3 : xv = nI y) (hr : r < 100) (hy : y < 32) : Sp (d + 1) me_M_layerPlace [.ref 5, .int kv, .int rv, .int xv] (hp x A B t) (some (.int (nI (lpl w b r y)))) (hp x A B t) := by
  obtain ⟨hw, hL, hb, hB, hk⟩ := q
  obtain ⟨r8, r9, r10, r11, r12, r13, r14⟩ := id hB
  have hm := hb.2.1
  have hpc := hb.2.2.2.2.1
  have hbl := hb.bl256 hw.1
  subst e1
  subst e2
  subst e3
  have hz := Nat.mod_lt r (show 0 < pcnt (bl b) by omega)
  refine Sp.of ok_M_layerPlace trivial rfl ?_
  refine Ev.go 5 rfl ?_
  refine Ev.gf rfl lf_1_22_1 hp_5 rfl ?_
  refine Ev.go 1 rfl ?_
  refine Ev.iln rfl hp_10 rfl (by omega) (by omega) ?_
  rw [r10]
  refine Ev.go 1 rfl ?_
  refine Ev.cs (E' := me_M_ones) rfl mk_M_ones ls_1_127 rfl rfl (e_M_ones d _ (nI_l (by omega)) (by omega)) ?_
  refine Ev.rm rfl rfl rfl (by omega) (by omega) (by omega) ?_
  refine Ev.cv (E' := me_M_lawAt) rfl mk_M_lawAt lv_1_147_1 rfl hp_5 rfl (e_M_lawAt d x t ⟨hw, hL, hb, hB, hk⟩ rfl rfl hz) ?_
  refine Ev.go 1 rfl ?_
  refine Ev.cv (E' := me_M_valueOf) rfl mk_M_valueOf lv_1_96_1 rfl hp_5 rfl (e_M_valueOf d x t hw hL rfl rfl (hb.nt hw hz).1 hy) ?_
  refine Ev.go 1 rfl ?_
  refine Ev.gf rfl lf_1_19_1 hp_5 rfl ?_
  refine Ev.go 1 rfl ?_
  refine Ev.iln rfl hp_9 rfl (by omega) (by omega) ?_
  rw [r9]
  refine Ev.rm rfl rfl rfl (by have := val_lt (w.2.1 (nth (bl b) (r % pcnt (bl b)))) (w.2.2 (nth (bl b) (r % pcnt (bl b)))) y; omega) (by omega) (by omega) ?_
  exact Ev.reti rfl (rfl)
def tgf (w : sn_Lw) (b : sn_Bk) (y : Nat) : Nat → Nat
  | 0 => 0
  | j + 1 => tgf w b y j ^^^ bn b (plc w b j y)
theorem tgf_lt {w : sn_Lw} {b : sn_Bk} {n : Nat} (hb : WB n b) (y : Nat) : ∀ j, tgf w b y j < 2 ^ 3
  | 0 => by show 0 < 2 ^ 3; omega
  | j + 1 => Nat.xor_lt_two_pow (tgf_lt hb y j) (by have := hb.2.2.2.2.2.2.2.1 (plc w b j y); omega)
theorem tgf_3 (w : sn_Lw) (b : sn_Bk) (y : Nat) : tgf w b y 3 = tog w b y := by simp [tgf, tog]
theorem e_M_together (d : Nat) (x : sn_X5) {A : sn_A2} {B : sn_B2} (t : sn_H) {w : sn_Lw} {k : Nat} {b : sn_Bk} (q : MK A B w k b) {kv xv : Int32} {y : Nat} (e1 : kv = nI k) (e2 : xv = nI y) (hy : y < 32) (h4 : bk b = 4) : Sp (d + 2) me_M_together [.ref 5, .int kv, .int xv] (hp x A B t) (some (.int (nI (tog w b y)))) (hp x A B t) := by
  obtain ⟨hw, hL, hb, hB, hk⟩ := q
  obtain ⟨r8, r9, r10, r11, r12, r13, r14⟩ := id hB
  have hm := hb.2.1
  have hpc := hb.2.2.2.2.1
  have hbl := hb.bl256 hw.1
  subst e1
  subst e2
  have hp3 := hb.2.2.2.2.2.2.1 h4
  refine Sp.of ok_M_together trivial rfl ?_
  refine Ev.go 4 rfl ?_
  skip
  have L : ∀ (n : Nat) (j : Nat) (av : Int32) (jv : Int32), (j + n = 3) → (av = nI (tgf w b y j)) → (jv = nI j) → Ev o0 (d + 2) me_M_together 5 [.ref 5, .int (nI k), .int (nI y), .int av, .int jv] [] (hp x A B t) (some (.int (nI (tog w b y)))) (hp x A B t) := by
    intro n
    induction n using Nat.strongRecOn with
    | _ n ih =>
      intro j av jv h1 h2 e3
      subst h2
      subst e3
      have hpl := plc_lt (w := w) hb j y
      refine Ev.go 2 rfl ?_
      refine Ev.ige rfl rfl rfl (by omega) (by omega) (fun c8 => ?_) (fun c8 => ?_)
      · refine Ev.go 1 rfl ?_
        exact Ev.reti rfl (by rw [show j = 3 by omega, tgf_3])
      refine Ev.go 2 rfl ?_
      refine Ev.gf rfl lf_1_25_1 hp_5 rfl ?_
      refine Ev.go 7 rfl ?_
      refine Ev.cv (E' := me_M_placeBy) rfl mk_M_placeBy lv_1_163_1 rfl hp_5 rfl (e_M_placeBy d x t ⟨hw, hL, hb, hB, hk⟩ rfl rfl rfl (by omega) hy) ?_
      refine Ev.go 1 rfl ?_
      refine Ev.iln rfl hp_11 (by rw [pk_mul, nI_add]) (by omega) (by omega) ?_
      rw [r11 (plc w b j y) (by omega)]
      refine Ev.go 4 rfl ?_
      exact ih (n - 1) (by omega) (j + 1) _ _ (by omega) (by rw [fb_xorI]; rfl) (by rw [nI_add])
  exact L 3 0 _ _ (by omega) rfl rfl
