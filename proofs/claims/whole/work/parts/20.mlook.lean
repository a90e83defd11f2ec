/-! THE REFERENCE: its calls that only look -/
theorem e_M_withinI (d : Nat) (h : sn_H) (a : Int32) {lo hi : Int64} {l u : Int} (hl : lo.toInt = l) (hu : hi.toInt = u) : Sp d me_M_within [.long a.toInt64, .long lo, .long hi] h (some (.int (b2i (decide (l ≤ a.toInt ∧ a.toInt ≤ u))))) h := by
  have e := e_M_within d h a.toInt64 lo hi
  simp only [fa_le64, Int32.toInt_toInt64, hl, hu] at e
  exact e
theorem e_M_within0 (d : Nat) (h : sn_H) (a : Int32) {hi : Int64} {n : Nat} (hu : hi.toInt + 1 = n) : Sp d me_M_within [.long a.toInt64, .long (lN 0), .long hi] h (some (.int (b2i (decide (rg a n))))) h := by
  have e := e_M_withinI d h a (lo := lN 0) (hi := hi) (l := 0) rfl rfl
  rw [show decide (0 ≤ a.toInt ∧ a.toInt ≤ hi.toInt) = decide (rg a n) from decide_eq_decide.mpr (by unfold rg; omega)] at e
  exact e
theorem sub1_toInt {n : Nat} (hn : n < 2 ^ 30) : (nI n - nI 1).toInt64.toInt + 1 = (n : Int) := by
  rw [Int32.toInt_toInt64, pk_sub_toInt hn (by omega)]; omega
theorem dec_rg {x : Int32} {n : Nat} : decide (0 ≤ x.toInt ∧ x.toInt ≤ (n : Int) - 1) = decide (rg x n) := by
  apply decide_eq_decide.mpr; unfold rg; omega
theorem dec_rgn {x : Int32} {n : Nat} {u : Int} (h : u + 1 = n) : decide (0 ≤ x.toInt ∧ x.toInt ≤ u) = decide (rg x n) := by
  apply decide_eq_decide.mpr; unfold rg; omega
theorem ofd {p : Prop} [Decidable p] (h : decide p = true) : p := of_decide_eq_true h
theorem ofn {p : Prop} [Decidable p] (h : decide p = false) : ¬ p := of_decide_eq_false h
theorem e_M_isLaw (d : Nat) (x : sn_X5) {A : sn_A2} {B : sn_B2} (t : sn_H) {w : sn_Lw} (hw : WL w) (hL : ML A w) (v : Int32) : Sp (d + 1) me_M_isLaw [.ref 5, .int v] (hp x A B t) (some (.int (b2i (decide (rg v w.1))))) (hp x A B t) := by
  have h8 := hw.1
  refine Sp.of ok_M_isLaw (b2i_rc _) rfl ?_
  refine Ev.go 4 rfl ?_
  refine Ev.gf rfl lf_1_83_1 hp_5 rfl ?_
  refine Ev.go 3 rfl ?_
  refine Ev.cs (E' := me_M_within) rfl mk_M_within ls_1_77 rfl rfl (e_M_within0 d _ v (n := w.1) (by rw [hL.1]; exact sub1_toInt (by omega))) ?_
  exact Ev.reti rfl (rfl)
theorem e_M_isBook (d : Nat) (x : sn_X5) {A : sn_A2} {B : sn_B2} (t : sn_H) {μ : sn_S} (q : MS A B μ) (v : Int32) : Sp (d + 1) me_M_isBook [.ref 5, .int v] (hp x A B t) (some (.int (b2i (decide (rg v (snb μ)))))) (hp x A B t) := by
  have h8 := q.1.2.1
  refine Sp.of ok_M_isBook (b2i_rc _) rfl ?_
  refine Ev.go 4 rfl ?_
  refine Ev.gf rfl lf_1_120_1 hp_5 rfl ?_
  refine Ev.go 3 rfl ?_
  refine Ev.cs (E' := me_M_within) rfl mk_M_within ls_1_77 rfl rfl (e_M_within0 d _ v (n := snb μ) (by rw [q.2.2.1]; exact sub1_toInt (by omega))) ?_
  exact Ev.reti rfl (rfl)
theorem e_M_isKey2 (d : Nat) (h : sn_H) (v : Int32) : Sp (d + 1) me_M_isKey [.int v] h (some (.int (b2i (decide (rg v 32))))) h := e_M_isKey d h v
theorem e_M_isSet2 (d : Nat) (h : sn_H) (v : Int64) : Sp (d + 1) me_M_isSet [.long v] h (some (.int (b2i (decide (sg v))))) h := e_M_isSet d h v
theorem p_M_value (d : Nat) (x : sn_X5) {A : sn_A2} {B : sn_B2} (t : sn_H) {μ : sn_S} (q : MS A B μ) (l y : Int32) : Sp (d + 2) me_M_value [.ref 5, .int l, .int y] (hp x A B t) (some (.int (an_value μ l y))) (hp x A B t) := by
  refine Sp.of ok_M_value trivial rfl ?_
  refine Ev.go 2 rfl ?_
  refine Ev.cv (E' := me_M_isLaw) rfl mk_M_isLaw lv_1_89_1 rfl hp_5 rfl (e_M_isLaw d x t q.1.1 q.2.1 _) ?_
  refine Ev.zb rfl rfl (fun c5 => ?_) (fun c5 => ?_)
  · refine Ev.go 1 rfl ?_
    exact Ev.reti rfl (by unfold an_value; rw [if_neg (fun z => ofn c5 z.1)])
  refine Ev.go 1 rfl ?_
  refine Ev.cs (E' := me_M_isKey) rfl mk_M_isKey ls_1_93 rfl rfl (e_M_isKey2 d _ _) ?_
  refine Ev.zb rfl rfl (fun c12 => ?_) (fun c12 => ?_)
  · refine Ev.go 1 rfl ?_
    exact Ev.reti rfl (by unfold an_value; rw [if_neg (fun z => ofn c12 z.2)])
  obtain ⟨l, hl, hl2, rfl⟩ := rg_ex (ofd c5)
  obtain ⟨y, hy, hy2, rfl⟩ := rg_ex (ofd c12)
  refine Ev.go 3 rfl ?_
  refine Ev.cv (E' := me_M_valueOf) rfl mk_M_valueOf lv_1_96_1 rfl hp_5 rfl (e_M_valueOf (d + 1) x t q.1.1 q.2.1 rfl rfl hl hy) ?_
  refine Ev.go 1 rfl ?_
  exact Ev.reti rfl (by unfold an_value; rw [if_pos ⟨ofd c5, ofd c12⟩, tn_nI hl2, tn_nI hy2])
theorem p_M_about (d : Nat) (x : sn_X5) {A : sn_A2} {B : sn_B2} (t : sn_H) {μ : sn_S} (q : MS A B μ) (kv cv : Int32) : Sp (d + 2) me_M_about [.ref 5, .int kv, .int cv] (hp x A B t) (some (.int (an_about μ kv cv))) (hp x A B t) := by
  refine Sp.of ok_M_about trivial rfl ?_
  refine Ev.go 2 rfl ?_
  refine Ev.cv (E' := me_M_isBook) rfl mk_M_isBook lv_1_131_1 rfl hp_5 rfl (e_M_isBook d x t q _) ?_
  refine Ev.zn rfl rfl (fun c5 => ?_) (fun c5 => ?_)
  · refine Ev.go 4 rfl ?_
    refine Ev.cs (E' := me_M_within) rfl mk_M_within ls_1_77 rfl rfl (e_M_within0 (d + 1) _ _ (n := 6) rfl) ?_
    refine Ev.zb rfl rfl (fun c22 => ?_) (fun c22 => ?_)
    · refine Ev.go 1 rfl ?_
      exact Ev.reti rfl (by unfold an_about; rw [if_neg (fun z => z (ofd c5)), if_neg (ofn c22)])
    obtain ⟨k, hk, hk2, rfl⟩ := rg_ex (ofd c5)
    have m := q.mk hk
    have hk8 := m.2.2.2.2
    obtain ⟨c, hc, hc2, rfl⟩ := rg_ex (ofd c22)
    refine Ev.go 3 rfl ?_
    refine Ev.cv (E' := me_M_aboutOf) rfl mk_M_aboutOf lv_1_142_1 rfl hp_5 rfl (e_M_aboutOf d x t m rfl rfl hc) ?_
    refine Ev.go 1 rfl ?_
    exact Ev.reti rfl (by unfold an_about; rw [if_neg (fun z => z (ofd c5)), if_pos (ofd c22), tn_nI hk2, tn_nI hc2])
  refine Ev.go 2 rfl ?_
  exact Ev.reti rfl (by unfold an_about; rw [if_pos (ofn c5)])
theorem p_M_at (d : Nat) (x : sn_X5) {A : sn_A2} {B : sn_B2} (t : sn_H) {μ : sn_S} (q : MS A B μ) (kv iv : Int32) : Sp (d + 2) me_M_at [.ref 5, .int kv, .int iv] (hp x A B t) (some (.int (an_at μ kv iv))) (hp x A B t) := by
  refine Sp.of ok_M_at trivial rfl ?_
  refine Ev.go 2 rfl ?_
  refine Ev.cv (E' := me_M_isBook) rfl mk_M_isBook lv_1_131_1 rfl hp_5 rfl (e_M_isBook d x t q _) ?_
  refine Ev.zb rfl rfl (fun c5 => ?_) (fun c5 => ?_)
  · refine Ev.go 1 rfl ?_
    exact Ev.reti rfl (by unfold an_at; rw [if_neg (fun z => ofn c5 z.1)])
  obtain ⟨k, hk, hk2, rfl⟩ := rg_ex (ofd c5)
  have m := q.mk hk
  have hk8 := m.2.2.2.2
  have hm := m.2.2.1.2.1
  refine Ev.go 4 rfl ?_
  refine Ev.gf rfl lf_1_19_1 hp_5 rfl ?_
  refine Ev.go 1 rfl ?_
  refine Ev.iln rfl hp_9 rfl (by omega) (by omega) ?_
  rw [m.2.2.2.1.2.1]
  refine Ev.go 3 rfl ?_
  refine Ev.cs (E' := me_M_within) rfl mk_M_within ls_1_77 rfl rfl (e_M_within0 (d + 1) _ _ (n := bm (sbk μ k)) (sub1_toInt (by have := m.2.2.1.2.1; omega))) ?_
  refine Ev.zb rfl rfl (fun c23 => ?_) (fun c23 => ?_)
  · refine Ev.go 1 rfl ?_
    exact Ev.reti rfl (by unfold an_at; rw [tn_nI hk2, if_neg (fun z => ofn c23 z.2)])
  obtain ⟨i, hi, hi2, rfl⟩ := rg_ex (ofd c23)
  refine Ev.go 1 rfl ?_
  refine Ev.gf rfl lf_1_25_1 hp_5 rfl ?_
  refine Ev.go 5 rfl ?_
  refine Ev.iln rfl hp_11 (by rw [pk_mul, nI_add]) (by omega) (by omega) ?_
  rw [m.2.2.2.1.2.2.2.1 i (by omega)]
  refine Ev.go 1 rfl ?_
  exact Ev.reti rfl (by unfold an_at; rw [tn_nI hk2, if_pos ⟨ofd c5, ofd c23⟩, tn_nI hi2])
theorem p_M_row (d : Nat) (x : sn_X5) {A : sn_A2} {B : sn_B2} (t : sn_H) {μ : sn_S} (q : MS A B μ) (kv iv : Int32) : Sp (d + 2) me_M_row [.ref 5, .int kv, .int iv] (hp x A B t) (some (.long (an_row μ kv iv))) (hp x A B t) := by
  refine Sp.of ok_M_row trivial rfl ?_
  refine Ev.go 2 rfl ?_
  refine Ev.cv (E' := me_M_isBook) rfl mk_M_isBook lv_1_131_1 rfl hp_5 rfl (e_M_isBook d x t q _) ?_
  refine Ev.zb rfl rfl (fun c5 => ?_) (fun c5 => ?_)
  · refine Ev.go 1 rfl ?_
    exact Ev.retl rfl (by unfold an_row; rw [if_neg (fun z => ofn c5 z.1)])
  obtain ⟨k, hk, hk2, rfl⟩ := rg_ex (ofd c5)
  have m := q.mk hk
  have hk8 := m.2.2.2.2
  have hm := m.2.2.1.2.2.2.2.2.2.2.2.2.2.1
  refine Ev.go 4 rfl ?_
  refine Ev.gf rfl lf_1_31_1 hp_5 rfl ?_
  refine Ev.go 1 rfl ?_
  refine Ev.iln rfl hp_13 rfl (by omega) (by omega) ?_
  rw [m.2.2.2.1.2.2.2.2.2.1]
  refine Ev.go 3 rfl ?_
  refine Ev.cs (E' := me_M_within) rfl mk_M_within ls_1_77 rfl rfl (e_M_within0 (d + 1) _ _ (n := bc (sbk μ k)) (sub1_toInt (by omega))) ?_
  refine Ev.zb rfl rfl (fun c23 => ?_) (fun c23 => ?_)
  · refine Ev.go 1 rfl ?_
    exact Ev.retl rfl (by unfold an_row; rw [tn_nI hk2, if_neg (fun z => ofn c23 z.2)])
  obtain ⟨i, hi, hi2, rfl⟩ := rg_ex (ofd c23)
  refine Ev.go 1 rfl ?_
  refine Ev.gf rfl lf_1_34_1 hp_5 rfl ?_
  refine Ev.go 5 rfl ?_
  refine Ev.lln rfl hp_14 (by rw [pk_mul, nI_add]) (by omega) (by omega) ?_
  rw [m.2.2.2.1.2.2.2.2.2.2 i hi]
  refine Ev.go 1 rfl ?_
  exact Ev.retl rfl (by unfold an_row; rw [tn_nI hk2, if_pos ⟨ofd c5, ofd c23⟩, tn_nI hi2])
theorem p_M_places (d : Nat) (x : sn_X5) {A : sn_A2} {B : sn_B2} (t : sn_H) {μ : sn_S} (q : MS A B μ) (kv yv : Int32) : Sp (d + 3) me_M_places [.ref 5, .int kv, .int yv] (hp x A B t) (some (.long (an_places μ kv yv))) (hp x A B t) := by
  refine Sp.of ok_M_places trivial rfl ?_
  refine Ev.go 2 rfl ?_
  refine Ev.cv (E' := me_M_isBook) rfl mk_M_isBook lv_1_131_1 rfl hp_5 rfl (e_M_isBook (d + 1) x t q _) ?_
  refine Ev.zb rfl rfl (fun c5 => ?_) (fun c5 => ?_)
  · refine Ev.go 1 rfl ?_
    exact Ev.retl rfl (by unfold an_places; rw [if_neg (fun z => ofn c5 z.1)])
  refine Ev.go 1 rfl ?_
  refine Ev.cs (E' := me_M_isKey) rfl mk_M_isKey ls_1_93 rfl rfl (e_M_isKey2 (d + 1) _ _) ?_
  refine Ev.zb rfl rfl (fun c12 => ?_) (fun c12 => ?_)
  · refine Ev.go 1 rfl ?_
    exact Ev.retl rfl (by unfold an_places; rw [if_neg (fun z => ofn c12 z.2)])
  obtain ⟨k, hk, hk2, rfl⟩ := rg_ex (ofd c5)
  have m := q.mk hk
  have hk8 := m.2.2.2.2
  obtain ⟨y, hy, hy2, rfl⟩ := rg_ex (ofd c12)
  refine Ev.go 3 rfl ?_
  refine Ev.cv (E' := me_M_placesOf) rfl mk_M_placesOf lv_1_166_1 rfl hp_5 rfl (e_M_placesOf d x t m rfl rfl hy) ?_
  refine Ev.go 1 rfl ?_
  exact Ev.retl rfl (by unfold an_places; rw [if_pos ⟨ofd c5, ofd c12⟩, tn_nI hk2, tn_nI hy2])
theorem p_M_real (d : Nat) (x : sn_X5) {A : sn_A2} {B : sn_B2} (t : sn_H) {μ : sn_S} (q : MS A B μ) (kv yv : Int32) : Sp (d + 2) me_M_real [.ref 5, .int kv, .int yv] (hp x A B t) (some (.int (an_real μ kv yv))) (hp x A B t) := by
  refine Sp.of ok_M_real trivial rfl ?_
  refine Ev.go 2 rfl ?_
  refine Ev.cv (E' := me_M_isBook) rfl mk_M_isBook lv_1_131_1 rfl hp_5 rfl (e_M_isBook d x t q _) ?_
  refine Ev.zb rfl rfl (fun c5 => ?_) (fun c5 => ?_)
  · refine Ev.go 1 rfl ?_
    exact Ev.reti rfl (by unfold an_real; rw [if_neg (fun z => ofn c5 z.1)])
  refine Ev.go 1 rfl ?_
  refine Ev.cs (E' := me_M_isKey) rfl mk_M_isKey ls_1_93 rfl rfl (e_M_isKey2 d _ _) ?_
  refine Ev.zb rfl rfl (fun c12 => ?_) (fun c12 => ?_)
  · refine Ev.go 1 rfl ?_
    exact Ev.reti rfl (by unfold an_real; rw [if_neg (fun z => ofn c12 z.2)])
  obtain ⟨k, hk, hk2, rfl⟩ := rg_ex (ofd c5)
  have m := q.mk hk
  have hk8 := m.2.2.2.2
  obtain ⟨y, hy, hy2, rfl⟩ := rg_ex (ofd c12)
  refine Ev.go 1 rfl ?_
  refine Ev.gf rfl lf_1_28_1 hp_5 rfl ?_
  refine Ev.go 5 rfl ?_
  refine Ev.iln rfl hp_12 (by rw [pk_mul, nI_add]) (by omega) (by omega) ?_
  rw [m.2.2.2.1.2.2.2.2.1 y hy]
  refine Ev.go 1 rfl ?_
  exact Ev.reti rfl (by unfold an_real; rw [if_pos ⟨ofd c5, ofd c12⟩, tn_nI hk2, tn_nI hy2])
theorem p_M_keys (d : Nat) (x : sn_X5) {A : sn_A2} {B : sn_B2} (t : sn_H) {μ : sn_S} (q : MS A B μ) (kv cv : Int32) : Sp (d + 6) me_M_keys [.ref 5, .int kv, .int cv] (hp x A B t) (some (.long (an_keys μ kv cv))) (hp x A B t) := by
  refine Sp.of ok_M_keys trivial rfl ?_
  refine Ev.go 2 rfl ?_
  refine Ev.cv (E' := me_M_isBook) rfl mk_M_isBook lv_1_131_1 rfl hp_5 rfl (e_M_isBook (d + 4) x t q _) ?_
  refine Ev.zn rfl rfl (fun c5 => ?_) (fun c5 => ?_)
  · refine Ev.go 4 rfl ?_
    refine Ev.cs (E' := me_M_within) rfl mk_M_within ls_1_77 rfl rfl (e_M_within0 (d + 5) _ _ (n := 4) rfl) ?_
    refine Ev.zb rfl rfl (fun c23 => ?_) (fun c23 => ?_)
    · refine Ev.go 1 rfl ?_
      exact Ev.retl rfl (by unfold an_keys; rw [if_neg (fun z => z (ofd c5)), if_neg (ofn c23)])
    obtain ⟨k, hk, hk2, rfl⟩ := rg_ex (ofd c5)
    have m := q.mk hk
    have hk8 := m.2.2.2.2
    obtain ⟨c, hc, hc2, rfl⟩ := rg_ex (ofd c23)
    refine Ev.go 3 rfl ?_
    refine Ev.cv (E' := me_M_keysOf) rfl mk_M_keysOf lv_1_210_1 rfl hp_5 rfl (e_M_keysOf d x t m rfl rfl hc) ?_
    refine Ev.go 1 rfl ?_
    exact Ev.retl rfl (by unfold an_keys; rw [if_neg (fun z => z (ofd c5)), if_pos (ofd c23), tn_nI hk2, tn_nI hc2])
  refine Ev.go 2 rfl ?_
  exact Ev.retl rfl (by unfold an_keys; rw [if_pos (ofn c5)])
theorem p_M_as (d : Nat) (x : sn_X5) {A : sn_A2} {B : sn_B2} (t : sn_H) {μ : sn_S} (q : MS A B μ) (kv cv : Int32) : Sp (d + 2) me_M_as [.ref 5, .int kv, .int cv] (hp x A B t) (some (.int (an_as μ kv cv))) (hp x A B t) := by
  refine Sp.of ok_M_as trivial rfl ?_
  refine Ev.go 2 rfl ?_
  refine Ev.cv (E' := me_M_isBook) rfl mk_M_isBook lv_1_131_1 rfl hp_5 rfl (e_M_isBook d x t q _) ?_
  refine Ev.zn rfl rfl (fun c5 => ?_) (fun c5 => ?_)
  · refine Ev.go 4 rfl ?_
    refine Ev.cs (E' := me_M_within) rfl mk_M_within ls_1_77 rfl rfl (e_M_within0 (d + 1) _ _ (n := 6) rfl) ?_
    refine Ev.zn rfl rfl (fun c20 => ?_) (fun c20 => ?_)
    · obtain ⟨k, hk, hk2, rfl⟩ := rg_ex (ofd c5)
      have m := q.mk hk
      have hk8 := m.2.2.2.2
      obtain ⟨c, hc, hc2, rfl⟩ := rg_ex (ofd c20)
      have h5 := m.2.2.1.1
      have hu : an_as μ (nI k) (nI c) = if bk (sbk μ k) = c ∨ (c = 0 ∧ bk (sbk μ k) ≠ 3) ∨ (c = 2 ∧ bk (sbk μ k) = 4) then nI k else - nI 1 := by unfold an_as; rw [if_neg (fun z => z (ofd c5)), if_neg (fun z => z (ofd c20)), tn_nI hk2, tn_nI hc2]
      refine Ev.go 1 rfl ?_
      refine Ev.gf rfl lf_1_16_1 hp_5 rfl ?_
      refine Ev.go 1 rfl ?_
      refine Ev.iln rfl hp_8 rfl (by omega) (by omega) ?_
      rw [m.2.2.2.1.1]
      refine Ev.go 2 rfl ?_
      refine Ev.zne rfl rfl (by omega) (fun c34 => ?_) (fun c34 => ?_)
      · refine Ev.go 4 rfl ?_
        refine Ev.ieq rfl rfl rfl (by omega) (by omega) (fun c51 => ?_) (fun c51 => ?_)
        · refine Ev.go 2 rfl ?_
          exact Ev.reti rfl (by rw [hu]; first | exact (if_pos (by omega)).symm | exact (if_neg (by omega)).symm)
        refine Ev.go 1 rfl ?_
        refine Ev.zne rfl rfl (by omega) (fun c56 => ?_) (fun c56 => ?_)
        · refine Ev.go 2 rfl ?_
          exact Ev.reti rfl (by rw [hu]; first | exact (if_pos (by omega)).symm | exact (if_neg (by omega)).symm)
        refine Ev.go 2 rfl ?_
        refine Ev.ine rfl rfl rfl (by omega) (by omega) (fun c61 => ?_) (fun c61 => ?_)
        · refine Ev.go 1 rfl ?_
          exact Ev.reti rfl (by rw [hu]; first | exact (if_pos (by omega)).symm | exact (if_neg (by omega)).symm)
        refine Ev.go 2 rfl ?_
        refine Ev.ine rfl rfl rfl (by omega) (by omega) (fun c66 => ?_) (fun c66 => ?_)
        · refine Ev.go 1 rfl ?_
          exact Ev.reti rfl (by rw [hu]; first | exact (if_pos (by omega)).symm | exact (if_neg (by omega)).symm)
        refine Ev.go 2 rfl ?_
        exact Ev.reti rfl (by rw [hu]; first | exact (if_pos (by omega)).symm | exact (if_neg (by omega)).symm)
      refine Ev.go 2 rfl ?_
      refine Ev.ieq rfl rfl rfl (by omega) (by omega) (fun c39 => ?_) (fun c39 => ?_)
      · refine Ev.go 4 rfl ?_
        refine Ev.ieq rfl rfl rfl (by omega) (by omega) (fun c51 => ?_) (fun c51 => ?_)
        · refine Ev.go 2 rfl ?_
          exact Ev.reti rfl (by rw [hu]; first | exact (if_pos (by omega)).symm | exact (if_neg (by omega)).symm)
        refine Ev.go 1 rfl ?_
        refine Ev.zne rfl rfl (by omega) (fun c56 => ?_) (fun c56 => ?_)
        · refine Ev.go 2 rfl ?_
          exact Ev.reti rfl (by rw [hu]; first | exact (if_pos (by omega)).symm | exact (if_neg (by omega)).symm)
        refine Ev.go 2 rfl ?_
        refine Ev.ine rfl rfl rfl (by omega) (by omega) (fun c61 => ?_) (fun c61 => ?_)
        · refine Ev.go 1 rfl ?_
          exact Ev.reti rfl (by rw [hu]; first | exact (if_pos (by omega)).symm | exact (if_neg (by omega)).symm)
        refine Ev.go 2 rfl ?_
        refine Ev.ine rfl rfl rfl (by omega) (by omega) (fun c66 => ?_) (fun c66 => ?_)
        · refine Ev.go 1 rfl ?_
          exact Ev.reti rfl (by rw [hu]; first | exact (if_pos (by omega)).symm | exact (if_neg (by omega)).symm)
        refine Ev.go 2 rfl ?_
        exact Ev.reti rfl (by rw [hu]; first | exact (if_pos (by omega)).symm | exact (if_neg (by omega)).symm)
      refine Ev.go 2 rfl ?_
      refine Ev.go 3 rfl ?_
      refine Ev.ieq rfl rfl rfl (by omega) (by omega) (fun c51 => ?_) (fun c51 => ?_)
      · refine Ev.go 2 rfl ?_
        exact Ev.reti rfl (by rw [hu]; first | exact (if_pos (by omega)).symm | exact (if_neg (by omega)).symm)
      refine Ev.go 1 rfl ?_
      refine Ev.zne rfl rfl (by omega) (fun c56 => ?_) (fun c56 => ?_)
      · refine Ev.go 2 rfl ?_
        exact Ev.reti rfl (by rw [hu]; first | exact (if_pos (by omega)).symm | exact (if_neg (by omega)).symm)
      refine Ev.go 2 rfl ?_
      refine Ev.ine rfl rfl rfl (by omega) (by omega) (fun c61 => ?_) (fun c61 => ?_)
      · refine Ev.go 1 rfl ?_
        exact Ev.reti rfl (by rw [hu]; first | exact (if_pos (by omega)).symm | exact (if_neg (by omega)).symm)
      refine Ev.go 2 rfl ?_
      refine Ev.ine rfl rfl rfl (by omega) (by omega) (fun c66 => ?_) (fun c66 => ?_)
      · refine Ev.go 1 rfl ?_
        exact Ev.reti rfl (by rw [hu]; first | exact (if_pos (by omega)).symm | exact (if_neg (by omega)).symm)
      refine Ev.go 2 rfl ?_
      exact Ev.reti rfl (by rw [hu]; first | exact (if_pos (by omega)).symm | exact (if_neg (by omega)).symm)
    refine Ev.go 1 rfl ?_
    exact Ev.reti rfl (by unfold an_as; rw [if_neg (fun z => z (ofd c5)), if_pos (ofn c20)])
  refine Ev.go 1 rfl ?_
  exact Ev.reti rfl (by unfold an_as; rw [if_pos (ofn c5)])
theorem p_M_fewest (d : Nat) (x : sn_X5) {A : sn_A2} {B : sn_B2} (t : sn_H) {μ : sn_S} (q : MS A B μ) (s : Int64) (lv ev : Int32) : Sp (d + 3) me_M_fewest [.ref 5, .long s, .int lv, .int ev] (hp x A B t) (some (.int (an_fewest μ s lv ev))) (hp x A B t) := by
  refine Sp.of ok_M_fewest trivial rfl ?_
  refine Ev.go 2 rfl ?_
  refine Ev.cv (E' := me_M_isLaw) rfl mk_M_isLaw lv_1_89_1 rfl hp_5 rfl (e_M_isLaw (d + 1) x t q.1.1 q.2.1 _) ?_
  refine Ev.zn rfl rfl (fun c5 => ?_) (fun c5 => ?_)
  · refine Ev.go 1 rfl ?_
    refine Ev.cs (E' := me_M_isSet) rfl mk_M_isSet ls_1_108 rfl rfl (e_M_isSet2 (d + 1) _ _) ?_
    refine Ev.zb rfl rfl (fun c15 => ?_) (fun c15 => ?_)
    · refine Ev.go 1 rfl ?_
      exact Ev.reti rfl (by unfold an_fewest; rw [if_neg (fun z => z (ofd c5)), if_pos (fun z => ofn c15 z.1)])
    refine Ev.go 4 rfl ?_
    refine Ev.cs (E' := me_M_within) rfl mk_M_within ls_1_77 rfl rfl (e_M_within0 (d + 2) _ _ (n := 32) rfl) ?_
    refine Ev.zn rfl rfl (fun c28 => ?_) (fun c28 => ?_)
    · obtain ⟨l, hl, hl2, rfl⟩ := rg_ex (ofd c5)
      obtain ⟨e, he, he2, rfl⟩ := rg_ex (ofd c28)
      obtain ⟨s, hs, rfl⟩ := sg_ex (ofd c15)
      have h8 := q.1.1.1
      have h9 := q.1.1.2 l hl
      have hu : an_fewest μ (lN s) (nI l) (nI e) = onI (fwF ((sw μ).2.1 l) ((sw μ).2.2 l) s e 31 2) := by unfold an_fewest; rw [if_neg (fun z => z (ofd c5)), if_neg (fun z => z ⟨ofd c15, ofd c28⟩), tn_nI hl2, tn_nI he2, ts_lN hs]
      rw [hu]
      refine Ev.go 2 rfl ?_
      generalize hz : onI (fwF ((sw μ).2.1 l) ((sw μ).2.2 l) s e 31 2) = z
      have L : ∀ (n : Nat) (m : Nat) (mv : Int32), m + n = 33 → 2 ≤ m → onI (fwF ((sw μ).2.1 l) ((sw μ).2.2 l) s e n m) = z → mv = nI m → Ev o0 (d + 3) me_M_fewest 37 [.ref 5, .long (lN s), .retAddr 0, .int (nI l), .int (nI e), .int mv] [] (hp x A B t) (some (.int z)) (hp x A B t) := by
        intro n
        induction n using Nat.strongRecOn with
        | _ n ih =>
          intro m mv h1 h0 hn e3
          subst e3
          refine Ev.go 2 rfl ?_
          refine Ev.igt rfl rfl rfl (by omega) (by omega) (fun c41 => ?_) (fun c41 => ?_)
          · refine Ev.go 1 rfl ?_
            exact Ev.reti rfl (by rw [← hn, show n = 0 by omega]; rfl)
          refine Ev.go 1 rfl ?_
          refine Ev.gf rfl lf_1_7_1 hp_5 rfl ?_
          refine Ev.go 1 rfl ?_
          refine Ev.iln rfl hp_6 rfl (by omega) (by omega) ?_
          rw [(q.2.1.2 l hl).1]
          refine Ev.go 1 rfl ?_
          refine Ev.gf rfl lf_1_13_1 hp_5 rfl ?_
          refine Ev.go 1 rfl ?_
          refine Ev.iln rfl hp_7 rfl (by omega) (by omega) ?_
          rw [(q.2.1.2 l hl).2]
          refine Ev.go 2 rfl ?_
          refine Ev.cs (E' := me_M_falseBy) rfl mk_M_falseBy ls_1_116 rfl rfl (e_M_falseBy d _ rfl rfl rfl rfl h9.2.1 h9.2.2 h0 (by omega) hs) ?_
          refine Ev.go 1 rfl ?_
          refine Ev.igt rfl rfl rfl (by have := flBy_le ((sw μ).2.1 l) ((sw μ).2.2 l) m s; omega) (by omega) (fun c64 => ?_) (fun c64 => ?_)
          · refine Ev.go 2 rfl ?_
            obtain ⟨n, rfl⟩ : ∃ z, n = z + 1 := ⟨n - 1, by omega⟩
            exact ih n (by omega) (m + 1) _ (by omega) (by omega) (by rw [← hn]; simp only [fwF]; rw [if_neg (by omega)]) (by rw [nI_add])
          refine Ev.go 1 rfl ?_
          exact Ev.reti rfl (by rw [← hn, show n = n - 1 + 1 by omega]; simp only [fwF]; rw [if_pos c64]; rfl)
      exact L 31 2 _ (by omega) (by omega) hz rfl
    refine Ev.go 1 rfl ?_
    exact Ev.reti rfl (by unfold an_fewest; rw [if_neg (fun z => z (ofd c5)), if_pos (fun z => ofn c28 z.2)])
  refine Ev.go 1 rfl ?_
  exact Ev.reti rfl (by unfold an_fewest; rw [if_pos (ofn c5)])
