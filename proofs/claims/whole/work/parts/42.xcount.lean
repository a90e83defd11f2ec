/-! THE CLASS: count, digest -/
theorem an_about_y {μ : sn_S} {k c : Nat} (hk : k < snb μ) (h8 : snb μ ≤ 8) (hc : c < 6) : an_about μ (nI k) (nI c) = nI (abt (sbk μ k) c) := by
  unfold an_about
  rw [if_neg (fun z => z ((rg_nI (by omega)).mpr hk)), if_pos ((rg_nI (by omega)).mpr hc), tn_nI (by omega), tn_nI (by omega)]
theorem an_at_y {μ : sn_S} {k i : Nat} (hk : k < snb μ) (h8 : snb μ ≤ 8) (hi : i < bm (sbk μ k)) (hm : bm (sbk μ k) ≤ 32) : an_at μ (nI k) (nI i) = nI (bn (sbk μ k) i) := by
  unfold an_at
  rw [tn_nI (by omega), if_pos ⟨(rg_nI (by omega)).mpr hk, (rg_nI (by omega)).mpr hi⟩, tn_nI (by omega)]
theorem an_row_y {μ : sn_S} {k i : Nat} (hk : k < snb μ) (h8 : snb μ ≤ 8) (hi : i < bc (sbk μ k)) (hm : bc (sbk μ k) ≤ 6) : an_row μ (nI k) (nI i) = lN (br (sbk μ k) i) := by
  unfold an_row
  rw [tn_nI (by omega), if_pos ⟨(rg_nI (by omega)).mpr hk, (rg_nI (by omega)).mpr hi⟩, tn_nI (by omega)]
theorem an_keys_y {μ : sn_S} {k c : Nat} (hk : k < snb μ) (h8 : snb μ ≤ 8) (hc : c < 4) : an_keys μ (nI k) (nI c) = lN (kof (sw μ) (sbk μ k) c) := by
  unfold an_keys
  rw [if_neg (fun z => z ((rg_nI (by omega)).mpr hk)), if_pos ((rg_nI (by omega)).mpr hc), tn_nI (by omega), tn_nI (by omega)]
theorem an_value_y {μ : sn_S} {l y : Nat} (hl : l < (sw μ).1) (h8 : (sw μ).1 ≤ 8) (hy : y < 32) : an_value μ (nI l) (nI y) = nI (val ((sw μ).2.1 l) ((sw μ).2.2 l) y) := by
  unfold an_value
  rw [if_pos ⟨(rg_nI (by omega)).mpr hl, (rg_nI (by omega)).mpr hy⟩, tn_nI (by omega), tn_nI (by omega)]
theorem e_X_keysReallySomewhere (d : Nat) {h : sn_H} {μ : sn_S} (q : XR h μ) : Sp (d + 1) me_X_keysReallySomewhere [.ref 1] h (some (.long (lN (sall μ (snb μ))))) h := by
  obtain ⟨⟨hw, h8, hWB⟩, fl, fb, ad, ru, cw, o⟩ := q
  have hw8 := hw.1
  have hX := o.1
  refine Sp.of ok_X_keysReallySomewhere trivial rfl ?_
  have L : ∀ (n : Nat) (i : Nat) (bv : Int64) (iv : Int32), (i + n = snb μ) → (bv = lN (sall μ i)) → (iv = nI i) → Ev o0 (d + 1) me_X_keysReallySomewhere 4 [.ref 1, .long bv, .retAddr 0, .int iv] [] h (some (.long (lN (sall μ (snb μ))))) h := by
    intro n
    induction n using Nat.strongRecOn with
    | _ n ih =>
      intro i bv iv h1 h2 e3
      subst h2
      subst e3
      refine Ev.go 2 rfl ?_
      refine Ev.gf rfl lf_0_25_0 hX rfl ?_
      refine Ev.ige rfl rfl rfl (by omega) (by omega) (fun c9 => ?_) (fun c9 => ?_)
      · refine Ev.go 1 rfl ?_
        exact Ev.retl rfl (by rw [show i = snb μ by omega])
      have hk1 : i < snb μ := by omega
      obtain ⟨hfb, h27, hR⟩ := o.2.2.2.2.2.2.1 i hk1
      have hb := hWB i hk1
      have hB := hR.1.1
      have hci : sn_bk (bk (sbk μ i) + 3) := sn_bk_of hb.1
      refine Ev.go 2 rfl ?_
      refine Ev.gf rfl lf_0_21_0 hX rfl ?_
      refine Ev.go 1 rfl ?_
      refine Ev.aln rfl (Or.inr rfl) o.2.2.1 rfl (by omega) (by omega) hfb ?_
      refine Ev.cv (E' := vt_keysReally (bk (sbk μ i) + 3)) rfl (mkb_keysReally hci) (lvb_0_129 hci) rfl hB rfl (v_keysReally d hb hB hR.2.2.1) ?_
      refine Ev.go 4 rfl ?_
      exact ih (n - 1) (by omega) (i + 1) _ _ (by omega) (by rw [fb_orL]; rfl) (by rw [nI_add])
  refine Ev.go 4 rfl ?_
  exact L (snb μ) 0 _ _ (by omega) rfl rfl
theorem e_X_keysHeldEverywhere (d : Nat) {h : sn_H} {μ : sn_S} (q : XR h μ) : Sp (d + 5) me_X_keysHeldEverywhere [.ref 1] h (some (.long (lN (aall μ (snb μ))))) h := by
  obtain ⟨⟨hw, h8, hWB⟩, fl, fb, ad, ru, cw, o⟩ := q
  have hw8 := hw.1
  have hX := o.1
  refine Sp.of ok_X_keysHeldEverywhere trivial rfl ?_
  have L : ∀ (n : Nat) (i : Nat) (bv : Int64) (iv : Int32), (i + n = snb μ) → (bv = lN (aall μ i)) → (iv = nI i) → Ev o0 (d + 5) me_X_keysHeldEverywhere 17 [.ref 1, .long bv, .retAddr 0, .int iv] [] h (some (.long (lN (aall μ (snb μ))))) h := by
    intro n
    induction n using Nat.strongRecOn with
    | _ n ih =>
      intro i bv iv h1 h2 e3
      subst h2
      subst e3
      refine Ev.go 2 rfl ?_
      refine Ev.gf rfl lf_0_25_0 hX rfl ?_
      refine Ev.ige rfl rfl rfl (by omega) (by omega) (fun c22 => ?_) (fun c22 => ?_)
      · refine Ev.go 1 rfl ?_
        exact Ev.retl rfl (by rw [show i = snb μ by omega])
      have hk1 : i < snb μ := by omega
      obtain ⟨hfb, h27, hR⟩ := o.2.2.2.2.2.2.1 i hk1
      have hb := hWB i hk1
      have hB := hR.1.1
      have hci : sn_bk (bk (sbk μ i) + 3) := sn_bk_of hb.1
      refine Ev.go 2 rfl ?_
      refine Ev.gf rfl lf_0_21_0 hX rfl ?_
      refine Ev.go 1 rfl ?_
      refine Ev.aln rfl (Or.inr rfl) o.2.2.1 rfl (by omega) (by omega) hfb ?_
      refine Ev.cv (E' := vt_keysHeld (bk (sbk μ i) + 3)) rfl (mkb_keysHeld hci) (lvb_0_173 hci) rfl hB rfl (v_keysHeld d hw hb hR) ?_
      refine Ev.go 4 rfl ?_
      exact ih (n - 1) (by omega) (i + 1) _ _ (by omega) (by rw [fb_andL]; rfl) (by rw [nI_add])
  refine Ev.go 1 rfl ?_
  refine Ev.gf rfl lf_0_25_0 hX rfl ?_
  refine Ev.zne rfl rfl (by omega) (fun c4 => ?_) (fun c4 => ?_)
  · refine Ev.go 4 rfl ?_
    exact L (snb μ) 0 _ _ (by omega) (by unfold aall; rw [if_neg (by omega)]; rfl) rfl
  refine Ev.go 2 rfl ?_
  refine Ev.go 3 rfl ?_
  exact L (snb μ) 0 _ _ (by omega) (by unfold aall; rw [if_pos c4]) rfl
theorem p_X_count (d : Nat) {h : sn_H} {μ : sn_S} (q : XR h μ) (cv : Int32) : Sp (d + 6) me_X_count [.ref 1, .int cv] h (some (.int (an_count μ cv))) h := by
  have q0 := q
  obtain ⟨⟨hw, h8, hWB⟩, fl, fb, ad, ru, cw, o⟩ := q
  have hw8 := hw.1
  have hX := o.1
  refine Sp.of ok_X_count trivial rfl ?_
  refine Ev.go 1 rfl ?_
  by_cases hc : rg cv 4
  · obtain ⟨c, hc1, hc2, rfl⟩ := rg_ex hc
    have hc4 : c = 0 ∨ c = 1 ∨ c = 2 ∨ c = 3 := by omega
    rcases hc4 with rfl | rfl | rfl | rfl
    · refine Ev.p rfl rfl trivial ?_
      refine Ev.go 1 rfl ?_
      refine Ev.gf rfl lf_0_15_0 hX rfl ?_
      exact Ev.reti rfl (rfl)
    · refine Ev.p rfl rfl trivial ?_
      refine Ev.go 1 rfl ?_
      refine Ev.gf rfl lf_0_25_0 hX rfl ?_
      exact Ev.reti rfl (by unfold an_count; rw [if_neg (by decide), if_pos rfl])
    · refine Ev.p rfl rfl trivial ?_
      refine Ev.go 1 rfl ?_
      refine Ev.cv (E' := me_X_keysReallySomewhere) rfl mk_X_keysReallySomewhere lv_0_243_0 rfl hX rfl (e_X_keysReallySomewhere (d + 4) q0) ?_
      refine Ev.cs (E' := me_JL_bitCount) rfl mk_JL_bitCount ls_0_123 rfl rfl (e_JL_bitCount (d + 5) h rfl (sall_lt _ _)) ?_
      exact Ev.reti rfl (by unfold an_count; rw [if_neg (by decide), if_neg (by decide), if_pos rfl])
    · refine Ev.p rfl rfl trivial ?_
      refine Ev.go 1 rfl ?_
      refine Ev.cv (E' := me_X_keysHeldEverywhere) rfl mk_X_keysHeldEverywhere lv_0_246_0 rfl hX rfl (e_X_keysHeldEverywhere d q0) ?_
      refine Ev.cs (E' := me_JL_bitCount) rfl mk_JL_bitCount ls_0_123 rfl rfl (e_JL_bitCount (d + 5) h rfl (aall_lt _ _)) ?_
      exact Ev.reti rfl (by unfold an_count; rw [if_neg (by decide), if_neg (by decide), if_neg (by decide), if_pos rfl])
  · refine Ev.swo rfl rfl (by unfold rg at hc; omega) rfl ?_
    refine Ev.go 1 rfl ?_
    exact Ev.reti rfl (by unfold an_count; rw [if_neg (fun e => hc (by rw [e]; decide)), if_neg (fun e => hc (by rw [e]; decide)), if_neg (fun e => hc (by rw [e]; decide)), if_neg (fun e => hc (by rw [e]; decide))])
theorem e_X_digestOfBook (d : Nat) {h : sn_H} {μ : sn_S} (q : XR h μ) {k : Nat} {kv : Int32} (ek : kv = nI k) (hk : k < snb μ) (h0 : Int64) : Sp (d + 6) me_X_digestOfBook [.ref 1, .long h0, .int kv] h (some (.long (dgB (sw μ) (sbk μ k) h0))) h := by
  subst ek
  have q0 := q
  obtain ⟨⟨hw, h8, hWB⟩, fl, fb, ad, ru, cw, o⟩ := q
  have hw8 := hw.1
  have hX := o.1
  have hm := (hWB k hk).2.1
  have hbc := (hWB k hk).2.2.2.2.2.2.2.2.2.2.1
  have hab : ∀ c, c < 6 → an_about μ (nI k) (nI c) = nI (abt (sbk μ k) c) := fun c hc => an_about_y hk h8 hc
  generalize hz : dgB (sw μ) (sbk μ k) h0 = z
  refine Sp.of ok_X_digestOfBook trivial rfl ?_
  have K4 : ∀ (n : Nat) (i : Nat) (av : Int64) (iv : Int32) (v6 : Int32) (v7 : Int32), (i + n = 4) → (av = dgF (fun c => lN (kof (sw μ) (sbk μ k) c)) i (dgF (fun i => lN (br (sbk μ k) i)) (bc (sbk μ k)) (dgF (fun i => (nI (bn (sbk μ k) i)).toInt64) (bm (sbk μ k)) (dgF (fun c => (nI (abt (sbk μ k) c)).toInt64) 6 h0)))) → (iv = nI i) → Ev o0 (d + 6) me_X_digestOfBook 119 [.ref 1, .long h0, .retAddr 0, .int (nI k), .long av, .retAddr 0, .int v6, .int v7, .int iv] [] h (some (.long z)) h := by
    intro n
    induction n using Nat.strongRecOn with
    | _ n ih =>
      intro i av iv v6 v7 h1 h2 e3
      subst h2
      subst e3
      refine Ev.go 2 rfl ?_
      refine Ev.igt rfl rfl rfl (by omega) (by omega) (fun c122 => ?_) (fun c122 => ?_)
      · refine Ev.go 1 rfl ?_
        exact Ev.retl rfl (by rw [← hz, show i = 4 by omega]; rfl)
      refine Ev.go 6 rfl ?_
      refine Ev.cv (E' := me_X_keys) rfl mk_X_keys lv_0_303_0 rfl hX rfl (p_X_keys d q0 _ _) ?_
      rw [an_keys_y hk h8 (by omega)]
      refine Ev.go 4 rfl ?_
      exact ih (n - 1) (by omega) (i + 1) _ _ _ _ (by omega) rfl (by rw [nI_add])
  have K3 : ∀ (n : Nat) (i : Nat) (av : Int64) (iv : Int32) (v6 : Int32), (i + n = bc (sbk μ k)) → (av = dgF (fun i => lN (br (sbk μ k) i)) i (dgF (fun i => (nI (bn (sbk μ k) i)).toInt64) (bm (sbk μ k)) (dgF (fun c => (nI (abt (sbk μ k) c)).toInt64) 6 h0))) → (iv = nI i) → Ev o0 (d + 6) me_X_digestOfBook 87 [.ref 1, .long h0, .retAddr 0, .int (nI k), .long av, .retAddr 0, .int v6, .int (nI (bc (sbk μ k))), .int iv] [] h (some (.long z)) h := by
    intro n
    induction n using Nat.strongRecOn with
    | _ n ih =>
      intro i av iv v6 h1 h2 e3
      subst h2
      subst e3
      refine Ev.go 2 rfl ?_
      refine Ev.ige rfl rfl rfl (by omega) (by omega) (fun c91 => ?_) (fun c91 => ?_)
      · refine Ev.go 2 rfl ?_
        have e4 : i = bc (sbk μ k) := by omega
        subst e4
        exact K4 4 0 _ _ _ _ (by omega) rfl rfl
      refine Ev.go 6 rfl ?_
      refine Ev.cv (E' := me_X_row) rfl mk_X_row lv_0_299_0 rfl hX rfl (p_X_row (d + 4) q0 _ _) ?_
      rw [an_row_y hk h8 (by omega) hbc]
      refine Ev.go 4 rfl ?_
      exact ih (n - 1) (by omega) (i + 1) _ _ _ (by omega) rfl (by rw [nI_add])
  have K2 : ∀ (n : Nat) (i : Nat) (av : Int64) (iv : Int32) (v8 : Value), (i + n = bm (sbk μ k)) → (av = dgF (fun i => (nI (bn (sbk μ k) i)).toInt64) i (dgF (fun c => (nI (abt (sbk μ k) c)).toInt64) 6 h0)) → (iv = nI i) → Ev o0 (d + 6) me_X_digestOfBook 46 [.ref 1, .long h0, .retAddr 0, .int (nI k), .long av, .retAddr 0, .int (nI (bm (sbk μ k))), .int iv, v8] [] h (some (.long z)) h := by
    intro n
    induction n using Nat.strongRecOn with
    | _ n ih =>
      intro i av iv v8 h1 h2 e3
      subst h2
      subst e3
      refine Ev.go 2 rfl ?_
      refine Ev.ige rfl rfl rfl (by omega) (by omega) (fun c50 => ?_) (fun c50 => ?_)
      · refine Ev.go 3 rfl ?_
        refine Ev.cv (E' := me_X_about) rfl mk_X_about lv_0_293_0 rfl hX rfl (p_X_about (d + 4) q0 _ _) ?_
        refine Ev.go 3 rfl ?_
        have e4 : i = bm (sbk μ k) := by omega
        subst e4
        rw [hab 5 (by omega), show abt (sbk μ k) 5 = bc (sbk μ k) from rfl]
        exact K3 (bc (sbk μ k)) 0 _ _ _ (by omega) rfl rfl
      refine Ev.go 6 rfl ?_
      refine Ev.cv (E' := me_X_at) rfl mk_X_at lv_0_296_0 rfl hX rfl (p_X_at (d + 4) q0 _ _) ?_
      rw [an_at_y hk h8 (by omega) (by omega)]
      refine Ev.go 5 rfl ?_
      exact ih (n - 1) (by omega) (i + 1) _ _ _ (by omega) rfl (by rw [nI_add])
  have K1 : ∀ (n : Nat) (i : Nat) (av : Int64) (iv : Int32) (v7 : Value) (v8 : Value), (i + n = 6) → (av = dgF (fun c => (nI (abt (sbk μ k) c)).toInt64) i (h0)) → (iv = nI i) → Ev o0 (d + 6) me_X_digestOfBook 6 [.ref 1, .long h0, .retAddr 0, .int (nI k), .long av, .retAddr 0, .int iv, v7, v8] [] h (some (.long z)) h := by
    intro n
    induction n using Nat.strongRecOn with
    | _ n ih =>
      intro i av iv v7 v8 h1 h2 e3
      subst h2
      subst e3
      refine Ev.go 2 rfl ?_
      refine Ev.igt rfl rfl rfl (by omega) (by omega) (fun c9 => ?_) (fun c9 => ?_)
      · refine Ev.go 3 rfl ?_
        refine Ev.cv (E' := me_X_about) rfl mk_X_about lv_0_293_0 rfl hX rfl (p_X_about (d + 4) q0 _ _) ?_
        refine Ev.go 3 rfl ?_
        have e4 : i = 6 := by omega
        subst e4
        rw [hab 1 (by omega), show abt (sbk μ k) 1 = bm (sbk μ k) from rfl]
        exact K2 (bm (sbk μ k)) 0 _ _ _ (by omega) rfl rfl
      refine Ev.go 6 rfl ?_
      refine Ev.cv (E' := me_X_about) rfl mk_X_about lv_0_293_0 rfl hX rfl (p_X_about (d + 4) q0 _ _) ?_
      rw [an_about_y hk h8 (by omega)]
      refine Ev.go 5 rfl ?_
      exact ih (n - 1) (by omega) (i + 1) _ _ _ _ (by omega) rfl (by rw [nI_add])
  refine Ev.go 4 rfl ?_
  exact K1 6 0 _ _ _ _ (by omega) rfl rfl
theorem p_X_digest (d : Nat) {h : sn_H} {μ : sn_S} (q : XR h μ) : Sp (d + 7) me_X_digest [.ref 1] h (some (.long (an_digest μ))) h := by
  have q0 := q
  obtain ⟨⟨hw, h8, hWB⟩, fl, fb, ad, ru, cw, o⟩ := q
  have hw8 := hw.1
  have hX := o.1
  generalize hz : an_digest μ = z
  refine Sp.of ok_X_digest trivial rfl ?_
  have L3 : ∀ (n : Nat) (i : Nat) (av : Int64) (iv : Int32) (v4 : Value), (i + n = 4) → (av = dgF (fun c => (an_count μ (nI c)).toInt64) i (dgS μ (snb μ) (dgL (sw μ) (sw μ).1 367))) → (iv = nI i) → Ev o0 (d + 7) me_X_digest 76 [.ref 1, .long av, .retAddr 0, .int iv, v4] [] h (some (.long z)) h := by
    intro n
    induction n using Nat.strongRecOn with
    | _ n ih =>
      intro i av iv v4 h1 h2 e3
      subst h2
      subst e3
      refine Ev.go 2 rfl ?_
      refine Ev.igt rfl rfl rfl (by omega) (by omega) (fun c78 => ?_) (fun c78 => ?_)
      · refine Ev.go 1 rfl ?_
        exact Ev.retl rfl (by rw [← hz, show i = 4 by omega]; rfl)
      refine Ev.go 5 rfl ?_
      refine Ev.cv (E' := me_X_count) rfl mk_X_count lv_0_260_0 rfl hX rfl (p_X_count d q0 _) ?_
      refine Ev.go 5 rfl ?_
      exact ih (n - 1) (by omega) (i + 1) _ _ _ (by omega) rfl (by rw [nI_add])
  have L2 : ∀ (n : Nat) (k : Nat) (av : Int64) (kv : Int32) (v4 : Value), (k + n = snb μ) → (av = dgS μ k (dgL (sw μ) (sw μ).1 367)) → (kv = nI k) → Ev o0 (d + 7) me_X_digest 53 [.ref 1, .long av, .retAddr 0, .int kv, v4] [] h (some (.long z)) h := by
    intro n
    induction n using Nat.strongRecOn with
    | _ n ih =>
      intro k av kv v4 h1 h2 e3
      subst h2
      subst e3
      refine Ev.go 2 rfl ?_
      refine Ev.gf rfl lf_0_25_0 hX rfl ?_
      refine Ev.ige rfl rfl rfl (by omega) (by omega) (fun c58 => ?_) (fun c58 => ?_)
      · refine Ev.go 2 rfl ?_
        have e : k = snb μ := by omega
        subst e
        exact L3 4 0 _ _ _ (by omega) rfl rfl
      refine Ev.go 3 rfl ?_
      refine Ev.cv (E' := me_X_digestOfBook) rfl mk_X_digestOfBook lv_0_256_0 rfl hX rfl (e_X_digestOfBook d q0 rfl (by omega) _) ?_
      refine Ev.go 3 rfl ?_
      exact ih (n - 1) (by omega) (k + 1) _ _ _ (by omega) rfl (by rw [nI_add])
  have L1 : ∀ (n : Nat) (l : Nat) (av : Int64) (lv : Int32) (v4 : Value), (l + n = (sw μ).1) → (av = dgL (sw μ) l 367) → (lv = nI l) → Ev o0 (d + 7) me_X_digest 6 [.ref 1, .long av, .retAddr 0, .int lv, v4] [] h (some (.long z)) h := by
    intro n
    induction n using Nat.strongRecOn with
    | _ n ih =>
      intro l av lv v4 h1 h2 e3
      subst h2
      subst e3
      refine Ev.go 2 rfl ?_
      refine Ev.gf rfl lf_0_15_0 hX rfl ?_
      refine Ev.ige rfl rfl rfl (by omega) (by omega) (fun c11 => ?_) (fun c11 => ?_)
      · refine Ev.go 2 rfl ?_
        have e : l = (sw μ).1 := by omega
        subst e
        exact L2 (snb μ) 0 _ _ _ (by omega) rfl rfl
      refine Ev.go 2 rfl ?_
      have L1i : ∀ (n2 : Nat) (i : Nat) (av : Int64) (iv : Int32), (i + n2 = 32) → (av = dgF (fun x => (nI (val ((sw μ).2.1 l) ((sw μ).2.2 l) x)).toInt64) i (dgL (sw μ) l 367)) → (iv = nI i) → Ev o0 (d + 7) me_X_digest 17 [.ref 1, .long av, .retAddr 0, .int (nI l), .int iv] [] h (some (.long z)) h := by
        intro n2
        induction n2 using Nat.strongRecOn with
        | _ n2 ih2 =>
          intro i av iv g1 g2 g3
          subst g2
          subst g3
          refine Ev.go 2 rfl ?_
          refine Ev.ige rfl rfl rfl (by omega) (by omega) (fun c21 => ?_) (fun c21 => ?_)
          · have e32 : i = 32 := by omega
            subst e32
            refine Ev.go 2 rfl ?_
            exact ih (n - 1) (by omega) (l + 1) _ _ _ (by omega) rfl (by rw [nI_add])
          refine Ev.go 6 rfl ?_
          refine Ev.cv (E' := me_X_value) rfl mk_X_value lv_0_253_0 rfl hX rfl (p_X_value (d + 5) q0 _ _) ?_
          rw [an_value_y (by omega) hw8 (by omega)]
          refine Ev.go 5 rfl ?_
          exact ih2 (n2 - 1) (by omega) (i + 1) _ _ (by omega) rfl (by rw [nI_add])
      exact L1i 32 0 _ _ (by omega) rfl rfl
  refine Ev.go 4 rfl ?_
  exact L1 (sw μ).1 0 _ _ _ (by omega) rfl rfl
