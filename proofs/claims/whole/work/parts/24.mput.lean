/-! THE REFERENCE: put, take -/
theorem bn_bnu (b : sn_Bk) (g : Nat → Nat) : bn (bnu b g) = g := rfl
theorem bm_bnu (b : sn_Bk) (g : Nat → Nat) : bm (bnu b g) = bm b := rfl
theorem bt_btu (b : sn_Bk) (g : Nat → Nat) : bt (btu b g) = g := rfl
theorem MS.mkg {A : sn_A2} {B : sn_B2} {μ : sn_S} {k : Nat} {c : sn_Bk} (h : MS A B (setB μ k c)) (hk : k < snb μ) : MK A B (sw μ) k c := by
  have := h.mk (k := k) hk
  rw [setB_k] at this
  exact this
theorem MS.numg {A : sn_A2} {B : sn_B2} {μ : sn_S} {k : Nat} {b : sn_Bk} {g : Nat → Nat} (h : MS A B (setB μ k (bnu b g))) (hk : k < snb μ) {i v : Nat} (hi : i < bm b) (hm : bm b ≤ 32) (hv : v ≤ 7) : MS (uA A 11 (upd (A 11) (32 * k + i) (nI v))) B (setB μ k (bnu b (uN g i v))) := by
  have := h.num (k := k) (i := i) (v := v) rfl hk (by omega) hv (fun q => by rw [setB_k] at q; have : bm (bnu b g) = bm b := rfl; omega)
  rw [setB_k, setB_u] at this
  exact this
theorem MS.numg0 {A : sn_A2} {B : sn_B2} {μ : sn_S} {k : Nat} {b : sn_Bk} {g : Nat → Nat} (h : MS A B (setB μ k (bnu b g))) (hk : k < snb μ) {i v : Nat} (hi : i < 32) (hv : v ≤ 7) (hz : bm b ≤ i → v = 0) : MS (uA A 11 (upd (A 11) (32 * k + i) (nI v))) B (setB μ k (bnu b (uN g i v))) := by
  have := h.num (k := k) (i := i) (v := v) rfl hk hi hv (fun q => by rw [setB_k] at q; exact hz q)
  rw [setB_k, setB_u] at this
  exact this
theorem MS.timg {A : sn_A2} {B : sn_B2} {μ : sn_S} {k : Nat} {b : sn_Bk} (h : MS A B (setB μ k b)) (hk : k < snb μ) {i v : Nat} (hi : i < 32) (hv : v ≤ 99) : MS (uA A 12 (upd (A 12) (32 * k + i) (nI v))) B (setB μ k (btu b (uN (bt b) i v))) := by
  have := h.tim (k := k) (i := i) (v := v) rfl hk hi hv
  rw [setB_k, setB_u] at this
  exact this
theorem MS.self {A : sn_A2} {B : sn_B2} {μ : sn_S} (h : MS A B μ) (k : Nat) : MS A B (setB μ k (sbk μ k)) := by rw [setB_id]; exact h
theorem e_M_push (d : Nat) (x : sn_X5) {A : sn_A2} {B : sn_B2} (t : sn_H) {μ : sn_S} (q : MS A B μ) {k y : Nat} {kv yv : Int32} (e1 : kv = nI k) (e2 : yv = nI y) (hk : k < snb μ) (hy : y < 32) {w : sn_Lw} {b : sn_Bk} (hw : w = sw μ) (hb : b = sbk μ k) (h3 : bk b = 3) : SpP (d + 2) me_M_push [.ref 5, .int kv, .int yv] (hp x A B t) (fun (r : Option Value) (h' : sn_H) => ∃ A', h' = hp x A' B t ∧ r = some (.int (b2i (psh (bm b) (bn b) (frs w b y) (mrk w b 1 y)).isSome)) ∧ MS A' B (setB μ k (bnu b ((psh (bm b) (bn b) (frs w b y) (mrk w b 1 y)).getD (bn b))))) := by
  subst e1; subst e2
  have hk8 : k < 8 := by have := q.1.2.1; omega
  have hwb : WB w.1 b := by rw [hw, hb]; exact q.1.2.2 k hk
  have hm := hwb.2.1
  have h7 := hwb.2.2.2.2.2.2.2.1
  generalize hPe : (fun (r : Option Value) (h' : sn_H) => ∃ A', h' = hp x A' B t ∧ r = some (.int (b2i (psh (bm b) (bn b) (frs w b y) (mrk w b 1 y)).isSome)) ∧ MS A' B (setB μ k (bnu b ((psh (bm b) (bn b) (frs w b y) (mrk w b 1 y)).getD (bn b))))) = P
  refine SpP.of ok_M_push (fun r h' z => by rw [← hPe] at z; obtain ⟨_, _, rfl, _⟩ := z; exact b2i_rc _) rfl ?_
  have L4 : psh (bm b) (bn b) (frs w b y) (mrk w b 1 y) = none → ∀ (n : Nat) (A : sn_A2) (g : Nat → Nat) (i : Nat) (iv : Int32), (i + n = 32) → (MS A B (setB μ k (bnu b g))) → (∀ j, j < 32 → A 15 j = nI (bn b j)) → (∀ j, j < i → g j = bn b j) → (iv = nI i) → ∀ (v3 v4 v5 v6 v7 : Int32) (v9 : Value), EvP o0 (d + 2) me_M_push 219 [.ref 5, .int (nI k), .int (nI y), .int v3, .int v4, .int v5, .int v6, .int v7, .int iv, v9] [] (hp x A B t) P := by
    intro hG n
    induction n using Nat.strongRecOn with
    | _ n ih =>
      intro A g i iv h1 hM hW hg e3
      subst e3
      intro v3 v4 v5 v6 v7 v9
      refine EvP.s (fun _ _ K => Ev.go 2 rfl K) ?_
      refine EvP.ige rfl rfl rfl (by omega) (by omega) (fun c223 => ?_) (fun c223 => ?_)
      · refine EvP.s (fun _ _ K => Ev.go 1 rfl K) ?_
        refine ⟨_, _, Ev.reti rfl rfl, ?_⟩
        rw [← hPe]
        refine ⟨A, rfl, by rw [hG]; rfl, ?_⟩
        rw [hG]
        have eg : g = bn b := by
          funext j
          by_cases e : j < i
          · exact hg j e
          · have z1 := (hM.mkg hk).2.2.1.2.2.2.2.2.2.2.2.1 j (by show bm b ≤ j; omega)
            rw [hwb.2.2.2.2.2.2.2.2.1 j (by omega)]; exact z1
        rw [eg] at hM
        exact hM
      refine EvP.s (fun _ _ K => Ev.go 1 rfl K) ?_
      refine EvP.s (fun _ _ K => Ev.gf rfl lf_1_25_1 hp_5 rfl K) ?_
      refine EvP.s (fun _ _ K => Ev.go 6 rfl K) ?_
      refine EvP.s (fun _ _ K => Ev.gf rfl lf_1_38_1 hp_5 rfl K) ?_
      refine EvP.s (fun _ _ K => Ev.go 1 rfl K) ?_
      refine EvP.s (fun _ _ K => Ev.iln rfl hp_15 rfl (by omega) (by omega) K) ?_
      rw [hW i (by omega)]
      refine EvP.s (fun _ _ K => Ev.isn rfl hp_11 (by rw [pk_mul, nI_add]) (by omega) (by omega) K) ?_
      rw [hps_11]
      refine EvP.s (fun _ _ K => Ev.go 2 rfl K) ?_
      exact ih (n - 1) (by omega) _ (uN g i (bn b i)) (i + 1) _ (by omega) (hM.numg0 hk (by omega) (hwb.2.2.2.2.2.2.2.1 i) (fun q => hwb.2.2.2.2.2.2.2.2.1 i q)) hW (fun j hj => by
        by_cases e : j = i
        · subst e; exact if_pos rfl
        · exact (if_neg e).trans (hg j (by omega))) (by rw [nI_add]) _ _ _ _ _ _
  have L3 : ∀ (n : Nat) (A : sn_A2) (g : Nat → Nat) (i : Nat) (p : Nat) (f : Nat) (fv : Int32) (pv : Int32) (iv : Int32), (i + n = 8) → (MS A B (setB μ k (bnu b g))) → (∀ j, j < 32 → A 15 j = nI (bn b j)) → (p < bm b) → (f ≤ 7) → (pshF (bm b) n g p f = psh (bm b) (bn b) (frs w b y) (mrk w b 1 y)) → (fv = nI f) → (pv = nI p) → (iv = nI i) → ∀ (v3 v4 v5 : Int32) (v9 : Value), EvP o0 (d + 2) me_M_push 129 [.ref 5, .int (nI k), .int (nI y), .int v3, .int v4, .int v5, .int fv, .int pv, .int iv, v9] [] (hp x A B t) P := by
    intro n
    induction n using Nat.strongRecOn with
    | _ n ih =>
      intro A g i p f fv pv iv h1 hM hW hp2 hf hG e1 e2 e3
      subst e1
      subst e2
      subst e3
      intro v3 v4 v5 v9
      refine EvP.s (fun _ _ K => Ev.go 2 rfl K) ?_
      refine EvP.ige rfl rfl rfl (by omega) (by omega) (fun c133 => ?_) (fun c133 => ?_)
      · refine EvP.s (fun _ _ K => Ev.go 2 rfl K) ?_
        have e0 : n = 0 := by omega
        subst e0
        exact L4 hG.symm 32 A g 0 _ (by omega) hM hW (fun j hj => absurd hj (by omega)) rfl _ _ _ _ _ _
      obtain ⟨n, rfl⟩ : ∃ z, n = z + 1 := ⟨n - 1, by omega⟩
      have m := hM.mkg hk
      have h70 : g p ≤ 7 := m.2.2.1.2.2.2.2.2.2.2.1 p
      refine EvP.s (fun _ _ K => Ev.go 1 rfl K) ?_
      refine EvP.s (fun _ _ K => Ev.gf rfl lf_1_25_1 hp_5 rfl K) ?_
      refine EvP.s (fun _ _ K => Ev.go 5 rfl K) ?_
      refine EvP.s (fun _ _ K => Ev.iln rfl hp_11 (by rw [pk_mul, nI_add]) (by omega) (by omega) K) ?_
      rw [m.2.2.2.1.2.2.2.1 p (by omega), bn_bnu]
      refine EvP.s (fun _ _ K => Ev.go 2 rfl K) ?_
      refine EvP.s (fun _ _ K => Ev.gf rfl lf_1_25_1 hp_5 rfl K) ?_
      refine EvP.s (fun _ _ K => Ev.go 6 rfl K) ?_
      refine EvP.s (fun _ _ K => Ev.isn rfl hp_11 (by rw [pk_mul, nI_add]) (by omega) (by omega) K) ?_
      rw [hps_11]
      have hM := hM.numg hk (i := p) (v := f) hp2 hm.2 hf
      obtain ⟨A2, hA2⟩ : ∃ z, z = uA A 11 (upd (A 11) (32 * k + p) (nI f)) := ⟨_, rfl⟩
      have hW : ∀ j, j < 32 → A2 15 j = nI (bn b j) := fun j hj => by rw [hA2]; exact hW j hj
      rw [← hA2] at hM ⊢
      clear hA2
      have m2 := hM.mkg hk
      have h7 : ∀ j, uN g p f j ≤ 7 := m2.2.2.1.2.2.2.2.2.2.2.1
      have ho := oth_lt p (g p) (show 0 < bm b by omega)
      refine EvP.s (fun _ _ K => Ev.go 6 rfl K) ?_
      refine EvP.s (fun _ _ K => Ev.cv (E' := me_M_otherPlace) rfl mk_M_otherPlace lv_1_159_1 rfl hp_5 rfl (e_M_otherPlace (d + 1) x t m2 rfl rfl rfl hp2 (by omega)) K) ?_
      obtain ⟨q1, hq1⟩ : ∃ z, z = oth (bm b) p (g p) := ⟨_, rfl⟩
      rw [bm_bnu, ← hq1]
      have hq2 : q1 < bm b := by omega
      refine EvP.s (fun _ _ K => Ev.go 2 rfl K) ?_
      refine EvP.s (fun _ _ K => Ev.gf rfl lf_1_25_1 hp_5 rfl K) ?_
      refine EvP.s (fun _ _ K => Ev.go 5 rfl K) ?_
      refine EvP.s (fun _ _ K => Ev.iln rfl hp_11 (by rw [pk_mul, nI_add]) (by omega) (by omega) K) ?_
      rw [m2.2.2.2.1.2.2.2.1 q1 (by omega), bn_bnu]
      refine EvP.zne rfl rfl (by have := h7 q1; omega) (fun c191 => ?_) (fun c191 => ?_)
      · refine EvP.s (fun _ _ K => Ev.go 2 rfl K) ?_
        exact ih n (by omega) A2 (uN g p f) (i + 1) q1 (g p) _ _ _ (by omega) hM hW hq2 h70 (by rw [← hG]; simp only [pshF]; rw [← hq1, if_neg (by have : 0 < uN g p f q1 := c191; omega)]) rfl rfl (by rw [nI_add]) _ _ _ _
      refine EvP.s (fun _ _ K => Ev.go 1 rfl K) ?_
      refine EvP.s (fun _ _ K => Ev.gf rfl lf_1_25_1 hp_5 rfl K) ?_
      refine EvP.s (fun _ _ K => Ev.go 6 rfl K) ?_
      refine EvP.s (fun _ _ K => Ev.isn rfl hp_11 (by rw [pk_mul, nI_add]) (by omega) (by omega) K) ?_
      rw [hps_11]
      have hM := hM.numg hk (i := q1) (v := g p) hq2 hm.2 h70
      refine EvP.s (fun _ _ K => Ev.go 1 rfl K) ?_
      refine ⟨_, _, Ev.reti rfl rfl, ?_⟩
      have hG2 : psh (bm b) (bn b) (frs w b y) (mrk w b 1 y) = some (uN (uN g p f) q1 (g p)) := by
        rw [← hG]; simp only [pshF]; rw [← hq1, if_pos c191]
      rw [← hPe]
      exact ⟨_, rfl, by rw [hG2]; rfl, by rw [hG2]; exact hM⟩
  have L2 : ∀ A, MS A B μ → (∀ j, j < 32 → A 15 j = nI (bn b j)) → ∀ v3 : Value, EvP o0 (d + 2) me_M_push 31 [.ref 5, .int (nI k), .int (nI y), v3, .retAddr 0, .retAddr 0, .retAddr 0, .retAddr 0, .retAddr 0, .retAddr 0] [] (hp x A B t) P := by
    intro A hM hW v3
    have m := hM.mk hk
    rw [← hb, ← hw] at m
    have hM := hM.self k
    rw [← hb] at hM
    have r11 := m.2.2.2.1.2.2.2.1
    obtain ⟨p, hp0⟩ : ∃ z, z = frs w b y := ⟨_, rfl⟩
    obtain ⟨f, hf0⟩ : ∃ z, z = mrk w b 1 y := ⟨_, rfl⟩
    obtain ⟨o, ho0⟩ : ∃ z, z = oth (bm b) p f := ⟨_, rfl⟩
    have hp2 : p < bm b := by rw [hp0]; exact frs_lt hwb y
    have hmk := mrk_le (w := w) (b := b) 1 y
    have ho2 : o < bm b := by rw [ho0]; exact oth_lt _ _ (by omega)
    have hGd : psh (bm b) (bn b) (frs w b y) (mrk w b 1 y) = if bn b p = 0 then some (uN (bn b) p f) else if bn b o = 0 then some (uN (bn b) o f) else pshF (bm b) 8 (bn b) p f := by
      rw [ho0, hp0, hf0]; rfl
    refine EvP.s (fun _ _ K => Ev.go 3 rfl K) ?_
    refine EvP.s (fun _ _ K => Ev.cv (E' := me_M_firstPlace) rfl mk_M_firstPlace lv_1_153_1 rfl hp_5 rfl (e_M_firstPlace d x t m rfl rfl hy) K) ?_
    rw [← hp0]
    refine EvP.s (fun _ _ K => Ev.go 4 rfl K) ?_
    refine EvP.s (fun _ _ K => Ev.cv (E' := me_M_pushedMark) rfl mk_M_pushedMark lv_1_156_1 rfl hp_5 rfl (e_M_pushedMark d x t m rfl rfl hy (by have := hwb.2.2.2.2.2.1 h3; omega)) K) ?_
    rw [← hf0]
    refine EvP.s (fun _ _ K => Ev.go 5 rfl K) ?_
    refine EvP.s (fun _ _ K => Ev.cv (E' := me_M_otherPlace) rfl mk_M_otherPlace lv_1_159_1 rfl hp_5 rfl (e_M_otherPlace (d + 1) x t m rfl rfl rfl hp2 (by omega)) K) ?_
    rw [← ho0]
    refine EvP.s (fun _ _ K => Ev.go 2 rfl K) ?_
    refine EvP.s (fun _ _ K => Ev.gf rfl lf_1_25_1 hp_5 rfl K) ?_
    refine EvP.s (fun _ _ K => Ev.go 5 rfl K) ?_
    refine EvP.s (fun _ _ K => Ev.iln rfl hp_11 (by rw [pk_mul, nI_add]) (by omega) (by omega) K) ?_
    rw [r11 p (by omega)]
    refine EvP.zeq rfl rfl (by have := h7 p; omega) (fun c67 => ?_) (fun c67 => ?_)
    · refine EvP.s (fun _ _ K => Ev.go 1 rfl K) ?_
      refine EvP.s (fun _ _ K => Ev.gf rfl lf_1_25_1 hp_5 rfl K) ?_
      refine EvP.s (fun _ _ K => Ev.go 4 rfl K) ?_
      refine EvP.s (fun _ _ K => Ev.gf rfl lf_1_25_1 hp_5 rfl K) ?_
      refine EvP.s (fun _ _ K => Ev.go 5 rfl K) ?_
      refine EvP.s (fun _ _ K => Ev.iln rfl hp_11 (by rw [pk_mul, nI_add]) (by omega) (by omega) K) ?_
      rw [r11 p (by omega)]
      refine EvP.zne rfl rfl (by have := h7 p; omega) (fun c104 => ?_) (fun c104 => ?_)
      · refine EvP.s (fun _ _ K => Ev.go 3 rfl K) ?_
        refine EvP.s (fun _ _ K => Ev.isn rfl hp_11 (by rw [pk_mul, nI_add]) (by omega) (by omega) K) ?_
        rw [hps_11]
        refine EvP.s (fun _ _ K => Ev.go 1 rfl K) ?_
        refine ⟨_, _, Ev.reti rfl rfl, ?_⟩
        rw [← hPe]
        exact absurd c104 (by omega)
      refine EvP.s (fun _ _ K => Ev.go 2 rfl K) ?_
      refine EvP.s (fun _ _ K => Ev.go 2 rfl K) ?_
      refine EvP.s (fun _ _ K => Ev.isn rfl hp_11 (by rw [pk_mul, nI_add]) (by omega) (by omega) K) ?_
      rw [hps_11]
      refine EvP.s (fun _ _ K => Ev.go 1 rfl K) ?_
      refine ⟨_, _, Ev.reti rfl rfl, ?_⟩
      rw [← hPe]
      refine ⟨_, rfl, by rw [hGd, if_pos c104]; rfl, ?_⟩
      rw [hGd, if_pos c104]
      exact hM.numg hk hp2 hm.2 (by omega)
    refine EvP.s (fun _ _ K => Ev.go 1 rfl K) ?_
    refine EvP.s (fun _ _ K => Ev.gf rfl lf_1_25_1 hp_5 rfl K) ?_
    refine EvP.s (fun _ _ K => Ev.go 5 rfl K) ?_
    refine EvP.s (fun _ _ K => Ev.iln rfl hp_11 (by rw [pk_mul, nI_add]) (by omega) (by omega) K) ?_
    rw [r11 o (by omega)]
    refine EvP.zne rfl rfl (by have := h7 o; omega) (fun c82 => ?_) (fun c82 => ?_)
    · refine EvP.s (fun _ _ K => Ev.go 6 rfl K) ?_
      exact L3 8 A (bn b) 0 p f _ _ _ (by omega) hM hW hp2 (by omega) (by rw [hGd, if_neg (by omega), if_neg (by omega)]) rfl rfl rfl _ _ _ _
    refine EvP.s (fun _ _ K => Ev.go 1 rfl K) ?_
    refine EvP.s (fun _ _ K => Ev.gf rfl lf_1_25_1 hp_5 rfl K) ?_
    refine EvP.s (fun _ _ K => Ev.go 4 rfl K) ?_
    refine EvP.s (fun _ _ K => Ev.gf rfl lf_1_25_1 hp_5 rfl K) ?_
    refine EvP.s (fun _ _ K => Ev.go 5 rfl K) ?_
    refine EvP.s (fun _ _ K => Ev.iln rfl hp_11 (by rw [pk_mul, nI_add]) (by omega) (by omega) K) ?_
    rw [r11 p (by omega)]
    refine EvP.zne rfl rfl (by have := h7 p; omega) (fun c104 => ?_) (fun c104 => ?_)
    · refine EvP.s (fun _ _ K => Ev.go 3 rfl K) ?_
      refine EvP.s (fun _ _ K => Ev.isn rfl hp_11 (by rw [pk_mul, nI_add]) (by omega) (by omega) K) ?_
      rw [hps_11]
      refine EvP.s (fun _ _ K => Ev.go 1 rfl K) ?_
      refine ⟨_, _, Ev.reti rfl rfl, ?_⟩
      rw [← hPe]
      refine ⟨_, rfl, by rw [hGd, if_neg (by omega), if_pos c82]; rfl, ?_⟩
      rw [hGd, if_neg (by omega), if_pos c82]
      exact hM.numg hk ho2 hm.2 (by omega)
    refine EvP.s (fun _ _ K => Ev.go 2 rfl K) ?_
    refine EvP.s (fun _ _ K => Ev.go 2 rfl K) ?_
    refine EvP.s (fun _ _ K => Ev.isn rfl hp_11 (by rw [pk_mul, nI_add]) (by omega) (by omega) K) ?_
    rw [hps_11]
    refine EvP.s (fun _ _ K => Ev.go 1 rfl K) ?_
    refine ⟨_, _, Ev.reti rfl rfl, ?_⟩
    rw [← hPe]
    refine ⟨_, rfl, by rw [hGd, if_pos c104]; rfl, ?_⟩
    rw [hGd, if_pos c104]
    exact hM.numg hk hp2 hm.2 (by omega)
  have L1 : ∀ (n : Nat) (A : sn_A2) (i : Nat) (iv : Int32), (i + n = 32) → (MS A B μ) → (∀ j, j < i → A 15 j = nI  (bn b j)) → (iv = nI i) → EvP o0 (d + 2) me_M_push 2 [.ref 5, .int (nI k), .int (nI y), .int iv, .retAddr 0, .retAddr 0, .retAddr 0, .retAddr 0, .retAddr 0, .retAddr 0] [] (hp x A B t) P := by
    intro n
    induction n using Nat.strongRecOn with
    | _ n ih =>
      intro A i iv h1 hM hW e3
      subst e3
      refine EvP.s (fun _ _ K => Ev.go 2 rfl K) ?_
      refine EvP.ige rfl rfl rfl (by omega) (by omega) (fun c5 => ?_) (fun c5 => ?_)
      · have e32 : i = 32 := by omega
        subst e32
        exact L2 A hM hW _
      refine EvP.s (fun _ _ K => Ev.go 1 rfl K) ?_
      refine EvP.s (fun _ _ K => Ev.gf rfl lf_1_38_1 hp_5 rfl K) ?_
      refine EvP.s (fun _ _ K => Ev.go 2 rfl K) ?_
      refine EvP.s (fun _ _ K => Ev.gf rfl lf_1_25_1 hp_5 rfl K) ?_
      refine EvP.s (fun _ _ K => Ev.go 5 rfl K) ?_
      refine EvP.s (fun _ _ K => Ev.iln rfl hp_11 (by rw [pk_mul, nI_add]) (by omega) (by omega) K) ?_
      rw [(hM.mk hk).2.2.2.1.2.2.2.1 i (by omega), ← hb]
      refine EvP.s (fun _ _ K => Ev.isn rfl hp_15 rfl (by omega) (by omega) K) ?_
      rw [hps_15]
      refine EvP.s (fun _ _ K => Ev.go 2 rfl K) ?_
      exact ih (n - 1) (by omega) _ (i + 1) _ (by omega) (hM.scr _ rfl) (fun j hj => by
        show upd (A 15) i (nI (bn b i)) j = _
        by_cases e : j = i
        · subst e; exact pk_us
        · rw [pk_un e]; exact hW j (by omega)) (by rw [nI_add])
  refine EvP.s (fun _ _ K => Ev.go 2 rfl K) ?_
  exact L1 32 A 0 _ (by omega) q (fun j hj => absurd hj (by omega)) rfl
