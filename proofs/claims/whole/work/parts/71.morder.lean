/-! THE REFERENCE: order -/
/-- the state, and all rows but the numbers and was as before -/
def MSx (A0 A : sn_A2) (B : sn_B2) (μ : sn_S) : Prop := MS A B μ ∧ ∀ c, 16 ≤ c → A c = A0 c
section MSX
variable {A0 A : sn_A2} {B : sn_B2} {μ : sn_S}
theorem MSx.mk (h : MSx A0 A B μ) {k : Nat} (hk : k < snb μ) : MK A B (sw μ) k (sbk μ k) := h.1.mk hk
theorem MSx.mkg {k : Nat} {c : sn_Bk} (h : MSx A0 A B (setB μ k c)) (hk : k < snb μ) : MK A B (sw μ) k c := h.1.mkg hk
theorem MSx.self (h : MSx A0 A B μ) (k : Nat) : MSx A0 A B (setB μ k (sbk μ k)) := ⟨h.1.self k, h.2⟩
theorem u11 {f : Nat → Int32} (h : ∀ c, 16 ≤ c → A c = A0 c) : ∀ c, 16 ≤ c → uA A 11 f c = A0 c := fun c hc => (uA_n A f (by
  cases hq : Nat.beq c 11 with
  | false => rfl
  | true => have := Nat.eq_of_beq_eq_true hq; omega)).trans (h c hc)
theorem MSx.numg {k : Nat} {b : sn_Bk} {g : Nat → Nat} (h : MSx A0 A B (setB μ k (bnu b g))) (hk : k < snb μ) {i v : Nat} (hi : i < bm b) (hm : bm b ≤ 32) (hv : v ≤ 7) : MSx A0 (uA A 11 (upd (A 11) (32 * k + i) (nI v))) B (setB μ k (bnu b (uN g i v))) := ⟨h.1.numg hk hi hm hv, u11 h.2⟩
theorem MSx.numg0 {k : Nat} {b : sn_Bk} {g : Nat → Nat} (h : MSx A0 A B (setB μ k (bnu b g))) (hk : k < snb μ) {i v : Nat} (hi : i < 32) (hv : v ≤ 7) (hz : bm b ≤ i → v = 0) : MSx A0 (uA A 11 (upd (A 11) (32 * k + i) (nI v))) B (setB μ k (bnu b (uN g i v))) := ⟨h.1.numg0 hk hi hv hz, u11 h.2⟩
theorem MSx.scr15 (h : MSx A0 A B μ) (f : Nat → Int32) : MSx A0 (uA A 15 f) B μ := ⟨h.1.scr f rfl, fun c hc => (uA_n A f (by
  cases hq : Nat.beq c 15 with
  | false => rfl
  | true => have := Nat.eq_of_beq_eq_true hq; omega)).trans (h.2 c hc)⟩
end MSX
theorem e_M_push2 (d : Nat) (x : sn_X5) {A0 A : sn_A2} {B : sn_B2} (t : sn_H) {μ : sn_S} (q : MSx A0 A B μ) {k y : Nat} {kv yv : Int32} (e1 : kv = nI k) (e2 : yv = nI y) (hk : k < snb μ) (hy : y < 32) {w : sn_Lw} {b : sn_Bk} (hw : w = sw μ) (hb : b = sbk μ k) (h3 : bk b = 3) : SpP (d + 2) me_M_push [.ref 5, .int kv, .int yv] (hp x A B t) (fun (r : Option Value) (h' : sn_H) => ∃ A', h' = hp x A' B t ∧ r = some (.int (b2i (psh (bm b) (bn b) (frs w b y) (mrk w b 1 y)).isSome)) ∧ MSx A0 A' B (setB μ k (bnu b ((psh (bm b) (bn b) (frs w b y) (mrk w b 1 y)).getD (bn b))))) := by
  subst e1; subst e2
  have hk8 : k < 8 := by have := q.1.1.2.1; omega
  have hwb : WB w.1 b := by rw [hw, hb]; exact q.1.1.2.2 k hk
  have hm := hwb.2.1
  have h7 := hwb.2.2.2.2.2.2.2.1
  generalize hPe : (fun (r : Option Value) (h' : sn_H) => ∃ A', h' = hp x A' B t ∧ r = some (.int (b2i (psh (bm b) (bn b) (frs w b y) (mrk w b 1 y)).isSome)) ∧ MSx A0 A' B (setB μ k (bnu b ((psh (bm b) (bn b) (frs w b y) (mrk w b 1 y)).getD (bn b))))) = P
  refine SpP.of ok_M_push (fun r h' z => by rw [← hPe] at z; obtain ⟨_, _, rfl, _⟩ := z; exact b2i_rc _) rfl ?_
  have L4 : psh (bm b) (bn b) (frs w b y) (mrk w b 1 y) = none → ∀ (n : Nat) (A : sn_A2) (g : Nat → Nat) (i : Nat) (iv : Int32), (i + n = 32) → (MSx A0 A B (setB μ k (bnu b g))) → (∀ j, j < 32 → A 15 j = nI (bn b j)) → (∀ j, j < i → g j = bn b j) → (iv = nI i) → ∀ (v3 v4 v5 v6 v7 : Int32) (v9 : Value), EvP o0 (d + 2) me_M_push 219 [.ref 5, .int (nI k), .int (nI y), .int v3, .int v4, .int v5, .int v6, .int v7, .int iv, v9] [] (hp x A B t) P := by
    intro hG n
    induction n using Nat.strongRecOn with
    | _ n ih =>
      intro A g i iv h1 hM hW hg e3
      subst e3
      intro v3 v4 v5 v6 v7 v9
      refine EvP.s (fun _ _ K => Ev.go 2 rfl K) ?_
      refine EvP.ige rfl rfl rfl (by omega) (by omega) (fun c223 => ?_) (fun c223 => ?_)
      · refine EvP.s (fun _ _ K => Ev.go 1 rfl K) ?_
        refine ⟨_, _, Ev.reti rfl rfl, ?_⟩
        rw [← hPe]
        refine ⟨A, rfl, by rw [hG]; rfl, ?_⟩
        rw [hG]
        have eg : g = bn b := by
          funext j
          by_cases e : j < i
          · exact hg j e
          · have z1 := (hM.mkg hk).2.2.1.2.2.2.2.2.2.2.2.1 j (by show bm b ≤ j; omega)
            rw [hwb.2.2.2.2.2.2.2.2.1 j (by omega)]; exact z1
        rw [eg] at hM
        exact hM
      refine EvP.s (fun _ _ K => Ev.go 1 rfl K) ?_
      refine EvP.s (fun _ _ K => Ev.gf rfl lf_1_25_1 hp_5 rfl K) ?_
      refine EvP.s (fun _ _ K => Ev.go 6 rfl K) ?_
      refine EvP.s (fun _ _ K => Ev.gf rfl lf_1_38_1 hp_5 rfl K) ?_
      refine EvP.s (fun _ _ K => Ev.go 1 rfl K) ?_
      refine EvP.s (fun _ _ K => Ev.iln rfl hp_15 rfl (by omega) (by omega) K) ?_
      rw [hW i (by omega)]
      refine EvP.s (fun _ _ K => Ev.isn rfl hp_11 (by rw [pk_mul, nI_add]) (by omega) (by omega) K) ?_
      rw [hps_11]
      refine EvP.s (fun _ _ K => Ev.go 2 rfl K) ?_
      exact ih (n - 1) (by omega) _ (uN g i (bn b i)) (i + 1) _ (by omega) (hM.numg0 hk (by omega) (hwb.2.2.2.2.2.2.2.1 i) (fun q => hwb.2.2.2.2.2.2.2.2.1 i q)) hW (fun j hj => by
        by_cases e : j = i
        · subst e; exact if_pos rfl
        · exact (if_neg e).trans (hg j (by omega))) (by rw [nI_add]) _ _ _ _ _ _
  have L3 : ∀ (n : Nat) (A : sn_A2) (g : Nat → Nat) (i : Nat) (p : Nat) (f : Nat) (fv : Int32) (pv : Int32) (iv : Int32), (i + n = 8) → (MSx A0 A B (setB μ k (bnu b g))) → (∀ j, j < 32 → A 15 j = nI (bn b j)) → (p < bm b) → (f ≤ 7) → (pshF (bm b) n g p f = psh (bm b) (bn b) (frs w b y) (mrk w b 1 y)) → (fv = nI f) → (pv = nI p) → (iv = nI i) → ∀ (v3 v4 v5 : Int32) (v9 : Value), EvP o0 (d + 2) me_M_push 129 [.ref 5, .int (nI k), .int (nI y), .int v3, .int v4, .int v5, .int fv, .int pv, .int iv, v9] [] (hp x A B t) P := by
    intro n
    induction n using Nat.strongRecOn with
    | _ n ih =>
      intro A g i p f fv pv iv h1 hM hW hp2 hf hG e1 e2 e3
      subst e1
      subst e2
      subst e3
      intro v3 v4 v5 v9
      refine EvP.s (fun _ _ K => Ev.go 2 rfl K) ?_
      refine EvP.ige rfl rfl rfl (by omega) (by omega) (fun c133 => ?_) (fun c133 => ?_)
      · refine EvP.s (fun _ _ K => Ev.go 2 rfl K) ?_
        have e0 : n = 0 := by omega
        subst e0
        exact L4 hG.symm 32 A g 0 _ (by omega) hM hW (fun j hj => absurd hj (by omega)) rfl _ _ _ _ _ _
      obtain ⟨n, rfl⟩ : ∃ z, n = z + 1 := ⟨n - 1, by omega⟩
      have m := hM.mkg hk
      have h70 : g p ≤ 7 := m.2.2.1.2.2.2.2.2.2.2.1 p
      refine EvP.s (fun _ _ K => Ev.go 1 rfl K) ?_
      refine EvP.s (fun _ _ K => Ev.gf rfl lf_1_25_1 hp_5 rfl K) ?_
      refine EvP.s (fun _ _ K => Ev.go 5 rfl K) ?_
      refine EvP.s (fun _ _ K => Ev.iln rfl hp_11 (by rw [pk_mul, nI_add]) (by omega) (by omega) K) ?_
      rw [m.2.2.2.1.2.2.2.1 p (by omega), bn_bnu]
      refine EvP.s (fun _ _ K => Ev.go 2 rfl K) ?_
      refine EvP.s (fun _ _ K => Ev.gf rfl lf_1_25_1 hp_5 rfl K) ?_
      refine EvP.s (fun _ _ K => Ev.go 6 rfl K) ?_
      refine EvP.s (fun _ _ K => Ev.isn rfl hp_11 (by rw [pk_mul, nI_add]) (by omega) (by omega) K) ?_
      rw [hps_11]
      have hM := hM.numg hk (i := p) (v := f) hp2 hm.2 hf
      obtain ⟨A2, hA2⟩ : ∃ z, z = uA A 11 (upd (A 11) (32 * k + p) (nI f)) := ⟨_, rfl⟩
      have hW : ∀ j, j < 32 → A2 15 j = nI (bn b j) := fun j hj => by rw [hA2]; exact hW j hj
      rw [← hA2] at hM ⊢
      clear hA2
      have m2 := hM.mkg hk
      have h7 : ∀ j, uN g p f j ≤ 7 := m2.2.2.1.2.2.2.2.2.2.2.1
      have ho := oth_lt p (g p) (show 0 < bm b by omega)
      refine EvP.s (fun _ _ K => Ev.go 6 rfl K) ?_
      refine EvP.s (fun _ _ K => Ev.cv (E' := me_M_otherPlace) rfl mk_M_otherPlace lv_1_159_1 rfl hp_5 rfl (e_M_otherPlace (d + 1) x t m2 rfl rfl rfl hp2 (by omega)) K) ?_
      obtain ⟨q1, hq1⟩ : ∃ z, z = oth (bm b) p (g p) := ⟨_, rfl⟩
      rw [bm_bnu, ← hq1]
      have hq2 : q1 < bm b := by omega
      refine EvP.s (fun _ _ K => Ev.go 2 rfl K) ?_
      refine EvP.s (fun _ _ K => Ev.gf rfl lf_1_25_1 hp_5 rfl K) ?_
      refine EvP.s (fun _ _ K => Ev.go 5 rfl K) ?_
      refine EvP.s (fun _ _ K => Ev.iln rfl hp_11 (by rw [pk_mul, nI_add]) (by omega) (by omega) K) ?_
      rw [m2.2.2.2.1.2.2.2.1 q1 (by omega), bn_bnu]
      refine EvP.zne rfl rfl (by have := h7 q1; omega) (fun c191 => ?_) (fun c191 => ?_)
      · refine EvP.s (fun _ _ K => Ev.go 2 rfl K) ?_
        exact ih n (by omega) A2 (uN g p f) (i + 1) q1 (g p) _ _ _ (by omega) hM hW hq2 h70 (by rw [← hG]; simp only [pshF]; rw [← hq1, if_neg (by have : 0 < uN g p f q1 := c191; omega)]) rfl rfl (by rw [nI_add]) _ _ _ _
      refine EvP.s (fun _ _ K => Ev.go 1 rfl K) ?_
      refine EvP.s (fun _ _ K => Ev.gf rfl lf_1_25_1 hp_5 rfl K) ?_
      refine EvP.s (fun _ _ K => Ev.go 6 rfl K) ?_
      refine EvP.s (fun _ _ K => Ev.isn rfl hp_11 (by rw [pk_mul, nI_add]) (by omega) (by omega) K) ?_
      rw [hps_11]
      have hM := hM.numg hk (i := q1) (v := g p) hq2 hm.2 h70
      refine EvP.s (fun _ _ K => Ev.go 1 rfl K) ?_
      refine ⟨_, _, Ev.reti rfl rfl, ?_⟩
      have hG2 : psh (bm b) (bn b) (frs w b y) (mrk w b 1 y) = some (uN (uN g p f) q1 (g p)) := by
        rw [← hG]; simp only [pshF]; rw [← hq1, if_pos c191]
      rw [← hPe]
      exact ⟨_, rfl, by rw [hG2]; rfl, by rw [hG2]; exact hM⟩
  have L2 : ∀ A, MSx A0 A B μ → (∀ j, j < 32 → A 15 j = nI (bn b j)) → ∀ v3 : Value, EvP o0 (d + 2) me_M_push 31 [.ref 5, .int (nI k), .int (nI y), v3, .retAddr 0, .retAddr 0, .retAddr 0, .retAddr 0, .retAddr 0, .retAddr 0] [] (hp x A B t) P := by
    intro A hM hW v3
    have m := hM.mk hk
    rw [← hb, ← hw] at m
    have hM := hM.self k
    rw [← hb] at hM
    have r11 := m.2.2.2.1.2.2.2.1
    obtain ⟨p, hp0⟩ : ∃ z, z = frs w b y := ⟨_, rfl⟩
    obtain ⟨f, hf0⟩ : ∃ z, z = mrk w b 1 y := ⟨_, rfl⟩
    obtain ⟨o, ho0⟩ : ∃ z, z = oth (bm b) p f := ⟨_, rfl⟩
    have hp2 : p < bm b := by rw [hp0]; exact frs_lt hwb y
    have hmk := mrk_le (w := w) (b := b) 1 y
    have ho2 : o < bm b := by rw [ho0]; exact oth_lt _ _ (by omega)
    have hGd : psh (bm b) (bn b) (frs w b y) (mrk w b 1 y) = if bn b p = 0 then some (uN (bn b) p f) else if bn b o = 0 then some (uN (bn b) o f) else pshF (bm b) 8 (bn b) p f := by
      rw [ho0, hp0, hf0]; rfl
    refine EvP.s (fun _ _ K => Ev.go 3 rfl K) ?_
    refine EvP.s (fun _ _ K => Ev.cv (E' := me_M_firstPlace) rfl mk_M_firstPlace lv_1_153_1 rfl hp_5 rfl (e_M_firstPlace d x t m rfl rfl hy) K) ?_
    rw [← hp0]
    refine EvP.s (fun _ _ K => Ev.go 4 rfl K) ?_
    refine EvP.s (fun _ _ K => Ev.cv (E' := me_M_pushedMark) rfl mk_M_pushedMark lv_1_156_1 rfl hp_5 rfl (e_M_pushedMark d x t m rfl rfl hy (by have := hwb.2.2.2.2.2.1 h3; omega)) K) ?_
    rw [← hf0]
    refine EvP.s (fun _ _ K => Ev.go 5 rfl K) ?_
    refine EvP.s (fun _ _ K => Ev.cv (E' := me_M_otherPlace) rfl mk_M_otherPlace lv_1_159_1 rfl hp_5 rfl (e_M_otherPlace (d + 1) x t m rfl rfl rfl hp2 (by omega)) K) ?_
    rw [← ho0]
    refine EvP.s (fun _ _ K => Ev.go 2 rfl K) ?_
    refine EvP.s (fun _ _ K => Ev.gf rfl lf_1_25_1 hp_5 rfl K) ?_
    refine EvP.s (fun _ _ K => Ev.go 5 rfl K) ?_
    refine EvP.s (fun _ _ K => Ev.iln rfl hp_11 (by rw [pk_mul, nI_add]) (by omega) (by omega) K) ?_
    rw [r11 p (by omega)]
    refine EvP.zeq rfl rfl (by have := h7 p; omega) (fun c67 => ?_) (fun c67 => ?_)
    · refine EvP.s (fun _ _ K => Ev.go 1 rfl K) ?_
      refine EvP.s (fun _ _ K => Ev.gf rfl lf_1_25_1 hp_5 rfl K) ?_
      refine EvP.s (fun _ _ K => Ev.go 4 rfl K) ?_
      refine EvP.s (fun _ _ K => Ev.gf rfl lf_1_25_1 hp_5 rfl K) ?_
      refine EvP.s (fun _ _ K => Ev.go 5 rfl K) ?_
      refine EvP.s (fun _ _ K => Ev.iln rfl hp_11 (by rw [pk_mul, nI_add]) (by omega) (by omega) K) ?_
      rw [r11 p (by omega)]
      refine EvP.zne rfl rfl (by have := h7 p; omega) (fun c104 => ?_) (fun c104 => ?_)
      · refine EvP.s (fun _ _ K => Ev.go 3 rfl K) ?_
        refine EvP.s (fun _ _ K => Ev.isn rfl hp_11 (by rw [pk_mul, nI_add]) (by omega) (by omega) K) ?_
        rw [hps_11]
        refine EvP.s (fun _ _ K => Ev.go 1 rfl K) ?_
        refine ⟨_, _, Ev.reti rfl rfl, ?_⟩
        rw [← hPe]
        exact absurd c104 (by omega)
      refine EvP.s (fun _ _ K => Ev.go 2 rfl K) ?_
      refine EvP.s (fun _ _ K => Ev.go 2 rfl K) ?_
      refine EvP.s (fun _ _ K => Ev.isn rfl hp_11 (by rw [pk_mul, nI_add]) (by omega) (by omega) K) ?_
      rw [hps_11]
      refine EvP.s (fun _ _ K => Ev.go 1 rfl K) ?_
      refine ⟨_, _, Ev.reti rfl rfl, ?_⟩
      rw [← hPe]
      refine ⟨_, rfl, by rw [hGd, if_pos c104]; rfl, ?_⟩
      rw [hGd, if_pos c104]
      exact hM.numg hk hp2 hm.2 (by omega)
    refine EvP.s (fun _ _ K => Ev.go 1 rfl K) ?_
    refine EvP.s (fun _ _ K => Ev.gf rfl lf_1_25_1 hp_5 rfl K) ?_
    refine EvP.s (fun _ _ K => Ev.go 5 rfl K) ?_
    refine EvP.s (fun _ _ K => Ev.iln rfl hp_11 (by rw [pk_mul, nI_add]) (by omega) (by omega) K) ?_
    rw [r11 o (by omega)]
    refine EvP.zne rfl rfl (by have := h7 o; omega) (fun c82 => ?_) (fun c82 => ?_)
    · refine EvP.s (fun _ _ K => Ev.go 6 rfl K) ?_
      exact L3 8 A (bn b) 0 p f _ _ _ (by omega) hM hW hp2 (by omega) (by rw [hGd, if_neg (by omega), if_neg (by omega)]) rfl rfl rfl _ _ _ _
    refine EvP.s (fun _ _ K => Ev.go 1 rfl K) ?_
    refine EvP.s (fun _ _ K => Ev.gf rfl lf_1_25_1 hp_5 rfl K) ?_
    refine EvP.s (fun _ _ K => Ev.go 4 rfl K) ?_
    refine EvP.s (fun _ _ K => Ev.gf rfl lf_1_25_1 hp_5 rfl K) ?_
    refine EvP.s (fun _ _ K => Ev.go 5 rfl K) ?_
    refine EvP.s (fun _ _ K => Ev.iln rfl hp_11 (by rw [pk_mul, nI_add]) (by omega) (by omega) K) ?_
    rw [r11 p (by omega)]
    refine EvP.zne rfl rfl (by have := h7 p; omega) (fun c104 => ?_) (fun c104 => ?_)
    · refine EvP.s (fun _ _ K => Ev.go 3 rfl K) ?_
      refine EvP.s (fun _ _ K => Ev.isn rfl hp_11 (by rw [pk_mul, nI_add]) (by omega) (by omega) K) ?_
      rw [hps_11]
      refine EvP.s (fun _ _ K => Ev.go 1 rfl K) ?_
      refine ⟨_, _, Ev.reti rfl rfl, ?_⟩
      rw [← hPe]
      refine ⟨_, rfl, by rw [hGd, if_neg (by omega), if_pos c82]; rfl, ?_⟩
      rw [hGd, if_neg (by omega), if_pos c82]
      exact hM.numg hk ho2 hm.2 (by omega)
    refine EvP.s (fun _ _ K => Ev.go 2 rfl K) ?_
    refine EvP.s (fun _ _ K => Ev.go 2 rfl K) ?_
    refine EvP.s (fun _ _ K => Ev.isn rfl hp_11 (by rw [pk_mul, nI_add]) (by omega) (by omega) K) ?_
    rw [hps_11]
    refine EvP.s (fun _ _ K => Ev.go 1 rfl K) ?_
    refine ⟨_, _, Ev.reti rfl rfl, ?_⟩
    rw [← hPe]
    refine ⟨_, rfl, by rw [hGd, if_pos c104]; rfl, ?_⟩
    rw [hGd, if_pos c104]
    exact hM.numg hk hp2 hm.2 (by omega)
  have L1 : ∀ (n : Nat) (A : sn_A2) (i : Nat) (iv : Int32), (i + n = 32) → (MSx A0 A B μ) → (∀ j, j < i → A 15 j = nI  (bn b j)) → (iv = nI i) → EvP o0 (d + 2) me_M_push 2 [.ref 5, .int (nI k), .int (nI y), .int iv, .retAddr 0, .retAddr 0, .retAddr 0, .retAddr 0, .retAddr 0, .retAddr 0] [] (hp x A B t) P := by
    intro n
    induction n using Nat.strongRecOn with
    | _ n ih =>
      intro A i iv h1 hM hW e3
      subst e3
      refine EvP.s (fun _ _ K => Ev.go 2 rfl K) ?_
      refine EvP.ige rfl rfl rfl (by omega) (by omega) (fun c5 => ?_) (fun c5 => ?_)
      · have e32 : i = 32 := by omega
        subst e32
        exact L2 A hM hW _
      refine EvP.s (fun _ _ K => Ev.go 1 rfl K) ?_
      refine EvP.s (fun _ _ K => Ev.gf rfl lf_1_38_1 hp_5 rfl K) ?_
      refine EvP.s (fun _ _ K => Ev.go 2 rfl K) ?_
      refine EvP.s (fun _ _ K => Ev.gf rfl lf_1_25_1 hp_5 rfl K) ?_
      refine EvP.s (fun _ _ K => Ev.go 5 rfl K) ?_
      refine EvP.s (fun _ _ K => Ev.iln rfl hp_11 (by rw [pk_mul, nI_add]) (by omega) (by omega) K) ?_
      rw [(hM.mk hk).2.2.2.1.2.2.2.1 i (by omega), ← hb]
      refine EvP.s (fun _ _ K => Ev.isn rfl hp_15 rfl (by omega) (by omega) K) ?_
      rw [hps_15]
      refine EvP.s (fun _ _ K => Ev.go 2 rfl K) ?_
      exact ih (n - 1) (by omega) _ (i + 1) _ (by omega) (hM.scr15 _) (fun j hj => by
        show upd (A 15) i (nI (bn b i)) j = _
        by_cases e : j = i
        · subst e; exact pk_us
        · rw [pk_un e]; exact hW j (by omega)) (by rw [nI_add])
  refine EvP.s (fun _ _ K => Ev.go 2 rfl K) ?_
  exact L1 32 A 0 _ (by omega) q (fun j hj => absurd hj (by omega)) rfl
theorem nI_sub {a b : Nat} (h : b ≤ a) : nI a - nI b = nI (a - b) := by
  obtain ⟨c, rfl⟩ : ∃ c, a = c + b := ⟨a - b, by omega⟩
  rw [Nat.add_sub_cancel, ← nI_add]
  apply Int32.toBitVec_inj.1
  rw [Int32.toBitVec_sub, Int32.toBitVec_add]
  exact BitVec.add_sub_cancel _ _
theorem ctf_not (f : Nat → Bool) : ∀ n, ctf (fun i => !f i) n + ctf f n = n
  | 0 => rfl
  | n + 1 => by
    have ih := ctf_not f n
    show (ctf (fun i => !f i) n + (if (!f n) = true then 1 else 0)) + (ctf f n + (if f n = true then 1 else 0)) = n + 1
    cases f n <;> simp <;> omega
theorem fct_div {k : Nat} : fct (k + 1) / (k + 1) = fct k := Nat.mul_div_cancel_left _ (by omega)
theorem fct_div_lt {k rest : Nat} (h : rest < fct (k + 1)) : rest / fct k < k + 1 := Nat.div_lt_of_lt_mul (by rw [Nat.mul_comm]; exact h)
theorem fct_mono : ∀ {a b : Nat}, a ≤ b → fct a ≤ fct b := by
  intro a b h
  induction b with
  | zero => have : a = 0 := by omega
            subst this; exact Nat.le_refl _
  | succ b ih =>
    by_cases e : a = b + 1
    · subst e; exact Nat.le_refl _
    · have := ih (by omega)
      have h2 : fct b ≤ (b + 1) * fct b := Nat.le_mul_of_pos_left _ (by omega)
      exact Nat.le_trans this h2
theorem gD_drop {L : List Nat} {i a : Nat} {T : List Nat} (h : L.drop i = a :: T) : gD L i = a ∧ L.drop (i + 1) = T := by
  have h0 : i < L.length := by
    apply Classical.byContradiction
    intro hn
    rw [List.drop_eq_nil_of_le (by omega)] at h
    cases h
  rw [List.drop_eq_getElem_cons h0] at h
  injection h with h1 h2
  refine ⟨?_, h2⟩
  unfold gD
  rw [List.getD_eq_getElem?_getD, List.getElem?_eq_getElem h0]
  exact h1
def PLo (x : sn_X5) (A : sn_A2) (B : sn_B2) (t : sn_H) (μ : sn_S) (m : Nat) (v : Nat → Nat) (r : Option Value) (h' : sn_H) : Prop := r = none ∧ ∃ A', h' = hp x A' B t ∧ MS A' B μ ∧ A' 23 = A 23 ∧ ∀ i, i < m → A' 24 i = nI (v i)
theorem PLo.rc {x : sn_X5} {A : sn_A2} {B : sn_B2} {t : sn_H} {μ : sn_S} {m : Nat} {v : Nat → Nat} {r : Option Value} {h' : sn_H} (q : PLo x A B t μ m v r h') : sn_rc none r := by
  obtain ⟨rfl, _⟩ := q; trivial
set_option maxHeartbeats 4000000 in
theorem e_M_layOrder (d : Nat) (x : sn_X5) {A : sn_A2} {B : sn_B2} (t : sn_H) {μ : sn_S} (q : MS A B μ) {m nn : Nat} {K : Nat → Nat} {nv mv : Int32} (e1 : nv = nI nn) (e2 : mv = nI m) (hm : m ≤ 6) (hn : nn < fct m) (hK : ∀ j, j < m → A 23 j = nI (K j)) : SpP d me_M_layOrder [.ref 5, .int nv, .int mv] (hp x A B t) (PLo x A B t μ m (fun i => K (gD (pof m nn) i))) := by
  subst e1; subst e2
  have hn720 := fct_le m (by omega)
  refine SpP.of ok_M_layOrder (fun r h' z => z.rc) rfl ?_
  have L2 : ∀ (kk : Nat) (A2 : sn_A2) (i : Nat) (rest : Nat) (used : Nat) (rv : Int32) (sv : Int32) (uv : Int32) (iv : Int32) (v7 : Value) (v8 : Value), (i + kk = m) → (rest < fct kk) → (used < 2 ^ m) → (pcnt used = i) → (pofF m kk rest used = (pof m nn).drop i) → (MS A2 B μ) → (A2 23 = A 23) → (∀ z, z < i → A2 24 z = nI (K (gD (pof m nn) z))) → (rv = nI rest) → (sv = nI (fct (kk - 1))) → (uv = nI used) → (iv = nI i) → EvP o0 d me_M_layOrder 33 [.ref 5, .int (nI nn), .int (nI m), .int rv, .int sv, .int uv, .int iv, v7, v8] [] (hp x A2 B t) (PLo x A B t μ m (fun i => K (gD (pof m nn) i))) := by
    intro kk
    induction kk using Nat.strongRecOn with
    | _ kk ih2 =>
      intro A2 i rest used rv sv uv iv v7 v8 k2 hr hu hpu hdr q2 h23 h24 e4 e5 e6 e7
      subst e4
      subst e5
      subst e6
      subst e7
      have h2m : 2 ^ m ≤ 2 ^ 6 := Nat.pow_le_pow_right (by omega) hm
      have hfk := fct_mono (show kk ≤ 6 by omega)
      have hf6 := fct_le 6 (by omega)
      refine EvP.s (fun _ _ K => Ev.go 2 rfl K) ?_
      refine EvP.ige rfl rfl rfl (by omega) (by omega) (fun c36 => ?_) (fun c36 => ?_)
      · refine ⟨_, _, Ev.retv rfl, ?_⟩
        refine ⟨rfl, A2, rfl, q2, h23, fun z hz => h24 z (by omega)⟩
      obtain ⟨k, rfl⟩ : ∃ k, kk = k + 1 := ⟨kk - 1, by omega⟩
      rw [Nat.add_sub_cancel]
      have hfk2 := fct_mono (show k ≤ 6 by omega)
      have hdl := fct_div_lt hr
      obtain ⟨T, hTd⟩ : ∃ T, T = fsp used m (rest / fct k) := ⟨_, rfl⟩
      have hdr : T :: pofF m k (rest % fct k) (used ||| 2 ^ T) = (pof m nn).drop i := by rw [hTd]; exact hdr
      have hcf : ctf (fun z => !used.testBit z) m = k + 1 := by
        have h1 := ctf_not (fun z => used.testBit z) m
        rw [← pcnt_ct hu] at h1
        omega
      have L3a : ∀ stv : Int32, stv = nI (fct (k - 1)) → EvP o0 d me_M_layOrder 77 [.ref 5, .int (nI nn), .int (nI m), .int (nI (rest % fct k)), .int stv, .int (nI used), .int (nI i), .int (nI (rest / fct k)), .int (nI 0)] [] (hp x A2 B t) (PLo x A B t μ m (fun i => K (gD (pof m nn) i))) := by
        intro stv hst
        have L3 : ∀ (n3 : Nat) (j : Nat) (sk : Nat) (kv : Int32) (jv : Int32), (j + n3 = m) → (sk + ctf (fun z => !used.testBit z) j = rest / fct k) → (fspF used (m - j) sk j = T) → (kv = nI sk) → (jv = nI j) → EvP o0 d me_M_layOrder 77 [.ref 5, .int (nI nn), .int (nI m), .int (nI (rest % fct k)), .int stv, .int (nI used), .int (nI i), .int kv, .int jv] [] (hp x A2 B t) (PLo x A B t μ m (fun i => K (gD (pof m nn) i))) := by
          intro n3
          induction n3 using Nat.strongRecOn with
          | _ n3 ih3 =>
            intro j sk kv jv k3 hsk hT e8 e9
            subst e8
            subst e9
            have hjm : j < m := by
              apply Classical.byContradiction
              intro hn
              have ej : j = m := by omega
              rw [ej] at hsk
              omega
            have hmj : m - j = (m - j - 1) + 1 := by omega
            have hskl : sk ≤ rest / fct k := by omega
            cases hub : used.testBit j with
            | true =>
              refine EvP.s (fun _ _ K => Ev.go 6 rfl K) ?_
              refine EvP.s (fun _ _ K => Ev.bt rfl rfl ((hasI (by omega) (by omega)).trans (by rw [hub]; rfl)) K) ?_
              refine EvP.s (fun _ _ K => Ev.go 7 rfl K) ?_
              refine EvP.ine rfl (a := 1) ((hasI (by omega) (by omega)).trans (by rw [hub]; rfl)) (rfl : nI 1 = nI 1) (by omega) (by omega) (fun c103 => ?_) (fun c103 => ?_)
              · exact absurd rfl c103
              refine EvP.s (fun _ _ K => Ev.go 2 rfl K) ?_
              refine EvP.s (fun _ _ K => Ev.go 4 rfl K) ?_
              refine ih3 (n3 - 1) (by omega) (j + 1) sk _ _ (by omega) ?_ ?_ ?_ (by rw [nI_add])
              · rw [← hsk, show ctf (fun z => !used.testBit z) (j + 1) = ctf (fun z => !used.testBit z) j + (if (!used.testBit j) = true then 1 else 0) from rfl, hub]
                rfl
              · rw [← hT, hmj]
                show _ = (if used.testBit j then _ else _)
                rw [if_pos hub]
                congr 1
              · exact (nI_sub (Nat.zero_le _))
            | false =>
              refine EvP.s (fun _ _ K => Ev.go 6 rfl K) ?_
              refine EvP.s (fun _ _ K => Ev.bf rfl rfl (fun w => by rw [hasI (by omega) (by omega), hub] at w; exact absurd w (by decide +kernel)) K) ?_
              refine EvP.s (fun _ _ K => Ev.go 1 rfl K) ?_
              refine EvP.zle rfl rfl (by omega) (fun c90 => ?_) (fun c90 => ?_)
              · have ej : T = j := by
                  rw [← hT, hmj]
                  show (if used.testBit j then _ else _) = j
                  rw [hub, if_neg (by decide), if_pos c90]
                subst ej
                refine EvP.s (fun _ _ K => Ev.go 7 rfl K) ?_
                refine EvP.s (fun _ _ K => Ev.gf rfl lf_1_66_1 hp_5 rfl K) ?_
                refine EvP.s (fun _ _ K => Ev.go 2 rfl K) ?_
                refine EvP.s (fun _ _ K => Ev.gf rfl lf_1_63_1 hp_5 rfl K) ?_
                refine EvP.s (fun _ _ K => Ev.go 1 rfl K) ?_
                refine EvP.s (fun _ _ K => Ev.iln rfl hp_23 rfl (by omega) (by omega) K) ?_
                rw [h23, hK T (by omega)]
                refine EvP.s (fun _ _ K => Ev.isn rfl hp_24 rfl (by omega) (by omega) K) ?_
                rw [hps_24]
                refine EvP.s (fun _ _ K => Ev.go 2 rfl K) ?_
                have hbo := bit_or hub
                have hba := bit_add T used hub
                refine ih2 k (by omega) _ (i + 1) (rest % fct k) (used ||| 2 ^ T) _ _ _ _ _ _ (by omega) (Nat.mod_lt _ (fct_pos k)) (Nat.or_lt_two_pow hu (wb_lt2 (by omega))) (by rw [hbo, hba.2]; omega) ?_ (q2.scr _ rfl) h23 (fun z hz => ?_) rfl hst (by rw [shI31 _ (by omega)]; exact fb_orI _ _) (by rw [nI_add])
                · exact (gD_drop hdr.symm).2.symm
                · show upd (A2 24) i _ z = _
                  by_cases e : z = i
                  · subst e
                    rw [pk_us, (gD_drop hdr.symm).1]
                  · rw [pk_un e]; exact h24 z (by omega)
              refine EvP.s (fun _ _ K => Ev.go 7 rfl K) ?_
              refine EvP.ine rfl (a := 0) ((hasI (by omega) (by omega)).trans (by rw [hub]; rfl)) (rfl : nI 1 = nI 1) (by omega) (by omega) (fun c103 => ?_) (fun c103 => ?_)
              · refine EvP.s (fun _ _ K => Ev.go 5 rfl K) ?_
                refine ih3 (n3 - 1) (by omega) (j + 1) (sk - 1) _ _ (by omega) ?_ ?_ ?_ (by rw [nI_add])
                · rw [← hsk, show ctf (fun z => !used.testBit z) (j + 1) = ctf (fun z => !used.testBit z) j + (if (!used.testBit j) = true then 1 else 0) from rfl, hub]
                  show sk - 1 + (_ + 1) = _
                  omega
                · rw [← hT, hmj]
                  show _ = (if used.testBit j then _ else _)
                  rw [hub, if_neg (by decide), if_neg (by omega)]
                  congr 1
                · exact (nI_sub (by omega))
              exact absurd c103 (by omega)
        exact L3 m 0 (rest / fct k) _ _ (by omega) rfl hTd.symm rfl rfl
      refine EvP.s (fun _ _ K => Ev.go 2 rfl K) ?_
      refine EvP.s (fun _ _ K => Ev.dv rfl rfl rfl (by omega) (fct_pos _) (by omega) K) ?_
      refine EvP.s (fun _ _ K => Ev.go 3 rfl K) ?_
      refine EvP.s (fun _ _ K => Ev.rm rfl rfl rfl (by omega) (fct_pos _) (by omega) K) ?_
      refine EvP.s (fun _ _ K => Ev.go 7 rfl K) ?_
      refine EvP.zle rfl (by rw [nI_sub (by omega), nI_sub (by omega)]) (by omega) (fun c58 => ?_) (fun c58 => ?_)
      · refine EvP.s (fun _ _ K => Ev.go 1 rfl K) ?_
        refine EvP.s (fun _ _ K => Ev.dv rfl rfl (rfl : nI 1 = nI 1) (by omega) (by omega) (by omega) K) ?_
        refine EvP.s (fun _ _ K => Ev.go 3 rfl K) ?_
        have hk0 : k = 0 := by omega
        subst hk0
        exact L3a _ rfl
      refine EvP.s (fun _ _ K => Ev.go 6 rfl K) ?_
      refine EvP.s (fun _ _ K => Ev.dv rfl rfl (by rw [nI_sub (by omega), nI_sub (by omega)]) (by omega) (by omega) (by omega) K) ?_
      refine EvP.s (fun _ _ K => Ev.go 3 rfl K) ?_
      obtain ⟨k', rfl⟩ : ∃ k', k = k' + 1 := ⟨k - 1, by omega⟩
      refine L3a _ ?_
      rw [show m - 1 - i = k' + 1 by omega, fct_div]
      rfl
  have L1 : ∀ (n : Nat) (i : Nat) (sv : Int32) (iv : Int32), (n = m - i) → (2 ≤ i) → (i ≤ m ∨ i = 2) → (sv = nI (fct (i - 1))) → (iv = nI i) → EvP o0 d me_M_layOrder 8 [.ref 5, .int (nI nn), .int (nI m), .int (nI nn), .int sv, .int iv, .retAddr 0, .retAddr 0, .retAddr 0] [] (hp x A B t) (PLo x A B t μ m (fun i => K (gD (pof m nn) i))) := by
    intro n
    induction n using Nat.strongRecOn with
    | _ n ih =>
      intro i sv iv k1 k2 k3 e1 e2
      subst e1
      subst e2
      refine EvP.s (fun _ _ K => Ev.go 2 rfl K) ?_
      refine EvP.ige rfl rfl rfl (by omega) (by omega) (fun c11 => ?_) (fun c11 => ?_)
      · refine EvP.s (fun _ _ K => Ev.go 4 rfl K) ?_
        refine L2 m A 0 nn 0 _ _ _ _ _ _ (by omega) hn (Nat.two_pow_pos m) pcnt_0 rfl q rfl (fun z hz => absurd hz (Nat.not_lt_zero z)) rfl ?_ rfl rfl
        by_cases e : 2 ≤ m
        · rw [show i = m by omega]
        · have h2 : i = 2 := by omega
          have h3 : m = 0 ∨ m = 1 := by omega
          rw [h2]
          rcases h3 with rfl | rfl <;> rfl
      refine EvP.s (fun _ _ K => Ev.go 6 rfl K) ?_
      refine ih (m - (i + 1)) (by omega) (i + 1) _ _ rfl (by omega) (by omega) ?_ (by rw [nI_add])
      obtain ⟨j, rfl⟩ : ∃ j, i = j + 1 := ⟨i - 1, by omega⟩
      rw [pk_mul, Nat.mul_comm]
      rfl
  refine EvP.s (fun _ _ K => Ev.go 6 rfl K) ?_
  exact L1 (m - 2) 2 _ _ rfl (by omega) (Or.inr rfl) rfl rfl
def PGo (x : sn_X5) (A : sn_A2) (B : sn_B2) (t : sn_H) (μ : sn_S) (v : Bool) (r : Option Value) (h' : sn_H) : Prop := r = some (.int (b2i v)) ∧ ∃ A', h' = hp x A' B t ∧ MS A' B μ ∧ A' 23 = A 23 ∧ A' 24 = A 24
theorem PGo.rc {x : sn_X5} {A : sn_A2} {B : sn_B2} {t : sn_H} {μ : sn_S} {v : Bool} {r : Option Value} {h' : sn_H} (q : PGo x A B t μ v r h') : sn_rc (some .boolean) r := by
  obtain ⟨rfl, _⟩ := q; exact b2i_rc _
def gz (b : sn_Bk) (i j : Nat) : Nat := if j < i then 0 else bn b j
theorem gz_s (b : sn_Bk) (i : Nat) : uN (gz b i) i 0 = gz b (i + 1) := by
  funext j
  unfold uN gz
  by_cases e : j = i
  · rw [if_pos e, if_pos (by omega)]
  · rw [if_neg e]
    by_cases e2 : j < i
    · rw [if_pos e2, if_pos (by omega)]
    · rw [if_neg e2, if_neg (by omega)]
theorem gz_32 {n : Nat} {b : sn_Bk} (hb : WB n b) : gz b 32 = fun _ => 0 := by
  funext j
  unfold gz
  split
  · rfl
  · exact hb.2.2.2.2.2.2.2.2.1 j (by have := hb.2.1; omega)
theorem gz_0 (b : sn_Bk) : gz b 0 = bn b := by
  funext j
  unfold gz
  rw [if_neg (by omega)]
set_option maxHeartbeats 4000000 in
theorem e_M_goes (d : Nat) (x : sn_X5) {A : sn_A2} {B : sn_B2} (t : sn_H) {μ : sn_S} (q : MS A B μ) {k m : Nat} {ks : List Nat} {kv mv : Int32} (e1 : kv = nI k) (e2 : mv = nI m) (hk : k < snb μ) (h3 : bk (sbk μ k) = 3) (hm : m ≤ 6) (hl : ks.length = m) (hks : ∀ i, i < m → A 24 i = nI (gD ks i)) (hk32 : ∀ i, i < m → gD ks i < 32) : SpP (d + 3) me_M_goes [.ref 5, .int kv, .int mv] (hp x A B t) (PGo x A B t μ (goA (sw μ) (sbk μ k) ks (fun _ => 0))) := by
  subst e1; subst e2
  have hk8 : k < 8 := by have := q.1.2.1; omega
  have hwb := q.1.2.2 k hk
  have hbm := hwb.2.1
  refine SpP.of ok_M_goes (fun r h' z => z.rc) rfl ?_
  have L3 : ∀ (n : Nat) (A2 : sn_A2) (g : Nat → Nat) (i : Nat) (iv : Int32), (i + n = 32) → (MS A2 B (setB μ k (bnu (sbk μ k) g))) → (∀ j, j < 32 → A2 25 j = nI (bn (sbk μ k) j)) → (A2 23 = A 23) → (A2 24 = A 24) → (∀ j, j < i → g j = bn (sbk μ k) j) → (iv = nI i) → EvP o0 (d + 3) me_M_goes 80 [.ref 5, .int (nI k), .int (nI m), .int (b2i (goA (sw μ) (sbk μ k) ks (fun _ => 0))), .int iv] [] (hp x A2 B t) (PGo x A B t μ (goA (sw μ) (sbk μ k) ks (fun _ => 0))) := by
    intro n
    induction n using Nat.strongRecOn with
    | _ n ih =>
      intro A2 g i iv k1 hM hW h23 h24 hg e3
      subst e3
      refine EvP.s (fun _ _ K => Ev.go 2 rfl K) ?_
      refine EvP.ige rfl rfl rfl (by omega) (by omega) (fun c84 => ?_) (fun c84 => ?_)
      · refine EvP.s (fun _ _ K => Ev.go 1 rfl K) ?_
        refine ⟨_, _, Ev.reti rfl rfl, ?_⟩
        refine ⟨rfl, A2, rfl, ?_, h23, h24⟩
        have eg : g = bn (sbk μ k) := by
          funext j
          by_cases e : j < i
          · exact hg j e
          · have z1 := (hM.mkg hk).2.2.1.2.2.2.2.2.2.2.2.1 j (by show bm (sbk μ k) ≤ j; omega)
            rw [hwb.2.2.2.2.2.2.2.2.1 j (by omega)]; exact z1
        rw [eg, setB_bnu_self, setB_id] at hM
        exact hM
      refine EvP.s (fun _ _ K => Ev.go 1 rfl K) ?_
      refine EvP.s (fun _ _ K => Ev.gf rfl lf_1_25_1 hp_5 rfl K) ?_
      refine EvP.s (fun _ _ K => Ev.go 6 rfl K) ?_
      refine EvP.s (fun _ _ K => Ev.gf rfl lf_1_69_1 hp_5 rfl K) ?_
      refine EvP.s (fun _ _ K => Ev.go 1 rfl K) ?_
      refine EvP.s (fun _ _ K => Ev.iln rfl hp_25 rfl (by omega) (by omega) K) ?_
      rw [hW i (by omega)]
      refine EvP.s (fun _ _ K => Ev.isn rfl hp_11 (by rw [pk_mul, nI_add]) (by omega) (by omega) K) ?_
      rw [hps_11]
      refine EvP.s (fun _ _ K => Ev.go 2 rfl K) ?_
      exact ih (n - 1) (by omega) _ (uN g i (bn (sbk μ k) i)) (i + 1) _ (by omega) (hM.numg0 hk (by omega) (hwb.2.2.2.2.2.2.2.1 i) (fun q => hwb.2.2.2.2.2.2.2.2.1 i q)) hW h23 h24 (fun j hj => by
        by_cases e : j = i
        · subst e; exact if_pos rfl
        · exact (if_neg e).trans (hg j (by omega))) (by rw [nI_add])
  have L2 : ∀ (n : Nat) (A2 : sn_A2) (g : Nat → Nat) (i : Nat) (fn : Bool) (fv : Int32) (iv : Int32), (i + n = m) → (MS A2 B (setB μ k (bnu (sbk μ k) g))) → (∀ j, j < 32 → A2 25 j = nI (bn (sbk μ k) j)) → (A2 23 = A 23) → (A2 24 = A 24) → (fn = true → goA (sw μ) (sbk μ k) (ks.drop i) g = goA (sw μ) (sbk μ k) ks (fun _ => 0)) → (fn = false → goA (sw μ) (sbk μ k) ks (fun _ => 0) = false) → (fv = b2i fn) → (iv = nI i) → EvP o0 (d + 3) me_M_goes 48 [.ref 5, .int (nI k), .int (nI m), .int fv, .int iv] [] (hp x A2 B t) (PGo x A B t μ (goA (sw μ) (sbk μ k) ks (fun _ => 0))) := by
    intro n
    induction n using Nat.strongRecOn with
    | _ n ih =>
      intro A2 g i fn fv iv k1 hM hW h23 h24 hR1 hR2 e2 e3
      subst e2
      subst e3
      refine EvP.s (fun _ _ K => Ev.go 2 rfl K) ?_
      refine EvP.ige rfl rfl rfl (by omega) (by omega) (fun c51 => ?_) (fun c51 => ?_)
      · have hfn : fn = goA (sw μ) (sbk μ k) ks (fun _ => 0) := by
          cases hfq : fn with
          | false => rw [hR2 hfq]
          | true =>
            first
            | (rw [← hR1 hfq, List.drop_eq_nil_of_le (by omega)]; rfl)
            | (rw [hfq] at c55; cases c55)
        rw [hfn]
        refine EvP.s (fun _ _ K => Ev.go 2 rfl K) ?_
        exact L3 32 A2 g 0 _ (by omega) hM hW h23 h24 (fun j hj => absurd hj (Nat.not_lt_zero j)) rfl
      refine EvP.s (fun _ _ K => Ev.go 1 rfl K) ?_
      refine EvP.zb rfl rfl (fun c55 => ?_) (fun c55 => ?_)
      · have hfn : fn = goA (sw μ) (sbk μ k) ks (fun _ => 0) := by
          cases hfq : fn with
          | false => rw [hR2 hfq]
          | true =>
            first
            | (rw [← hR1 hfq, List.drop_eq_nil_of_le (by omega)]; rfl)
            | (rw [hfq] at c55; cases c55)
        rw [hfn]
        refine EvP.s (fun _ _ K => Ev.go 2 rfl K) ?_
        exact L3 32 A2 g 0 _ (by omega) hM hW h23 h24 (fun j hj => absurd hj (Nat.not_lt_zero j)) rfl
      have hil : i < ks.length := by omega
      have hdr : ks.drop i = gD ks i :: ks.drop (i + 1) := by
        rw [List.drop_eq_getElem_cons hil]
        congr 1
        unfold gD
        rw [List.getD_eq_getElem?_getD, List.getElem?_eq_getElem hil]
        rfl
      obtain ⟨r2, h2, sp2, A3, eh, er, hM3, hK3⟩ := e_M_push2 d x t (⟨hM, fun _ _ => rfl⟩ : MSx A2 A2 B _) (rfl : nI k = nI k) (rfl : nI (gD ks i) = nI (gD ks i)) hk (hk32 i (by omega)) (rfl : sw μ = sw μ) (setB_k μ k (bnu (sbk μ k) g)).symm h3
      subst eh
      subst er
      refine EvP.s (fun _ _ K => Ev.go 3 rfl K) ?_
      refine EvP.s (fun _ _ K => Ev.gf rfl lf_1_66_1 hp_5 rfl K) ?_
      refine EvP.s (fun _ _ K => Ev.go 1 rfl K) ?_
      refine EvP.s (fun _ _ K => Ev.iln rfl hp_24 rfl (by omega) (by omega) K) ?_
      rw [h24, hks i (by omega)]
      refine EvP.s (fun _ _ K => Ev.cv (E' := me_M_push) rfl mk_M_push lv_1_185_1 rfl hp_5 rfl (sp2) K) ?_
      refine EvP.s (fun _ _ K => Ev.go 3 rfl K) ?_
      rw [setB_u] at hM3
      have hR1' := hR1 c55
      rw [hdr] at hR1'
      cases hps : psh (bm (sbk μ k)) g (frs (sw μ) (sbk μ k) (gD ks i)) (mrk (sw μ) (sbk μ k) 1 (gD ks i)) with
      | none =>
        have hps2 : psh (bm (bnu (sbk μ k) g)) (bn (bnu (sbk μ k) g)) (frs (sw μ) (bnu (sbk μ k) g) (gD ks i)) (mrk (sw μ) (bnu (sbk μ k) g) 1 (gD ks i)) = none := hps
        rw [hps2] at hM3 ⊢
        refine ih (n - 1) (by omega) A3 g (i + 1) false _ _ (by omega) hM3 (fun j hj => by rw [hK3 25 (by omega)]; exact hW j hj) ((hK3 23 (by omega)).trans h23) ((hK3 24 (by omega)).trans h24) (fun z => by cases z) (fun _ => ?_) rfl (by rw [nI_add])
        rw [← hR1']
        show (match psh _ _ _ _ with | none => false | some g' => _) = false
        rw [hps]
      | some g' =>
        have hps2 : psh (bm (bnu (sbk μ k) g)) (bn (bnu (sbk μ k) g)) (frs (sw μ) (bnu (sbk μ k) g) (gD ks i)) (mrk (sw μ) (bnu (sbk μ k) g) 1 (gD ks i)) = some g' := hps
        rw [hps2] at hM3 ⊢
        refine ih (n - 1) (by omega) A3 g' (i + 1) true _ _ (by omega) hM3 (fun j hj => by rw [hK3 25 (by omega)]; exact hW j hj) ((hK3 23 (by omega)).trans h23) ((hK3 24 (by omega)).trans h24) (fun _ => ?_) (fun z => by cases z) rfl (by rw [nI_add])
        rw [← hR1']
        show _ = (match psh _ _ _ _ with | none => false | some g' => _)
        rw [hps]
  have L1 : ∀ (n : Nat) (A2 : sn_A2) (i : Nat) (iv : Int32), (i + n = 32) → (MS A2 B (setB μ k (bnu (sbk μ k) (gz (sbk μ k) i)))) → (∀ j, j < i → A2 25 j = nI (bn (sbk μ k) j)) → (A2 23 = A 23) → (A2 24 = A 24) → (iv = nI i) → EvP o0 (d + 3) me_M_goes 2 [.ref 5, .int (nI k), .int (nI m), .int iv, .retAddr 0] [] (hp x A2 B t) (PGo x A B t μ (goA (sw μ) (sbk μ k) ks (fun _ => 0))) := by
    intro n
    induction n using Nat.strongRecOn with
    | _ n ih =>
      intro A2 i iv k1 hM hW h23 h24 e3
      subst e3
      refine EvP.s (fun _ _ K => Ev.go 2 rfl K) ?_
      refine EvP.ige rfl rfl rfl (by omega) (by omega) (fun c5 => ?_) (fun c5 => ?_)
      · refine EvP.s (fun _ _ K => Ev.go 4 rfl K) ?_
        have ei : i = 32 := by omega
        subst ei
        rw [gz_32 hwb] at hM
        exact L2 m A2 (fun _ => 0) 0 true _ _ (by omega) hM hW h23 h24 (fun _ => rfl) (fun z => by cases z) rfl rfl
      refine EvP.s (fun _ _ K => Ev.go 1 rfl K) ?_
      refine EvP.s (fun _ _ K => Ev.gf rfl lf_1_69_1 hp_5 rfl K) ?_
      refine EvP.s (fun _ _ K => Ev.go 2 rfl K) ?_
      refine EvP.s (fun _ _ K => Ev.gf rfl lf_1_25_1 hp_5 rfl K) ?_
      refine EvP.s (fun _ _ K => Ev.go 5 rfl K) ?_
      refine EvP.s (fun _ _ K => Ev.iln rfl hp_11 (by rw [pk_mul, nI_add]) (by omega) (by omega) K) ?_
      rw [(hM.mkg hk).2.2.2.1.2.2.2.1 i (by omega), bn_bnu, show gz (sbk μ k) i i = bn (sbk μ k) i from if_neg (Nat.lt_irrefl i)]
      refine EvP.s (fun _ _ K => Ev.isn rfl hp_25 rfl (by omega) (by omega) K) ?_
      rw [hps_25]
      skip
      refine EvP.s (fun _ _ K => Ev.go 1 rfl K) ?_
      refine EvP.s (fun _ _ K => Ev.gf rfl lf_1_25_1 hp_5 rfl K) ?_
      refine EvP.s (fun _ _ K => Ev.go 6 rfl K) ?_
      refine EvP.s (fun _ _ K => Ev.isn rfl hp_11 (by rw [pk_mul, nI_add]) (by omega) (by omega) K) ?_
      rw [hps_11]
      refine EvP.s (fun _ _ K => Ev.go 2 rfl K) ?_
      have hM1 := (hM.scr (a := 25) (upd (A2 25) i (nI (bn (sbk μ k) i))) rfl).numg0 hk (i := i) (v := 0) (by omega) (by omega) (fun _ => rfl)
      rw [gz_s] at hM1
      refine ih (n - 1) (by omega) _ (i + 1) _ (by omega) hM1 (fun j hj => ?_) h23 h24 (by rw [nI_add])
      show upd (A2 25) i _ j = _
      by_cases e : j = i
      · subst e; exact pk_us
      · rw [pk_un e]; exact hW j (by omega)
  refine EvP.s (fun _ _ K => Ev.go 2 rfl K) ?_
  refine L1 32 A 0 _ (by omega) ?_ (fun j hj => absurd hj (Nat.not_lt_zero j)) rfl rfl rfl
  rw [gz_0, setB_bnu_self, setB_id]
  exact q
set_option maxHeartbeats 4000000 in
theorem p_M_order (d : Nat) (x : sn_X5) {A : sn_A2} {B : sn_B2} (t : sn_H) {μ : sn_S} (q : MS A B μ) (kv : Int32) (sv : Int64) (wv : Int32) : SpP (d + 4) me_M_order [.ref 5, .int kv, .long sv, .int wv] (hp x A B t) (PMi x t (an_order μ kv sv wv, μ)) := by
  refine SpP.of ok_M_order (fun r h' z => z.rc) rfl ?_
  have J : ∀ (k s w : Nat), k < snb μ → s < 2 ^ 32 → w < 6 → pcnt s ≤ 6 → bk (sbk μ k) = 3 → EvP o0 (d + 4) me_M_order 56 [.ref 5, .int (nI k), .long (lN s), .retAddr 0, .int (nI w), .retAddr 0, .retAddr 0, .retAddr 0] [] (hp x A B t) (PMi x t (orv (sw μ) (sbk μ k) s w, μ)) := by
    intro k s w hk1 hs hw h6 hk3
    have L2 : ∀ (n : Nat) (A2 : sn_A2) (nn : Nat) (iv : Int32), (nn + n = fct (pcnt s)) → (MS A2 B μ) → (∀ j, j < pcnt s → A2 23 j = nI (ky s j)) → (fso (sw μ) (sbk μ k) s n nn = fso (sw μ) (sbk μ k) s (fct (pcnt s)) 0) → (iv = nI nn) → EvP o0 (d + 4) me_M_order 109 [.ref 5, .int (nI k), .long (lN s), .retAddr 0, .int (nI w), .int (nI (pcnt s)), .int (nI (fct (pcnt s))), .int iv] [] (hp x A2 B t) (PMi x t (orv (sw μ) (sbk μ k) s w, μ)) := by
      intro n
      induction n using Nat.strongRecOn with
      | _ n ih =>
        intro A2 nn iv k1 q2 hK hf e3
        subst e3
        have hf720 := fct_le (pcnt s) (by omega)
        refine EvP.s (fun _ _ K => Ev.go 2 rfl K) ?_
        refine EvP.ige rfl rfl rfl (by omega) (by omega) (fun c113 => ?_) (fun c113 => ?_)
        · refine EvP.s (fun _ _ K => Ev.go 1 rfl K) ?_
          refine ⟨_, _, Ev.reti rfl rfl, ?_⟩
          refine PMi.mk q2 ?_
          unfold orv
          rw [← hf, show n = 0 by omega]
          rfl
        obtain ⟨n, rfl⟩ : ∃ z, n = z + 1 := ⟨n - 1, by omega⟩
        obtain ⟨r2, h2, sp2, er2, A3, eh2, q3, h23, h24⟩ := e_M_layOrder (d + 3) x t q2 (rfl : nI nn = nI nn) (rfl : nI (pcnt s) = _) h6 (by omega) hK
        subst er2
        subst eh2
        have hpl := pof_len (m := pcnt s) (n := nn) (by omega) (by omega)
        have hgm : ∀ i, i < pcnt s → gD ((pof (pcnt s) nn).map (ky s)) i = ky s (gD (pof (pcnt s) nn) i) := fun i hi => by
          unfold gD
          rw [List.getD_eq_getElem?_getD, List.getD_eq_getElem?_getD, List.getElem?_map, List.getElem?_eq_getElem (by omega)]
          rfl
        obtain ⟨r4, h4, sp3, er4, A4, eh4, q4, h234, h244⟩ := e_M_goes d x t q3 (rfl : nI k = nI k) (rfl : nI (pcnt s) = _) hk1 hk3 h6 (ks := (pof (pcnt s) nn).map (ky s)) (by rw [List.length_map]; exact hpl) (fun i hi => by rw [hgm i hi]; exact h24 i hi) (fun i hi => by rw [hgm i hi]; exact (ky_ok hs (pof_lt (by omega) (by omega) hi)).1)
        subst er4
        subst eh4
        refine EvP.s (fun _ _ K => Ev.go 3 rfl K) ?_
        refine EvP.s (fun _ _ K => Ev.cv0 (E' := me_M_layOrder) rfl mk_M_layOrder lv_1_243_1 rfl hp_5 rfl (sp2) K) ?_
        refine EvP.s (fun _ _ K => Ev.go 3 rfl K) ?_
        refine EvP.s (fun _ _ K => Ev.cv (E' := me_M_goes) rfl mk_M_goes lv_1_247_1 rfl hp_5 rfl (sp3) K) ?_
        refine EvP.zb rfl rfl (fun c131 => ?_) (fun c131 => ?_)
        · refine EvP.s (fun _ _ K => Ev.go 2 rfl K) ?_
          refine ih n (by omega) A4 (nn + 1) _ (by omega) q4 (fun j hj => by rw [h234, h23]; exact hK j hj) ?_ (by rw [nI_add])
          rw [← hf]
          show _ = (if goO (sw μ) (sbk μ k) s nn then _ else _)
          rw [show goO (sw μ) (sbk μ k) s nn = false from c131, if_neg (by decide)]
        refine EvP.s (fun _ _ K => Ev.go 2 rfl K) ?_
        refine EvP.ige rfl rfl rfl (by omega) (by omega) (fun c138 => ?_) (fun c138 => ?_)
        · refine EvP.s (fun _ _ K => Ev.go 1 rfl K) ?_
          refine ⟨_, _, Ev.reti rfl rfl, ?_⟩
          refine PMi.mk q4 ?_
          have hfs : fso (sw μ) (sbk μ k) s (fct (pcnt s)) 0 = some nn := by
            rw [← hf]
            show (if goO (sw μ) (sbk μ k) s nn then _ else _) = _
            rw [show goO (sw μ) (sbk μ k) s nn = true from c131, if_pos rfl]
          unfold orv
          rw [hfs]
          show (_, μ) = (if w < pcnt s then _ else _, μ)
          rw [if_neg (by omega)]
        refine EvP.s (fun _ _ K => Ev.go 1 rfl K) ?_
        refine EvP.s (fun _ _ K => Ev.gf rfl lf_1_66_1 hp_5 rfl K) ?_
        refine EvP.s (fun _ _ K => Ev.go 1 rfl K) ?_
        refine EvP.s (fun _ _ K => Ev.iln rfl hp_24 rfl (by omega) (by omega) K) ?_
        rw [h244, h24 w (by omega)]
        refine EvP.s (fun _ _ K => Ev.go 1 rfl K) ?_
        refine ⟨_, _, Ev.reti rfl rfl, ?_⟩
        refine PMi.mk q4 ?_
        have hfs : fso (sw μ) (sbk μ k) s (fct (pcnt s)) 0 = some nn := by
          rw [← hf]
          show (if goO (sw μ) (sbk μ k) s nn then _ else _) = _
          rw [show goO (sw μ) (sbk μ k) s nn = true from c131, if_pos rfl]
        unfold orv
        rw [hfs]
        show (_, μ) = (if w < pcnt s then _ else _, μ)
        rw [if_pos c138]
    have L1 : ∀ (n : Nat) (A2 : sn_A2) (i : Nat) (cv : Int32) (wv : Int32) (iv : Int32), (i + n = 32) → (MS A2 B μ) → (∀ j, j < ctf (fun z => s.testBit z) i → A2 23 j = nI (ky s j)) → (cv = nI (ctf (fun z => s.testBit z) i)) → (wv = nI (fct (ctf (fun z => s.testBit z) i))) → (iv = nI i) → EvP o0 (d + 4) me_M_order 65 [.ref 5, .int (nI k), .long (lN s), .retAddr 0, .int (nI w), .int cv, .int wv, .int iv] [] (hp x A2 B t) (PMi x t (orv (sw μ) (sbk μ k) s w, μ)) := by
      intro n
      induction n using Nat.strongRecOn with
      | _ n ih =>
        intro A2 i cv wv iv k1 q2 hK e1 e2 e3
        subst e1
        subst e2
        subst e3
        have hcl : ctf (fun z => s.testBit z) i ≤ pcnt s := by rw [pcnt_ct hs]; exact ctf_mn _ (by omega)
        refine EvP.s (fun _ _ K => Ev.go 2 rfl K) ?_
        refine EvP.ige rfl rfl rfl (by omega) (by omega) (fun c69 => ?_) (fun c69 => ?_)
        · refine EvP.s (fun _ _ K => Ev.go 2 rfl K) ?_
          have ei : i = 32 := by omega
          subst ei
          rw [← pcnt_ct hs]
          rw [← pcnt_ct hs] at hK
          exact L2 (fct (pcnt s)) A2 0 _ (by omega) q2 hK rfl rfl
        refine EvP.s (fun _ _ K => Ev.go 2 rfl K) ?_
        refine EvP.s (fun _ _ K => Ev.cs (E' := me_M_has) rfl mk_M_has ls_1_100 rfl rfl (e_M_has (d + 3) _ rfl rfl (by omega) (by omega)) K) ?_
        refine EvP.zb rfl rfl (fun c78 => ?_) (fun c78 => ?_)
        · refine EvP.s (fun _ _ K => Ev.go 2 rfl K) ?_
          have hcn : ctf (fun z => s.testBit z) (i + 1) = ctf (fun z => s.testBit z) i := by
            show ctf (fun z => s.testBit z) i + (if s.testBit i = true then 1 else 0) = _
            rw [c78]; rfl
          exact ih (n - 1) (by omega) A2 (i + 1) _ _ _ (by omega) q2 (fun j hj => hK j (by omega)) (by rw [hcn]) (by rw [hcn]) (by rw [nI_add])
        have hcs := ctf_s (f := fun z => s.testBit z) c78
        have hcl2 : ctf (fun z => s.testBit z) (i + 1) ≤ pcnt s := by rw [pcnt_ct hs]; exact ctf_mn _ (by omega)
        refine EvP.s (fun _ _ K => Ev.go 1 rfl K) ?_
        refine EvP.s (fun _ _ K => Ev.gf rfl lf_1_63_1 hp_5 rfl K) ?_
        refine EvP.s (fun _ _ K => Ev.go 2 rfl K) ?_
        refine EvP.s (fun _ _ K => Ev.isn rfl hp_23 rfl (by omega) (by omega) K) ?_
        rw [hps_23]
        refine EvP.s (fun _ _ K => Ev.go 7 rfl K) ?_
        refine ih (n - 1) (by omega) _ (i + 1) _ _ _ (by omega) (q2.scr _ rfl) (fun j hj => ?_) (by rw [hcs, nI_add]) (by rw [hcs, nI_add, pk_mul, Nat.mul_comm]; rfl) (by rw [nI_add])
        show upd (A2 23) (ctf (fun z => s.testBit z) i) _ j = _
        by_cases e : j = ctf (fun z => s.testBit z) i
        · subst e; rw [pk_us, ky_eq c78 (by omega)]
        · rw [pk_un e]; exact hK j (by omega)
    refine EvP.s (fun _ _ K => Ev.go 6 rfl K) ?_
    exact L1 32 A 0 _ _ _ (by omega) q (fun j hj => absurd hj (Nat.not_lt_zero j)) rfl rfl rfl
  refine EvP.s (fun _ _ K => Ev.go 2 rfl K) ?_
  refine EvP.s (fun _ _ K => Ev.cv (E' := me_M_isBook) rfl mk_M_isBook lv_1_131_1 rfl hp_5 rfl (e_M_isBook (d + 2) x t q _) K) ?_
  refine EvP.zn rfl rfl (fun c5 => ?_) (fun c5 => ?_)
  · obtain ⟨k, hk1, hk2, rfl⟩ := rg_ex (ofd c5)
    have h5 := (q.1.2.2 k hk1).1
    refine EvP.s (fun _ _ K => Ev.go 1 rfl K) ?_
    refine EvP.s (fun _ _ K => Ev.cs (E' := me_M_isSet) rfl mk_M_isSet ls_1_108 rfl rfl (e_M_isSet2 (d + 2) _ _) K) ?_
    refine EvP.zb rfl rfl (fun c15 => ?_) (fun c15 => ?_)
    · refine EvP.s (fun _ _ K => Ev.go 1 rfl K) ?_
      refine ⟨_, _, Ev.reti rfl rfl, ?_⟩
      refine PMi.mk q ?_
      unfold an_order; rw [if_neg (fun z => z (ofd c5)), if_pos (fun z => ofn c15 z.1)]
    obtain ⟨s, hs, rfl⟩ := sg_ex (ofd c15)
    have hp32 := pcnt_le hs
    refine EvP.s (fun _ _ K => Ev.go 1 rfl K) ?_
    refine EvP.s (fun _ _ K => Ev.cs (E' := me_M_ones) rfl mk_M_ones ls_1_127 rfl rfl (e_M_ones (d + 3) _ rfl hs) K) ?_
    refine EvP.s (fun _ _ K => Ev.go 1 rfl K) ?_
    refine EvP.igt rfl rfl rfl (by omega) (by omega) (fun c24 => ?_) (fun c24 => ?_)
    · refine EvP.s (fun _ _ K => Ev.go 1 rfl K) ?_
      refine ⟨_, _, Ev.reti rfl rfl, ?_⟩
      refine PMi.mk q ?_
      unfold an_order; rw [if_neg (fun z => z (ofd c5)), if_pos (fun z => by have := z.2.1; rw [ts_lN hs] at this; omega)]
    refine EvP.s (fun _ _ K => Ev.go 4 rfl K) ?_
    refine EvP.s (fun _ _ K => Ev.cs (E' := me_M_within) rfl mk_M_within ls_1_77 rfl rfl (e_M_within0 (d + 3) _ _ (n := 6) rfl) K) ?_
    refine EvP.zn rfl rfl (fun c37 => ?_) (fun c37 => ?_)
    · obtain ⟨w, hw, hw2, rfl⟩ := rg_ex (n := 6) (ofd c37)
      refine EvP.s (fun _ _ K => Ev.go 1 rfl K) ?_
      refine EvP.s (fun _ _ K => Ev.gf rfl lf_1_16_1 hp_5 rfl K) ?_
      refine EvP.s (fun _ _ K => Ev.go 1 rfl K) ?_
      refine EvP.s (fun _ _ K => Ev.iln rfl hp_8 rfl (by have := (q.mk hk1).2.2.2.2; omega) (by omega) K) ?_
      rw [(q.mk hk1).2.2.2.1.1]
      refine EvP.s (fun _ _ K => Ev.go 1 rfl K) ?_
      refine EvP.ieq rfl rfl rfl (by omega) (by omega) (fun c50 => ?_) (fun c50 => ?_)
      · have hu : an_order μ (nI k) (lN s) (nI w) = orv (sw μ) (sbk μ k) s w := by
          unfold an_order; rw [if_neg (fun z => z (ofd c5)), if_neg (fun z => z ⟨ofd c15, by rw [ts_lN hs]; exact c24, ofd c37⟩), tn_nI hk2, ts_lN hs, tn_nI hw2, if_neg (fun z => z c50)]
        rw [hu]
        exact J k s w hk1 hs hw c24 c50
      refine EvP.s (fun _ _ K => Ev.go 1 rfl K) ?_
      refine ⟨_, _, Ev.reti rfl rfl, ?_⟩
      refine PMi.mk q ?_
      unfold an_order; rw [if_neg (fun z => z (ofd c5)), if_neg (fun z => z ⟨ofd c15, by rw [ts_lN hs]; exact c24, ofd c37⟩), tn_nI hk2, if_pos c50]
    refine EvP.s (fun _ _ K => Ev.go 1 rfl K) ?_
    refine ⟨_, _, Ev.reti rfl rfl, ?_⟩
    refine PMi.mk q ?_
    unfold an_order; rw [if_neg (fun z => z (ofd c5)), if_pos (fun z => ofn c37 z.2.2)]
  refine EvP.s (fun _ _ K => Ev.go 1 rfl K) ?_
  refine ⟨_, _, Ev.reti rfl rfl, ?_⟩
  refine PMi.mk q ?_
  unfold an_order; rw [if_pos (ofn c5)]
