/-! THE REFERENCE: layering, building -/
theorem e_M_thoseIn (d : Nat) (x : sn_X5) {A : sn_A2} {B : sn_B2} (t : sn_H) {w : sn_Lw} {k : Nat} {b : sn_Bk} (q : MK A B w k b) {kv rv : Int32} {sv : Int64} {r s R : Nat} (e1 : kv = nI k) (e2 : rv = nI r) (e3 : sv = lN s) (hr : r < 7) (hs : s < 2 ^ 32) (hR : B 18 r = lN R) (hR2 : R < 2 ^ 32) : Sp (d + 2) me_M_thoseIn [.ref 5, .int kv, .int rv, .long sv] (hp x A B t) (some (.long (lN (tin w b r R s)))) (hp x A B t) := by
  obtain ⟨hw, hL, hb, hB, hk⟩ := q
  obtain ⟨r8, r9, r10, r11, r12, r13, r14⟩ := id hB
  have hm := hb.2.1
  have hpc := hb.2.2.2.2.1
  have hbl := hb.bl256 hw.1
  subst e1; subst e2; subst e3
  refine Sp.of ok_M_thoseIn trivial rfl ?_
  have L : ∀ (n : Nat) (i : Nat) (bv : Int64) (iv : Int32), (i + n = 32) → (bv = lN (orf (fun x => if s.testBit x && R.testBit (lpl w b r x) then 2 ^ x else 0) i)) → (iv = nI i) → Ev o0 (d + 2) me_M_thoseIn 6 [.ref 5, .int (nI k), .int (nI r), .long (lN s), .retAddr 0, .long bv, .retAddr 0, .int iv] [] (hp x A B t) (some (.long (lN (tin w b r R s)))) (hp x A B t) := by
    intro n
    induction n using Nat.strongRecOn with
    | _ n ih =>
      intro i bv iv h1 h2 e5
      subst h2
      subst e5
      refine Ev.go 2 rfl ?_
      refine Ev.ige rfl rfl rfl (by omega) (by omega) (fun c10 => ?_) (fun c10 => ?_)
      · refine Ev.go 1 rfl ?_
        exact Ev.retl rfl (by rw [show i = 32 by omega]; rfl)
      refine Ev.go 3 rfl ?_
      refine Ev.cs (E' := me_M_has) rfl mk_M_has ls_1_100 rfl rfl (e_M_has (d + 1) _ rfl rfl (by omega) (by omega)) ?_
      refine Ev.zb rfl rfl (fun c21 => ?_) (fun c21 => ?_)
      · refine Ev.go 5 rfl ?_
        exact ih (n - 1) (by omega) (i + 1) _ _ (by omega) (or_step (by simp [c21])) (by rw [nI_add])
      refine Ev.go 1 rfl ?_
      refine Ev.gf rfl lf_1_47_1 hp_5 rfl ?_
      refine Ev.go 1 rfl ?_
      refine Ev.lln rfl hp_18 rfl (by omega) (by omega) ?_
      rw [hR]
      refine Ev.go 4 rfl ?_
      refine Ev.cv (E' := me_M_layerPlace) rfl mk_M_layerPlace lv_1_173_1 rfl hp_5 rfl (e_M_layerPlace d x t ⟨hw, hL, hb, hB, hk⟩ rfl rfl rfl (by omega) (by omega)) ?_
      refine Ev.cs (E' := me_M_has) rfl mk_M_has ls_1_100 rfl rfl (e_M_has (d + 1) _ rfl rfl (by omega) (by have := lpl_lt (w := w) hb r i; omega)) ?_
      refine Ev.zb rfl rfl (fun c41 => ?_) (fun c41 => ?_)
      · refine Ev.go 5 rfl ?_
        exact ih (n - 1) (by omega) (i + 1) _ _ (by omega) (or_step (by simp [c21, c41])) (by rw [nI_add])
      refine Ev.go 4 rfl ?_
      refine Ev.go 4 rfl ?_
      exact ih (n - 1) (by omega) (i + 1) _ _ (by omega) (by rw [sh1 (by omega)]; exact or_step (by simp [c21, c41])) (by rw [nI_add])
  refine Ev.go 4 rfl ?_
  exact L 32 0 _ _ (by omega) rfl rfl
theorem MS.rows {A : sn_A2} {B B2 : sn_B2} {μ : sn_S} (h : MS A B μ) {k r : Nat} {b : sn_Bk} {g : Nat → Nat} (hb : b = sbk μ k) (hk : k < snb μ) (hr : r ≤ 6) (hg : ∀ i, g i < 2 ^ 32) (h1 : ∀ j, ¬ (6 * k ≤ j ∧ j < 6 * k + 6) → B2 14 j = B 14 j) (h2 : ∀ i, i < r → B2 14 (6 * k + i) = lN (g i)) : MS (uA A 13 (upd (A 13) k (nI r))) B2 (setB μ k (bru b r g)) := by
  subst hb
  refine ⟨h.1.setB ((h.1.2.2 k hk).bru hr hg), ⟨h.2.1.1, h.2.1.2⟩, h.2.2.1, fun j hj => ?_⟩
  obtain ⟨a1, a2, a3, a4, a5, a6, a7⟩ := h.2.2.2 j hj
  by_cases e : j = k
  · subst e
    rw [setB_k]
    exact ⟨a1, a2, a3, a4, a5, pk_us (f := A 13), h2⟩
  · rw [setB_n μ _ e]
    refine ⟨a1, a2, a3, a4, a5, (pk_un (f := A 13) e).trans a6, fun i hi => ?_⟩
    have hbc : bc (sbk μ j) ≤ 6 := (h.1.2.2 j hj).2.2.2.2.2.2.2.2.2.2.1
    rw [h1 _ (by omega)]
    exact a7 i hi
theorem lay_len {w : sn_Lw} {b : sn_Bk} : ∀ {n r s o : Nat} {T : List Nat}, lay w b n r s o = some T → T.length ≤ n
  | 0, r, s, o, T, h => by
    unfold lay at h
    split at h
    · cases h; exact Nat.le_refl _
    · cases h
  | n + 1, r, s, o, T, h => by
    unfold lay at h
    split at h
    · cases h; exact Nat.zero_le _
    · cases hq : lay w b n (r + 1) (tin w b r (prow w b r s) o) s with
      | none => rw [hq] at h; cases h
      | some U =>
        rw [hq] at h
        cases h
        have := lay_len hq
        simp; omega
theorem e_M_layer (d : Nat) (x : sn_X5) {A : sn_A2} {B : sn_B2} (t : sn_H) {μ : sn_S} (q : MS A B μ) {k s0 o0_ : Nat} {kv : Int32} {sv ov : Int64} (e1 : kv = nI k) (e2 : sv = lN s0) (e3 : ov = lN o0_) (hk : k < snb μ) (hs0 : s0 < 2 ^ 32) (ho0 : o0_ < 2 ^ 32) {w : sn_Lw} {b : sn_Bk} (hw : w = sw μ) (hb : b = sbk μ k) : SpP (d + 3) me_M_layer [.ref 5, .int kv, .long sv, .long ov] (hp x A B t) (fun (r : Option Value) (h' : sn_H) => ∃ A' B', h' = hp x A' B' t ∧ r = some (.int (b2i (lay w b 6 0 s0 o0_).isSome)) ∧ MS A' B' (setB μ k (((lay w b 6 0 s0 o0_).map fun T => bru b T.length (fun i => T.getD i 0)).getD b))) := by
  subst e1; subst e2; subst e3
  have hk8 : k < 8 := by have := q.1.2.1; omega
  have hwb : WB w.1 b := by rw [hw, hb]; exact q.1.2.2 k hk
  have hm := hwb.2.1
  have MKof : ∀ {B2 : sn_B2}, MS A B2 μ → MK A B2 w k b := fun h => by rw [hw, hb]; exact h.mk hk
  generalize hPe : (fun (r : Option Value) (h' : sn_H) => ∃ A' B', h' = hp x A' B' t ∧ r = some (.int (b2i (lay w b 6 0 s0 o0_).isSome)) ∧ MS A' B' (setB μ k (((lay w b 6 0 s0 o0_).map fun T => bru b T.length (fun i => T.getD i 0)).getD b))) = P
  refine SpP.of ok_M_layer (fun r h' z => by rw [← hPe] at z; obtain ⟨_, _, _, rfl, _⟩ := z; exact b2i_rc _) rfl ?_
  have L4 : ∀ (B : sn_B2) (T : List Nat), MS A B μ → T.length ≤ 6 → (∀ i, T.getD i 0 < 2 ^ 32) → lay w b 6 0 s0 o0_ = some T → ∀ (n : Nat) (B2 : sn_B2) (i : Nat) (iv : Int32), (i + n = T.length) → (∀ j, ¬ (6 * k ≤ j ∧ j < 6 * k + 6) → B2 14 j = B 14 j) → (∀ j, j < i → B2 14 (6 * k + j) = lN (T.getD j 0)) → (∀ j, j < T.length → B2 18 j = lN (T.getD j 0)) → (iv = nI i) → ∀ (v7 v9 : Int64) (v11 : Int32) (v13 : Value) (v14 : Value), EvP o0 (d + 3) me_M_layer 160 [.ref 5, .int (nI k), .long (lN s0), .retAddr 0, .long (lN o0_), .retAddr 0, .int (nI T.length), .long v7, .retAddr 0, .long v9, .retAddr 0, .int v11, .int iv, v13, v14] [] (hp x (uA A 13 (upd (A 13) k (nI T.length))) B2 t) P := by
    intro B T hM hTl hTb hG n
    induction n using Nat.strongRecOn with
    | _ n ih =>
      intro B2 i iv h1 hB1 hB2 hT e3
      subst e3
      intro v7 v9 v11 v13 v14
      refine EvP.s (fun _ _ K => Ev.go 2 rfl K) ?_
      refine EvP.ige rfl rfl rfl (by omega) (by omega) (fun c164 => ?_) (fun c164 => ?_)
      · refine EvP.s (fun _ _ K => Ev.go 1 rfl K) ?_
        refine ⟨_, _, Ev.reti rfl rfl, ?_⟩
        rw [← hPe]
        refine ⟨_, B2, rfl, by rw [hG]; rfl, ?_⟩
        rw [hG]
        have e : i = T.length := by omega
        subst e
        exact hM.rows hb hk hTl hTb hB1 hB2
      refine EvP.s (fun _ _ K => Ev.go 1 rfl K) ?_
      refine EvP.s (fun _ _ K => Ev.gf rfl lf_1_34_1 hp_5 rfl K) ?_
      refine EvP.s (fun _ _ K => Ev.go 6 rfl K) ?_
      refine EvP.s (fun _ _ K => Ev.gf rfl lf_1_47_1 hp_5 rfl K) ?_
      refine EvP.s (fun _ _ K => Ev.go 1 rfl K) ?_
      refine EvP.s (fun _ _ K => Ev.lln rfl hp_18 rfl (by omega) (by omega) K) ?_
      rw [hT i (by omega)]
      refine EvP.s (fun _ _ K => Ev.lsn rfl hp_14 (by rw [pk_mul, nI_add]) (by omega) (by omega) K) ?_
      rw [hps_14]
      refine EvP.s (fun _ _ K => Ev.go 2 rfl K) ?_
      exact ih (n - 1) (by omega) (uB B2 14 (vp_updL (B2 14) (6 * k + i) (lN (T.getD i 0)))) (i + 1) _ (by omega) (fun j hj => by
        show vp_updL (B2 14) (6 * k + i) (lN (T.getD i 0)) j = _
        rw [pk_uLn (by omega)]; exact hB1 j hj) (fun j hj => by
        show vp_updL (B2 14) (6 * k + i) (lN (T.getD i 0)) (6 * k + j) = _
        by_cases e : j = i
        · subst e; exact pk_uLs
        · rw [pk_uLn (by omega)]; exact hB2 j (by omega)) hT (by rw [nI_add]) _ _ _ _ _
  have L1 : ∀ (n : Nat) (B : sn_B2) (c1 : Nat) (c2 : Nat) (T : List Nat) (rv : Int32) (v7 : Int64) (v9 : Int64) (v12 : Value) (v14 : Value), (T.length + n = 6) → (T.length ≤ 6) → (c1 < 2 ^ 32) → (c2 < 2 ^ 32) → (MS A B μ) → (∀ j, j < T.length → B 18 j = lN (T.getD j 0)) → (∀ i, T.getD i 0 < 2 ^ 32) → ((lay w b (6 - T.length) T.length (if T.length % 2 = 0 then c1 else c2) (if T.length % 2 = 0 then c2 else c1)).map (fun U => T ++ U) = lay w b 6 0 s0 o0_) → (rv = nI T.length) → (v7 = lN c1) → (v9 = lN c2) → ∀ v13 : Value, EvP o0 (d + 3) me_M_layer 13 [.ref 5, .int (nI k), .long (lN s0), .retAddr 0, .long (lN o0_), .retAddr 0, .int rv, .long v7, .retAddr 0, .long v9, .retAddr 0, .int (nI 1), v12, v13, v14] [] (hp x A B t) P := by
    intro n
    induction n using Nat.strongRecOn with
    | _ n ih =>
      intro B c1 c2 T rv v7 v9 v12 v14 h1 hTl hc1 hc2 hM hT hTb hG e1 e2 e3
      subst e1
      subst e2
      subst e3
      intro v13
      have J : ∀ s o, s < 2 ^ 32 → ((T.length % 2 = 0 ∧ s = c1 ∧ o = c2) ∨ (T.length % 2 = 1 ∧ s = c2 ∧ o = c1)) → (lay w b (6 - T.length) T.length s o).map (fun U => T ++ U) = lay w b 6 0 s0 o0_ → ∀ v13 : Value, EvP o0 (d + 3) me_M_layer 32 [.ref 5, .int (nI k), .long (lN s0), .retAddr 0, .long (lN o0_), .retAddr 0, .int (nI T.length), .long (lN c1), .retAddr 0, .long (lN c2), .retAddr 0, .int (nI 1), v12, v13, v14] [.long (lN s)] (hp x A B t) P := by
        intro s o hs hso hG v13
        refine EvP.s (fun _ _ K => Ev.go 3 rfl K) ?_
        refine EvP.leq rfl rfl rfl rfl (by omega) (by omega) (fun c37 => ?_) (fun c37 => ?_)
        · refine EvP.s (fun _ _ K => Ev.go 3 rfl K) ?_
          refine EvP.s (fun _ _ K => Ev.bt rfl rfl rfl K) ?_
          refine EvP.s (fun _ _ K => Ev.go 1 rfl K) ?_
          refine EvP.s (fun _ _ K => Ev.go 1 rfl K) ?_
          refine EvP.s (fun _ _ K => Ev.bt rfl rfl rfl K) ?_
          have hG2 : lay w b 6 0 s0 o0_ = some T := by
            rw [← hG, c37]
            cases 6 - T.length <;> simp [lay]
          refine EvP.s (fun _ _ K => Ev.go 1 rfl K) ?_
          refine EvP.s (fun _ _ K => Ev.gf rfl lf_1_31_1 hp_5 rfl K) ?_
          refine EvP.s (fun _ _ K => Ev.go 2 rfl K) ?_
          refine EvP.s (fun _ _ K => Ev.isn rfl hp_13 rfl (by omega) (by omega) K) ?_
          rw [hps_13]
          refine EvP.s (fun _ _ K => Ev.go 2 rfl K) ?_
          exact L4 B T hM hTl hTb hG2 T.length B 0 _ (by omega) (fun j _ => rfl) (fun j hj => absurd hj (by omega)) hT rfl _ _ _ _ _
        refine EvP.s (fun _ _ K => Ev.go 2 rfl K) ?_
        refine EvP.s (fun _ _ K => Ev.go 2 rfl K) ?_
        refine EvP.s (fun _ _ K => Ev.bf rfl rfl (by decide) K) ?_
        refine EvP.s (fun _ _ K => Ev.go 2 rfl K) ?_
        refine EvP.ine rfl rfl rfl (by omega) (by omega) (fun c57 => ?_) (fun c57 => ?_)
        · refine EvP.s (fun _ _ K => Ev.go 1 rfl K) ?_
          refine EvP.s (fun _ _ K => Ev.gf rfl lf_1_47_1 hp_5 rfl K) ?_
          refine EvP.s (fun _ _ K => Ev.go 2 rfl K) ?_
          refine EvP.s (fun _ _ K => Ev.lsn rfl hp_18 rfl (by omega) (by omega) K) ?_
          rw [hps_18]
          refine EvP.s (fun _ _ K => Ev.go 2 rfl K) ?_
          have L2 : ∀ (n2 : Nat) (B2 : sn_B2) (y : Nat) (yv : Int32), (y + n2 = 32) → (MS A B2 μ) → (∀ j, j < T.length → B2 18 j = lN (T.getD j 0)) → (B2 18 T.length = lN (orf (fun x => if s.testBit x then 2 ^ lpl w b T.length x else 0) y)) → (yv = nI y) → EvP o0 (d + 3) me_M_layer 73 [.ref 5, .int (nI k), .long (lN s0), .retAddr 0, .long (lN o0_), .retAddr 0, .int (nI T.length), .long (lN c1), .retAddr 0, .long (lN c2), .retAddr 0, .int (nI 1), .long (lN s), .retAddr 0, .int yv] [] (hp x A B2 t) P := by
            intro n2
            induction n2 using Nat.strongRecOn with
            | _ n2 ih2 =>
              intro B2 y yv g1 hM2 hT2 g2 g3
              subst g3
              refine EvP.s (fun _ _ K => Ev.go 2 rfl K) ?_
              refine EvP.ige rfl rfl rfl (by omega) (by omega) (fun c77 => ?_) (fun c77 => ?_)
              · have e32 : y = 32 := by omega
                subst e32
                have hrow : B2 18 T.length = lN (prow w b T.length s) := g2
                refine EvP.s (fun _ _ K => Ev.go 4 rfl K) ?_
                refine EvP.s (fun _ _ K => Ev.cv (E' := me_M_thoseIn) rfl mk_M_thoseIn lv_1_195_1 rfl hp_5 rfl (e_M_thoseIn d x t (MKof hM2) rfl rfl rfl (by omega) hc1 hrow (prow_lt hwb _ _)) K) ?_
                refine EvP.s (fun _ _ K => Ev.go 5 rfl K) ?_
                refine EvP.s (fun _ _ K => Ev.cv (E' := me_M_thoseIn) rfl mk_M_thoseIn lv_1_195_1 rfl hp_5 rfl (e_M_thoseIn d x t (MKof hM2) rfl rfl rfl (by omega) hc2 hrow (prow_lt hwb _ _)) K) ?_
                refine EvP.s (fun _ _ K => Ev.go 3 rfl K) ?_
                have hpr := prow_lt (w := w) hwb T.length s
                have hT3 : ∀ j, j < (T ++ [prow w b T.length s]).length → B2 18 j = lN ((T ++ [prow w b T.length s]).getD j 0) := by
                  intro j hj
                  rw [List.length_append, List.length_singleton] at hj
                  by_cases e : j = T.length
                  · subst e; rw [hrow]; simp
                  · rw [hT2 j (by omega), List.getD_eq_getElem?_getD, List.getD_eq_getElem?_getD, List.getElem?_append_left (by omega)]
                have hTb3 : ∀ i, (T ++ [prow w b T.length s]).getD i 0 < 2 ^ 32 := by
                  intro i
                  rw [List.getD_eq_getElem?_getD]
                  by_cases e : i < T.length
                  · rw [List.getElem?_append_left e]; have := hTb i; rw [List.getD_eq_getElem?_getD] at this; exact this
                  · rw [List.getElem?_append_right (by omega)]
                    by_cases e2 : i - T.length = 0
                    · rw [e2]; exact hpr
                    · rw [List.getElem?_eq_none (by simp; omega)]; show 0 < 2 ^ 32; omega
                have hl1 : (T ++ [prow w b T.length s]).length = T.length + 1 := by simp
                refine ih (n - 1) (by omega) B2 _ _ (T ++ [prow w b T.length s]) _ _ _ _ _ (by rw [hl1]; omega) (by rw [hl1]; omega) (tin_lt w b _ _ _) (tin_lt w b _ _ _) hM2 hT3 hTb3 ?_ (by rw [hl1, nI_add]) rfl rfl _
                rw [← hG, hl1]
                obtain ⟨z, hz⟩ : ∃ z, 6 - T.length = z + 1 := ⟨5 - T.length, by omega⟩
                rw [hz, show 6 - (T.length + 1) = z by omega]
                simp only [lay]
                rw [if_neg c37]
                have hfin : (if (T.length + 1) % 2 = 0 then tin w b T.length (prow w b T.length s) c1 else tin w b T.length (prow w b T.length s) c2) = tin w b T.length (prow w b T.length s) o ∧ (if (T.length + 1) % 2 = 0 then tin w b T.length (prow w b T.length s) c2 else tin w b T.length (prow w b T.length s) c1) = s := by
                  rcases hso with ⟨e1, e2, e3⟩ | ⟨e1, e2, e3⟩
                  · rw [if_neg (by omega), if_neg (by omega), ← e2, ← e3]; exact ⟨rfl, tin_own _ hs⟩
                  · rw [if_pos (by omega), if_pos (by omega), ← e2, ← e3]; exact ⟨rfl, tin_own _ hs⟩
                rw [hfin.1, hfin.2]
                simp only [Option.map_map]
                congr 1
                funext z
                simp
              refine EvP.s (fun _ _ K => Ev.go 1 rfl K) ?_
              refine EvP.s (fun _ _ K => Ev.gf rfl lf_1_47_1 hp_5 rfl K) ?_
              refine EvP.s (fun _ _ K => Ev.go 2 rfl K) ?_
              refine EvP.s (fun _ _ K => Ev.lln rfl hp_18 rfl (by omega) (by omega) K) ?_
              rw [g2]
              refine EvP.s (fun _ _ K => Ev.go 2 rfl K) ?_
              refine EvP.s (fun _ _ K => Ev.cs (E' := me_M_has) rfl mk_M_has ls_1_100 rfl rfl (e_M_has (d + 2) _ rfl rfl (by omega) (by omega)) K) ?_
              refine EvP.zb rfl rfl (fun c95 => ?_) (fun c95 => ?_)
              · refine EvP.s (fun _ _ K => Ev.go 2 rfl K) ?_
                refine EvP.s (fun _ _ K => Ev.lsn rfl hp_18 rfl (by omega) (by omega) K) ?_
                rw [hps_18]
                refine EvP.s (fun _ _ K => Ev.go 2 rfl K) ?_
                exact ih2 (n2 - 1) (by omega) _ (y + 1) _ (by omega) (hM2.scrB _ rfl) (fun j hj => by
                  show vp_updL (B2 18) T.length _ j = _
                  rw [pk_uLn (by omega)]; exact hT2 j hj) (by
                  show vp_updL (B2 18) T.length _ T.length = _
                  rw [pk_uLs]
                  exact or_step (by simp [c95])) (by rw [nI_add])
              refine EvP.s (fun _ _ K => Ev.go 5 rfl K) ?_
              refine EvP.s (fun _ _ K => Ev.cv (E' := me_M_layerPlace) rfl mk_M_layerPlace lv_1_173_1 rfl hp_5 rfl (e_M_layerPlace (d + 1) x t (MKof hM2) rfl rfl rfl (by omega) (by omega)) K) ?_
              refine EvP.s (fun _ _ K => Ev.go 2 rfl K) ?_
              refine EvP.s (fun _ _ K => Ev.go 1 rfl K) ?_
              refine EvP.s (fun _ _ K => Ev.lsn rfl hp_18 rfl (by omega) (by omega) K) ?_
              rw [hps_18]
              refine EvP.s (fun _ _ K => Ev.go 2 rfl K) ?_
              exact ih2 (n2 - 1) (by omega) _ (y + 1) _ (by omega) (hM2.scrB _ rfl) (fun j hj => by
                show vp_updL (B2 18) T.length _ j = _
                rw [pk_uLn (by omega)]; exact hT2 j hj) (by
                show vp_updL (B2 18) T.length _ T.length = _
                rw [pk_uLs]
                rw [sh1 (by have := lpl_lt (w := w) hwb T.length y; omega)]
                exact or_step (by simp [c95])) (by rw [nI_add])
          exact L2 32 _ 0 _ (by omega) (hM.scrB _ rfl) (fun j hj => by
            show vp_updL (B 18) T.length _ j = _
            rw [pk_uLn (by omega)]; exact hT j hj) (by
            show vp_updL (B 18) T.length _ T.length = _
            rw [pk_uLs]; rfl) rfl
        refine EvP.s (fun _ _ K => Ev.go 1 rfl K) ?_
        refine ⟨_, _, Ev.reti rfl rfl, ?_⟩
        have hN : lay w b 6 0 s0 o0_ = none := by
          rw [← hG, show 6 - T.length = 0 by omega]
          simp only [lay]
          rw [if_neg c37]
          rfl
        rw [← hPe]
        refine ⟨A, B, rfl, by rw [hN]; rfl, ?_⟩
        rw [hN]
        show MS A B (setB μ k b)
        rw [hb]
        exact hM.self k
      refine EvP.s (fun _ _ K => Ev.go 1 rfl K) ?_
      refine EvP.s (fun _ _ K => Ev.bf rfl rfl (by decide) K) ?_
      refine EvP.s (fun _ _ K => Ev.go 2 rfl K) ?_
      refine EvP.s (fun _ _ K => Ev.rm rfl rfl rfl (by omega) (by omega) (by omega) K) ?_
      refine EvP.zne rfl rfl (by omega) (fun c22 => ?_) (fun c22 => ?_)
      · refine EvP.s (fun _ _ K => Ev.go 1 rfl K) ?_
        exact J c2 c1 (by omega) (by omega) (by rw [if_neg (by omega), if_neg (by omega)] at hG; exact hG) _
      refine EvP.s (fun _ _ K => Ev.go 2 rfl K) ?_
      exact J c1 c2 (by omega) (by omega) (by rw [if_pos c22, if_pos c22] at hG; exact hG) _
  refine EvP.s (fun _ _ K => Ev.go 8 rfl K) ?_
  exact L1 6 B s0 o0_ [] _ _ _ _ _ rfl (by simp) hs0 ho0 q (fun j hj => absurd hj (by simp)) (fun i => by simp) (by simp) rfl rfl rfl _
