/-! THE REFERENCE: most -/
theorem e_M_head (d : Nat) (x : sn_X5) {A : sn_A2} (B : sn_B2) (t : sn_H) {hd rt : Nat → Nat} (hA : ∀ i, i < 32 → A 26 i = nI (hd i)) (hH : sHd hd rt) {p0 : Nat} {pv0 : Int32} (e1 : pv0 = nI p0) (hp0 : p0 < 32) : Sp d me_M_head [.ref 5, .int pv0] (hp x A B t) (some (.int (nI (rt p0)))) (hp x A B t) := by
  subst e1
  obtain ⟨rk, hH⟩ := hH
  refine Sp.of ok_M_head trivial rfl ?_
  have L : ∀ (n : Nat) (p : Nat) (pv : Int32), (p < 32) → (rk p = n) → (rt p = rt p0) → (pv = nI p) → Ev o0 d me_M_head 2 [.ref 5, .int (nI p0), .int pv] [] (hp x A B t) (some (.int (nI (rt p0)))) (hp x A B t) := by
    intro n
    induction n using Nat.strongRecOn with
    | _ n ih =>
      intro p pv hp32 hrk hrt e3
      subst e3
      have hq := hH p hp32
      refine Ev.go 1 rfl ?_
      refine Ev.gf rfl lf_1_72_1 hp_5 rfl ?_
      refine Ev.go 1 rfl ?_
      refine Ev.iln rfl hp_26 rfl (by omega) (by omega) ?_
      rw [hA p hp32]
      refine Ev.go 1 rfl ?_
      refine Ev.ieq rfl rfl rfl (by omega) (by omega) (fun c9 => ?_) (fun c9 => ?_)
      · refine Ev.go 1 rfl ?_
        exact Ev.reti rfl (by rw [← hrt, hq.2.2.2.2.1 c9])
      refine Ev.go 1 rfl ?_
      refine Ev.gf rfl lf_1_72_1 hp_5 rfl ?_
      refine Ev.go 1 rfl ?_
      refine Ev.iln rfl hp_26 rfl (by omega) (by omega) ?_
      rw [hA p hp32]
      refine Ev.go 2 rfl ?_
      exact ih (rk (hd p)) (by have := hq.2.2.2.2.2 c9; omega) (hd p) _ hq.1 rfl (by rw [hq.2.2.2.1]; exact hrt) rfl
  refine Ev.go 2 rfl ?_
  exact L (rk p0) p0 _ hp0 rfl rfl rfl
set_option maxHeartbeats 4000000 in
theorem p_M_most (d : Nat) (x : sn_X5) {A : sn_A2} {B : sn_B2} (t : sn_H) {μ : sn_S} (q : MS A B μ) (kv : Int32) (sv : Int64) : SpP (d + 3) me_M_most [.ref 5, .int kv, .long sv] (hp x A B t) (PMi x t (an_most μ kv sv, μ)) := by
  refine SpP.of ok_M_most (fun r h' z => z.rc) rfl ?_
  have J : ∀ (k s : Nat) (b : sn_Bk), k < snb μ → s < 2 ^ 32 → b = sbk μ k → bk b = 3 → EvP o0 (d + 3) me_M_most 34 [.ref 5, .int (nI k), .long (lN s), .retAddr 0, .retAddr 0, .retAddr 0, .retAddr 0, .retAddr 0, .retAddr 0] [] (hp x A B t) (PMi x t (nI (smF (fun l => min (ctf (fun i => decide ((rtp (frs (sw μ) b) (otk (sw μ) b) s 32) i = l)) (bm b)) (ctf (fun x => s.testBit x && decide ((rtp (frs (sw μ) b) (otk (sw μ) b) s 32) (frs (sw μ) b x) = l)) 32)) (bm b)), μ)) := by
    intro k s b hk1 hs hbe h3
    have hwb : WB (sw μ).1 b := by rw [hbe]; exact q.1.2.2 k hk1
    have hm := hwb.2.1
    have hk8 := (q.mk hk1).2.2.2.2
    have L3 : ∀ (A : sn_A2) (hd : Nat → Nat), MS A B μ → (∀ i, i < 32 → A 26 i = nI (hd i)) → sHd hd (rtp (frs (sw μ) b) (otk (sw μ) b) s 32) → ∀ (n : Nat) (l : Nat) (sv : Int32) (lv : Int32) (v6 : Value) (v7 : Value) (v8 : Value), (l + n = bm b) → (sv = nI (smF (fun l => min (ctf (fun i => decide ((rtp (frs (sw μ) b) (otk (sw μ) b) s 32) i = l)) (bm b)) (ctf (fun x => s.testBit x && decide ((rtp (frs (sw μ) b) (otk (sw μ) b) s 32) (frs (sw μ) b x) = l)) 32)) l)) → (lv = nI l) → EvP o0 (d + 3) me_M_most 128 [.ref 5, .int (nI k), .long (lN s), .retAddr 0, .int sv, .int lv, v6, v7, v8] [] (hp x A B t) (PMi x t (nI (smF (fun l => min (ctf (fun i => decide ((rtp (frs (sw μ) b) (otk (sw μ) b) s 32) i = l)) (bm b)) (ctf (fun x => s.testBit x && decide ((rtp (frs (sw μ) b) (otk (sw μ) b) s 32) (frs (sw μ) b x) = l)) 32)) (bm b)), μ)) := by
      intro A hd hM hA hH n
      have m := hM.mk hk1
      rw [← hbe] at m
      induction n using Nat.strongRecOn with
      | _ n ih =>
        intro l sv lv v6 v7 v8 k1 k2 e3
        subst k2
        subst e3
        refine EvP.s (fun _ _ K => Ev.go 2 rfl K) ?_
        refine EvP.s (fun _ _ K => Ev.gf rfl lf_1_19_1 hp_5 rfl K) ?_
        refine EvP.s (fun _ _ K => Ev.go 1 rfl K) ?_
        refine EvP.s (fun _ _ K => Ev.iln rfl hp_9 rfl (by omega) (by omega) K) ?_
        rw [m.2.2.2.1.2.1]
        refine EvP.ige rfl rfl rfl (by omega) (by omega) (fun c136 => ?_) (fun c136 => ?_)
        · refine EvP.s (fun _ _ K => Ev.go 1 rfl K) ?_
          refine ⟨_, _, Ev.reti rfl rfl, ?_⟩
          rw [show l = bm b by omega]
          exact PMi.mk hM rfl
        refine EvP.s (fun _ _ K => Ev.go 6 rfl K) ?_
        have L4 : ∀ (n2 : Nat) (y : Nat) (cv : Int32) (yv : Int32), (y + n2 = bm b) → (cv = nI (ctf (fun i => decide ((rtp (frs (sw μ) b) (otk (sw μ) b) s 32) i = l)) y)) → (yv = nI y) → EvP o0 (d + 3) me_M_most 148 [.ref 5, .int (nI k), .long (lN s), .retAddr 0, .int (nI (smF (fun l => min (ctf (fun i => decide ((rtp (frs (sw μ) b) (otk (sw μ) b) s 32) i = l)) (bm b)) (ctf (fun x => s.testBit x && decide ((rtp (frs (sw μ) b) (otk (sw μ) b) s 32) (frs (sw μ) b x) = l)) 32)) l)), .int (nI l), .int cv, .int (nI 0), .int yv] [] (hp x A B t) (PMi x t (nI (smF (fun l => min (ctf (fun i => decide ((rtp (frs (sw μ) b) (otk (sw μ) b) s 32) i = l)) (bm b)) (ctf (fun x => s.testBit x && decide ((rtp (frs (sw μ) b) (otk (sw μ) b) s 32) (frs (sw μ) b x) = l)) 32)) (bm b)), μ)) := by
          intro n2
          induction n2 using Nat.strongRecOn with
          | _ n2 ih2 =>
            intro y cv yv g1 g2 g3
            subst g2
            subst g3
            have hct := ctf_le (fun i => decide ((rtp (frs (sw μ) b) (otk (sw μ) b) s 32) i = l)) y
            refine EvP.s (fun _ _ K => Ev.go 2 rfl K) ?_
            refine EvP.s (fun _ _ K => Ev.gf rfl lf_1_19_1 hp_5 rfl K) ?_
            refine EvP.s (fun _ _ K => Ev.go 1 rfl K) ?_
            refine EvP.s (fun _ _ K => Ev.iln rfl hp_9 rfl (by omega) (by omega) K) ?_
            rw [m.2.2.2.1.2.1]
            refine EvP.ige rfl rfl rfl (by omega) (by omega) (fun c156 => ?_) (fun c156 => ?_)
            · refine EvP.s (fun _ _ K => Ev.go 2 rfl K) ?_
              have ey : y = bm b := by omega
              subst ey
              have L5 : ∀ (n2 : Nat) (y : Nat) (cv : Int32) (yv : Int32), (y + n2 = 32) → (cv = nI (ctf (fun x => s.testBit x && decide ((rtp (frs (sw μ) b) (otk (sw μ) b) s 32) (frs (sw μ) b x) = l)) y)) → (yv = nI y) → EvP o0 (d + 3) me_M_most 201 [.ref 5, .int (nI k), .long (lN s), .retAddr 0, .int (nI (smF (fun l => min (ctf (fun i => decide ((rtp (frs (sw μ) b) (otk (sw μ) b) s 32) i = l)) (bm b)) (ctf (fun x => s.testBit x && decide ((rtp (frs (sw μ) b) (otk (sw μ) b) s 32) (frs (sw μ) b x) = l)) 32)) l)), .int (nI l), .int (nI (ctf (fun i => decide ((rtp (frs (sw μ) b) (otk (sw μ) b) s 32) i = l)) (bm b))), .int cv, .int yv] [] (hp x A B t) (PMi x t (nI (smF (fun l => min (ctf (fun i => decide ((rtp (frs (sw μ) b) (otk (sw μ) b) s 32) i = l)) (bm b)) (ctf (fun x => s.testBit x && decide ((rtp (frs (sw μ) b) (otk (sw μ) b) s 32) (frs (sw μ) b x) = l)) 32)) (bm b)), μ)) := by
                intro n2
                induction n2 using Nat.strongRecOn with
                | _ n2 ih2 =>
                  intro y cv yv g1 g2 g3
                  subst g2
                  subst g3
                  have hct := ctf_le (fun x => s.testBit x && decide ((rtp (frs (sw μ) b) (otk (sw μ) b) s 32) (frs (sw μ) b x) = l)) y
                  have hct2 := ctf_le (fun i => decide ((rtp (frs (sw μ) b) (otk (sw μ) b) s 32) i = l)) (bm b)
                  refine EvP.s (fun _ _ K => Ev.go 2 rfl K) ?_
                  refine EvP.ige rfl rfl rfl (by omega) (by omega) (fun c205 => ?_) (fun c205 => ?_)
                  · refine EvP.s (fun _ _ K => Ev.go 3 rfl K) ?_
                    refine EvP.ige rfl rfl rfl (by omega) (by omega) (fun c255 => ?_) (fun c255 => ?_)
                    · refine EvP.s (fun _ _ K => Ev.go 5 rfl K) ?_
                      have ey : y = 32 := by omega
                      subst ey
                      exact ih (n - 1) (by omega) (l + 1) _ _ _ _ _ (by omega) (by rw [nI_add]; congr 1; show _ = smF _ l + min _ _; congr 1; omega) (by rw [nI_add])
                    refine EvP.s (fun _ _ K => Ev.go 2 rfl K) ?_
                    refine EvP.s (fun _ _ K => Ev.go 4 rfl K) ?_
                    have ey : y = 32 := by omega
                    subst ey
                    exact ih (n - 1) (by omega) (l + 1) _ _ _ _ _ (by omega) (by rw [nI_add]; congr 1; show _ = smF _ l + min _ _; congr 1; omega) (by rw [nI_add])
                  refine EvP.s (fun _ _ K => Ev.go 3 rfl K) ?_
                  refine EvP.s (fun _ _ K => Ev.cs (E' := me_M_has) rfl mk_M_has ls_1_100 rfl rfl (e_M_has (d + 2) _ rfl rfl (by omega) (by omega)) K) ?_
                  refine EvP.zb rfl rfl (fun c216 => ?_) (fun c216 => ?_)
                  · refine EvP.s (fun _ _ K => Ev.go 5 rfl K) ?_
                    exact ih2 (n2 - 1) (by omega) (y + 1) _ _ (by omega) (ct_step (by simp [c216])) (by rw [nI_add])
                  refine EvP.s (fun _ _ K => Ev.go 4 rfl K) ?_
                  refine EvP.s (fun _ _ K => Ev.cv (E' := me_M_firstPlace) rfl mk_M_firstPlace lv_1_153_1 rfl hp_5 rfl (e_M_firstPlace (d + 1) x t m rfl rfl (by omega)) K) ?_
                  refine EvP.s (fun _ _ K => Ev.cv (E' := me_M_head) rfl mk_M_head lv_1_250_1 rfl hp_5 rfl (e_M_head (d + 2) x B t hA hH rfl (by have := frs_lt (w := sw μ) hwb y; omega)) K) ?_
                  have hr32 : (rtp (frs (sw μ) b) (otk (sw μ) b) s 32) (frs (sw μ) b y) < 32 := (hH.choose_spec (frs (sw μ) b y) (by have := frs_lt (w := sw μ) hwb y; omega)).2.1
                  refine EvP.s (fun _ _ K => Ev.go 1 rfl K) ?_
                  refine EvP.ine rfl rfl rfl (by omega) (by omega) (fun c232 => ?_) (fun c232 => ?_)
                  · refine EvP.s (fun _ _ K => Ev.go 5 rfl K) ?_
                    exact ih2 (n2 - 1) (by omega) (y + 1) _ _ (by omega) (ct_step (by simp [c216, c232])) (by rw [nI_add])
                  refine EvP.s (fun _ _ K => Ev.go 2 rfl K) ?_
                  refine EvP.s (fun _ _ K => Ev.go 4 rfl K) ?_
                  exact ih2 (n2 - 1) (by omega) (y + 1) _ _ (by omega) (ct_step (by simp [c216, c232])) (by rw [nI_add])
              exact L5 32 0 _ _ (by omega) rfl rfl
            have hhd := (hH.choose_spec l (by omega)).1
            have hr32 : (rtp (frs (sw μ) b) (otk (sw μ) b) s 32) y < 32 := (hH.choose_spec y (by omega)).2.1
            have hroot : (rtp (frs (sw μ) b) (otk (sw μ) b) s 32) y = l → hd l = l := fun q => by have := (hH.choose_spec y (by omega)).2.2.1; rw [q] at this; exact this
            refine EvP.s (fun _ _ K => Ev.go 2 rfl K) ?_
            refine EvP.s (fun _ _ K => Ev.gf rfl lf_1_72_1 hp_5 rfl K) ?_
            refine EvP.s (fun _ _ K => Ev.go 1 rfl K) ?_
            refine EvP.s (fun _ _ K => Ev.iln rfl hp_26 rfl (by omega) (by omega) K) ?_
            rw [hA l (by omega)]
            refine EvP.s (fun _ _ K => Ev.go 1 rfl K) ?_
            refine EvP.ine rfl rfl rfl (by omega) (by omega) (fun c170 => ?_) (fun c170 => ?_)
            · refine EvP.s (fun _ _ K => Ev.go 5 rfl K) ?_
              exact ih2 (n2 - 1) (by omega) (y + 1) _ _ (by omega) (ct_step (by rw [if_neg]; intro z; exact c170 (hroot (of_decide_eq_true z)))) (by rw [nI_add])
            refine EvP.s (fun _ _ K => Ev.go 2 rfl K) ?_
            refine EvP.s (fun _ _ K => Ev.cv (E' := me_M_head) rfl mk_M_head lv_1_250_1 rfl hp_5 rfl (e_M_head (d + 2) x B t hA hH rfl (by omega)) K) ?_
            refine EvP.s (fun _ _ K => Ev.go 1 rfl K) ?_
            refine EvP.ine rfl rfl rfl (by omega) (by omega) (fun c181 => ?_) (fun c181 => ?_)
            · refine EvP.s (fun _ _ K => Ev.go 5 rfl K) ?_
              exact ih2 (n2 - 1) (by omega) (y + 1) _ _ (by omega) (ct_step (by simp [c181])) (by rw [nI_add])
            refine EvP.s (fun _ _ K => Ev.go 2 rfl K) ?_
            refine EvP.s (fun _ _ K => Ev.go 4 rfl K) ?_
            exact ih2 (n2 - 1) (by omega) (y + 1) _ _ (by omega) (ct_step (by simp [c181])) (by rw [nI_add])
        exact L4 (bm b) 0 _ _ (by omega) rfl rfl
    have L2 : ∀ (n : Nat) (A : sn_A2) (hd : Nat → Nat) (y : Nat) (yv : Int32) (v5 : Value) (v6 : Value) (v7 : Value) (v8 : Value), (y + n = 32) → (MS A B μ) → (∀ i, i < 32 → A 26 i = nI (hd i)) → (sHd hd (rtp (frs (sw μ) b) (otk (sw μ) b) s y)) → (yv = nI y) → EvP o0 (d + 3) me_M_most 62 [.ref 5, .int (nI k), .long (lN s), .retAddr 0, .int yv, v5, v6, v7, v8] [] (hp x A B t) (PMi x t (nI (smF (fun l => min (ctf (fun i => decide ((rtp (frs (sw μ) b) (otk (sw μ) b) s 32) i = l)) (bm b)) (ctf (fun x => s.testBit x && decide ((rtp (frs (sw μ) b) (otk (sw μ) b) s 32) (frs (sw μ) b x) = l)) 32)) (bm b)), μ)) := by
      intro n
      induction n using Nat.strongRecOn with
      | _ n ih =>
        intro A hd y yv v5 v6 v7 v8 k1 hM hA hH e3
        subst e3
        have m := hM.mk hk1
        rw [← hbe] at m
        have hfl := frs_lt (w := sw μ) hwb y
        have hmk := mrk_le (w := sw μ) (b := b) 1 y
        have ho := oth_lt (frs (sw μ) b y) (mrk (sw μ) b 1 y) (show 0 < bm b by omega)
        have hr1 := (hH.choose_spec (frs (sw μ) b y) (by omega)).2.1
        refine EvP.s (fun _ _ K => Ev.go 2 rfl K) ?_
        refine EvP.ige rfl rfl rfl (by omega) (by omega) (fun c66 => ?_) (fun c66 => ?_)
        · refine EvP.s (fun _ _ K => Ev.go 4 rfl K) ?_
          have ey : y = 32 := by omega
          subst ey
          exact L3 A hd hM hA hH (bm b) 0 _ _ _ _ _ (by omega) rfl rfl
        refine EvP.s (fun _ _ K => Ev.go 2 rfl K) ?_
        refine EvP.s (fun _ _ K => Ev.cs (E' := me_M_has) rfl mk_M_has ls_1_100 rfl rfl (e_M_has (d + 2) _ rfl rfl (by omega) (by omega)) K) ?_
        refine EvP.zb rfl rfl (fun c75 => ?_) (fun c75 => ?_)
        · refine EvP.s (fun _ _ K => Ev.go 2 rfl K) ?_
          have er : rtp (frs (sw μ) b) (otk (sw μ) b) s (y + 1) = rtp (frs (sw μ) b) (otk (sw μ) b) s y := by
            funext i
            exact if_neg (fun z => by rw [c75] at z; cases z.1)
          exact ih (n - 1) (by omega) A hd (y + 1) _ _ _ _ _ (by omega) hM hA (by rw [er]; exact hH) (by rw [nI_add])
        refine EvP.s (fun _ _ K => Ev.go 3 rfl K) ?_
        refine EvP.s (fun _ _ K => Ev.cv (E' := me_M_firstPlace) rfl mk_M_firstPlace lv_1_153_1 rfl hp_5 rfl (e_M_firstPlace (d + 1) x t m rfl rfl (by omega)) K) ?_
        refine EvP.s (fun _ _ K => Ev.go 2 rfl K) ?_
        refine EvP.s (fun _ _ K => Ev.gf rfl lf_1_72_1 hp_5 rfl K) ?_
        refine EvP.s (fun _ _ K => Ev.go 2 rfl K) ?_
        refine EvP.s (fun _ _ K => Ev.cv (E' := me_M_head) rfl mk_M_head lv_1_250_1 rfl hp_5 rfl (e_M_head (d + 2) x B t hA hH rfl (by omega)) K) ?_
        refine EvP.s (fun _ _ K => Ev.go 7 rfl K) ?_
        refine EvP.s (fun _ _ K => Ev.cv (E' := me_M_pushedMark) rfl mk_M_pushedMark lv_1_156_1 rfl hp_5 rfl (e_M_pushedMark (d + 1) x t m rfl rfl (by omega) (by have := hwb.2.2.2.2.2.1 h3; omega)) K) ?_
        refine EvP.s (fun _ _ K => Ev.cv (E' := me_M_otherPlace) rfl mk_M_otherPlace lv_1_159_1 rfl hp_5 rfl (e_M_otherPlace (d + 2) x t m rfl rfl rfl hfl (by omega)) K) ?_
        refine EvP.s (fun _ _ K => Ev.cv (E' := me_M_head) rfl mk_M_head lv_1_250_1 rfl hp_5 rfl (e_M_head (d + 2) x B t hA hH rfl (by omega)) K) ?_
        refine EvP.s (fun _ _ K => Ev.isn rfl hp_26 rfl (by omega) (by omega) K) ?_
        rw [hps_26]
        refine EvP.s (fun _ _ K => Ev.go 2 rfl K) ?_
        have er : rtp (frs (sw μ) b) (otk (sw μ) b) s (y + 1) = fun i => if rtp (frs (sw μ) b) (otk (sw μ) b) s y i = rtp (frs (sw μ) b) (otk (sw μ) b) s y (frs (sw μ) b y) then rtp (frs (sw μ) b) (otk (sw μ) b) s y (otk (sw μ) b y) else rtp (frs (sw μ) b) (otk (sw μ) b) s y i := by
          funext i
          show (if s.testBit y = true ∧ _ then _ else _) = _
          simp only [c75, true_and]
        refine ih (n - 1) (by omega) (uA A 26 (upd (A 26) (rtp (frs (sw μ) b) (otk (sw μ) b) s y (frs (sw μ) b y)) (nI (rtp (frs (sw μ) b) (otk (sw μ) b) s y (otk (sw μ) b y))))) (uN hd (rtp (frs (sw μ) b) (otk (sw μ) b) s y (frs (sw μ) b y)) (rtp (frs (sw μ) b) (otk (sw μ) b) s y (otk (sw μ) b y))) (y + 1) _ _ _ _ _ (by omega) (hM.scr _ rfl) (fun i hi => ?_) (by rw [er]; exact hH.tie (by omega) (show otk (sw μ) b y < 32 by unfold otk; omega)) (by rw [nI_add])
        exact row_upd hA _ _ i hi
    have L1 : ∀ (n : Nat) (A : sn_A2) (y : Nat) (yv : Int32), (y + n = 32) → (MS A B μ) → (∀ i, i < y → A 26 i = nI i) → (yv = nI y) → EvP o0 (d + 3) me_M_most 37 [.ref 5, .int (nI k), .long (lN s), .retAddr 0, .int yv, .retAddr 0, .retAddr 0, .retAddr 0, .retAddr 0] [] (hp x A B t) (PMi x t (nI (smF (fun l => min (ctf (fun i => decide ((rtp (frs (sw μ) b) (otk (sw μ) b) s 32) i = l)) (bm b)) (ctf (fun x => s.testBit x && decide ((rtp (frs (sw μ) b) (otk (sw μ) b) s 32) (frs (sw μ) b x) = l)) 32)) (bm b)), μ)) := by
      intro n
      induction n using Nat.strongRecOn with
      | _ n ih =>
        intro A y yv k1 hM hA e3
        subst e3
        refine EvP.s (fun _ _ K => Ev.go 2 rfl K) ?_
        refine EvP.ige rfl rfl rfl (by omega) (by omega) (fun c41 => ?_) (fun c41 => ?_)
        · refine EvP.s (fun _ _ K => Ev.go 2 rfl K) ?_
          exact L2 32 A (fun i => i) 0 _ _ _ _ _ (by omega) hM (fun i hi => hA i (by omega)) ⟨fun _ => 0, fun i hi => ⟨hi, hi, rfl, rfl, fun _ => rfl, fun z => absurd rfl z⟩⟩ rfl
        refine EvP.s (fun _ _ K => Ev.go 1 rfl K) ?_
        refine EvP.s (fun _ _ K => Ev.gf rfl lf_1_72_1 hp_5 rfl K) ?_
        refine EvP.s (fun _ _ K => Ev.go 2 rfl K) ?_
        refine EvP.s (fun _ _ K => Ev.isn rfl hp_26 rfl (by omega) (by omega) K) ?_
        rw [hps_26]
        refine EvP.s (fun _ _ K => Ev.go 2 rfl K) ?_
        refine ih (n - 1) (by omega) (uA A 26 (upd (A 26) y (nI y))) (y + 1) _ (by omega) (hM.scr _ rfl) (fun i hi => ?_) (by rw [nI_add])
        show upd (A 26) y (nI y) i = nI i
        by_cases e : i = y
        · subst e; exact pk_us
        · rw [pk_un e]; exact hA i (by omega)
    refine EvP.s (fun _ _ K => Ev.go 2 rfl K) ?_
    exact L1 32 A 0 _ (by omega) q (fun i hi => absurd hi (Nat.not_lt_zero i)) rfl
  refine EvP.s (fun _ _ K => Ev.go 2 rfl K) ?_
  refine EvP.s (fun _ _ K => Ev.cv (E' := me_M_isBook) rfl mk_M_isBook lv_1_131_1 rfl hp_5 rfl (e_M_isBook (d + 1) x t q _) K) ?_
  refine EvP.zn rfl rfl (fun c5 => ?_) (fun c5 => ?_)
  · obtain ⟨k, hk1, hk2, rfl⟩ := rg_ex (ofd c5)
    have h5 := (q.1.2.2 k hk1).1
    refine EvP.s (fun _ _ K => Ev.go 1 rfl K) ?_
    refine EvP.s (fun _ _ K => Ev.cs (E' := me_M_isSet) rfl mk_M_isSet ls_1_108 rfl rfl (e_M_isSet (d + 1) _ _) K) ?_
    refine EvP.zn rfl rfl (fun c15 => ?_) (fun c15 => ?_)
    · obtain ⟨s, hs, rfl⟩ := sg_ex (ofd c15)
      refine EvP.s (fun _ _ K => Ev.go 1 rfl K) ?_
      refine EvP.s (fun _ _ K => Ev.gf rfl lf_1_16_1 hp_5 rfl K) ?_
      refine EvP.s (fun _ _ K => Ev.go 1 rfl K) ?_
      refine EvP.s (fun _ _ K => Ev.iln rfl hp_8 rfl (by have := (q.mk hk1).2.2.2.2; omega) (by omega) K) ?_
      rw [(q.mk hk1).2.2.2.1.1]
      refine EvP.s (fun _ _ K => Ev.go 1 rfl K) ?_
      refine EvP.ieq rfl rfl rfl (by omega) (by omega) (fun c28 => ?_) (fun c28 => ?_)
      · have hu : an_most μ (nI k) (lN s) = nI (mst (sw μ) (sbk μ k) s) := by
          unfold an_most; rw [if_neg (fun z => z (ofd c5)), if_neg (fun z => z (ofd c15)), tn_nI hk2, ts_lN hs, if_pos c28]
        rw [hu, mst_r (q.1.2.2 k hk1)]
        exact J k s _ hk1 hs rfl c28
      refine EvP.s (fun _ _ K => Ev.go 1 rfl K) ?_
      refine ⟨_, _, Ev.reti rfl rfl, ?_⟩
      refine PMi.mk q ?_
      unfold an_most; rw [if_neg (fun z => z (ofd c5)), if_neg (fun z => z (ofd c15)), tn_nI hk2, if_neg c28]
    refine EvP.s (fun _ _ K => Ev.go 1 rfl K) ?_
    refine ⟨_, _, Ev.reti rfl rfl, ?_⟩
    refine PMi.mk q ?_
    unfold an_most; rw [if_neg (fun z => z (ofd c5)), if_pos (ofn c15)]
  refine EvP.s (fun _ _ K => Ev.go 1 rfl K) ?_
  refine ⟨_, _, Ev.reti rfl rfl, ?_⟩
  refine PMi.mk q ?_
  unfold an_most; rw [if_pos (ofn c5)]
