/-! THE REFERENCE: folding -/
theorem onI_none {o : Option Nat} (h : ∀ p, o = some p → p < 2 ^ 31) : onI o = - nI 1 ↔ o = none := by
  cases o with
  | none => exact ⟨fun _ => rfl, fun _ => rfl⟩
  | some p =>
    constructor
    · intro e
      have h1 : (nI p).toInt = (- nI 1).toInt := congrArg Int32.toInt e
      rw [nI_toInt (h p rfl)] at h1
      have h2 : (- nI 1).toInt = -1 := by decide +kernel
      rw [h2] at h1
      omega
    · intro e; cases e
theorem e_M_lonePlace (d : Nat) (x : sn_X5) {A : sn_A2} {B : sn_B2} (t : sn_H) {w : sn_Lw} {k : Nat} {b : sn_Bk} (q : MK A B w k b) {kv : Int32} {cv : Int64} {c : Nat} (e1 : kv = nI k) (e2 : cv = lN c) (hc : c < 2 ^ 32) : Sp (d + 3) me_M_lonePlace [.ref 5, .int kv, .long cv] (hp x A B t) (some (.int (onI (lone w b c)))) (hp x A B t) := by
  obtain ⟨hw, hL, hb, hB, hk⟩ := q
  obtain ⟨r8, r9, r10, r11, r12, r13, r14⟩ := id hB
  have hm := hb.2.1
  have hpc := hb.2.2.2.2.1
  have hbl := hb.bl256 hw.1
  subst e1; subst e2
  unfold lone
  generalize hz : onI (lnF w b c (bm b) 0) = z
  refine Sp.of ok_M_lonePlace trivial rfl ?_
  have L : ∀ (n : Nat) (i : Nat) (iv : Int32) (v5 : Value) (v6 : Value), (i + n = bm b) → (onI (lnF w b c n i) = z) → (iv = nI i) → Ev o0 (d + 3) me_M_lonePlace 3 [.ref 5, .int (nI k), .long (lN c), .retAddr 0, .int iv, v5, v6] [] (hp x A B t) (some (.int z)) (hp x A B t) := by
    intro n
    induction n using Nat.strongRecOn with
    | _ n ih =>
      intro i iv v5 v6 h1 hn e3
      subst e3
      refine Ev.go 2 rfl ?_
      refine Ev.gf rfl lf_1_19_1 hp_5 rfl ?_
      refine Ev.go 1 rfl ?_
      refine Ev.iln rfl hp_9 rfl (by omega) (by omega) ?_
      rw [r9]
      refine Ev.ige rfl rfl rfl (by omega) (by omega) (fun c11 => ?_) (fun c11 => ?_)
      · refine Ev.go 1 rfl ?_
        exact Ev.reti rfl (by rw [← hn, show n = 0 by omega]; rfl)
      refine Ev.go 4 rfl ?_
      have L2 : ∀ (n2 : Nat) (y : Nat) (cv : Int32) (yv : Int32), (y + n2 = 32) → (cv = nI (ctf (fun x => c.testBit x && (pls w b x).testBit i) y)) → (yv = nI y) → Ev o0 (d + 3) me_M_lonePlace 20 [.ref 5, .int (nI k), .long (lN c), .retAddr 0, .int (nI i), .int cv, .int yv] [] (hp x A B t) (some (.int z)) (hp x A B t) := by
        intro n2
        induction n2 using Nat.strongRecOn with
        | _ n2 ih2 =>
          intro y cv yv g1 g2 g3
          subst g2
          subst g3
          refine Ev.go 2 rfl ?_
          refine Ev.ige rfl rfl rfl (by omega) (by omega) (fun c24 => ?_) (fun c24 => ?_)
          · refine Ev.go 2 rfl ?_
            refine Ev.ine rfl rfl rfl (by have := ctf_le (fun x => c.testBit x && (pls w b x).testBit i) y; omega) (by omega) (fun c70 => ?_) (fun c70 => ?_)
            · have e32 : y = 32 := by omega
              subst e32
              refine Ev.go 2 rfl ?_
              exact ih (n - 1) (by omega) (i + 1) _ _ _ (by omega) (by rw [← hn, show n = n - 1 + 1 by omega]; simp only [lnF]; rw [if_neg c70]; rfl) (by rw [nI_add])
            refine Ev.go 1 rfl ?_
            exact Ev.reti rfl (by rw [← hn, show n = n - 1 + 1 by omega]; simp only [lnF]; rw [show y = 32 by omega] at c70; rw [if_pos c70]; rfl)
          refine Ev.go 3 rfl ?_
          refine Ev.cs (E' := me_M_has) rfl mk_M_has ls_1_100 rfl rfl (e_M_has (d + 2) _ rfl rfl (by omega) (by omega)) ?_
          refine Ev.zb rfl rfl (fun c35 => ?_) (fun c35 => ?_)
          · refine Ev.go 5 rfl ?_
            exact ih2 (n2 - 1) (by omega) (y + 1) _ _ (by omega) (ct_step (by simp [c35])) (by rw [nI_add])
          refine Ev.go 3 rfl ?_
          refine Ev.cv (E' := me_M_placesOf) rfl mk_M_placesOf lv_1_166_1 rfl hp_5 rfl (e_M_placesOf d x t ⟨hw, hL, hb, hB, hk⟩ rfl rfl (by omega)) ?_
          refine Ev.go 1 rfl ?_
          refine Ev.cs (E' := me_M_has) rfl mk_M_has ls_1_100 rfl rfl (e_M_has (d + 2) _ rfl rfl (by have := pls_lt (w := w) hb y; omega) (by omega)) ?_
          refine Ev.zb rfl rfl (fun c50 => ?_) (fun c50 => ?_)
          · refine Ev.go 5 rfl ?_
            exact ih2 (n2 - 1) (by omega) (y + 1) _ _ (by omega) (ct_step (by simp [c35, c50])) (by rw [nI_add])
          refine Ev.go 2 rfl ?_
          refine Ev.go 4 rfl ?_
          exact ih2 (n2 - 1) (by omega) (y + 1) _ _ (by omega) (ct_step (by simp [c35, c50])) (by rw [nI_add])
      exact L2 32 0 _ _ (by omega) rfl rfl
  refine Ev.go 2 rfl ?_
  exact L (bm b) 0 _ _ _ (by omega) hz rfl
/-- the keys taken away so far lie in takenKey, takenPlace -/
def TK (A : sn_A2) (T : List (Nat × Nat)) : Prop := A 0 2 = nI T.length ∧ ∀ j, j < T.length → A 16 j = nI (T.getD j (0, 0)).1 ∧ A 17 j = nI (T.getD j (0, 0)).2
theorem TK.step {A : sn_A2} {T : List (Nat × Nat)} (h : TK A T) (a b : Nat) {v : Int32} (hv : v = nI (T.length + 1)) : TK (uA (uA (uA A 16 (upd (A 16) T.length (nI a))) 17 (upd (A 17) T.length (nI b))) 0 (upd (A 0) 2 v)) (T ++ [(a, b)]) := by
  subst hv
  refine ⟨?_, fun j hj => ?_⟩
  · show upd (A 0) 2 (nI (T.length + 1)) 2 = _
    rw [pk_us]; simp
  · rw [List.length_append, List.length_singleton] at hj
    show upd (A 16) T.length (nI a) j = _ ∧ upd (A 17) T.length (nI b) j = _
    by_cases e : j = T.length
    · subst e
      rw [pk_us, pk_us]
      simp
    · rw [pk_un e, pk_un e]
      have := h.2 j (by omega)
      rw [show (T ++ [(a, b)]).getD j (0, 0) = T.getD j (0, 0) by rw [List.getD_eq_getElem?_getD, List.getD_eq_getElem?_getD, List.getElem?_append_left (by omega)]]
      exact this
theorem drop_get {T : List (Nat × Nat)} {j : Nat} (h : j < T.length) : T.drop j = T.getD j (0, 0) :: T.drop (j + 1) := by
  rw [List.drop_eq_getElem_cons h]
  congr 1
  rw [List.getD_eq_getElem?_getD, List.getElem?_eq_getElem h]; rfl
theorem getD_mem {T : List (Nat × Nat)} {j : Nat} (h : j < T.length) : T.getD j (0, 0) ∈ T := by
  rw [List.getD_eq_getElem?_getD, List.getElem?_eq_getElem h]; exact List.getElem_mem h
theorem e_M_fold (d : Nat) (x : sn_X5) {A : sn_A2} {B : sn_B2} (t : sn_H) {μ : sn_S} (q : MS A B μ) {k c0 : Nat} {kv : Int32} {cv : Int64} (e1 : kv = nI k) (e2 : cv = lN c0) (hk : k < snb μ) (hc0 : c0 < 2 ^ 32) {w : sn_Lw} {b : sn_Bk} (hw : w = sw μ) (hb : b = sbk μ k) (h4 : bk b = 4) : SpP (d + 4) me_M_fold [.ref 5, .int kv, .long cv] (hp x A B t) (fun (r : Option Value) (h' : sn_H) => ∃ A', h' = hp x A' B t ∧ r = some (.int (b2i (pel w b 32 c0).isSome)) ∧ MS A' B (setB μ k (((pel w b 32 c0).map fun T => bnu b (fnu w b T)).getD b))) := by
  subst e1; subst e2
  have hk8 : k < 8 := by have := q.1.2.1; omega
  have hwb : WB w.1 b := by rw [hw, hb]; exact q.1.2.2 k hk
  have hWL : WL w := by rw [hw]; exact q.1.1
  have hm := hwb.2.1
  generalize hPe : (fun (r : Option Value) (h' : sn_H) => ∃ A', h' = hp x A' B t ∧ r = some (.int (b2i (pel w b 32 c0).isSome)) ∧ MS A' B (setB μ k (((pel w b 32 c0).map fun T => bnu b (fnu w b T)).getD b))) = P
  refine SpP.of ok_M_fold (fun r h' z => by rw [← hPe] at z; obtain ⟨_, _, rfl, _⟩ := z; exact b2i_rc _) rfl ?_
  have L4 : ∀ T : List (Nat × Nat), (∀ e ∈ T, e.1 < 32 ∧ e.2 < bm b) → T.length ≤ 32 → pel w b 32 c0 = some T → ∀ (j : Nat) (A : sn_A2) (iv : Int32), (j ≤ T.length) → (MS A B (setB μ k (bnu b (fnu w b (T.drop j))))) → (TK A T) → (iv = nI j - nI 1) → ∀ (v4 : Int64) (v7 : Value), EvP o0 (d + 4) me_M_fold 151 [.ref 5, .int (nI k), .long (lN c0), .retAddr 0, .long v4, .retAddr 0, .int iv, v7] [] (hp x A B t) P := by
    intro T hTb hTl hG j
    induction j using Nat.strongRecOn with
    | _ j ih =>
      intro A iv hj hM hT e3
      subst e3
      intro v4 v7
      refine EvP.s (fun _ _ K => Ev.go 1 rfl K) ?_
      refine EvP.br rfl rfl (fun c153 => ?_) (fun c153 => ?_)
      · refine EvP.s (fun _ _ K => Ev.go 1 rfl K) ?_
        refine ⟨_, _, Ev.reti rfl rfl, ?_⟩
        have hj0 : j = 0 := by
          by_cases e : j = 0
          · exact e
          · exfalso
            rw [pk_sub (by omega)] at c153
            exact nI_pos (by omega) c153
        subst hj0
        rw [← hPe]
        refine ⟨A, rfl, by rw [hG]; rfl, ?_⟩
        rw [hG]
        exact hM
      have hj0 : j ≠ 0 := by
        intro e
        subst e
        exact c153 (by decide)
      obtain ⟨j, rfl⟩ : ∃ z, j = z + 1 := ⟨j - 1, by omega⟩
      have hjv : nI (j + 1) - nI 1 = nI j := by rw [pk_sub (by omega)]; rfl
      have hE := hTb _ (getD_mem (T := T) (j := j) (by omega))
      have hf := fnu_le (w := w) hwb (T.drop (j + 1)) (fun e he => (hTb e (List.mem_of_mem_drop he)).2)
      have m := hM.mkg hk
      rw [← hw] at m
      have hML := m.2.1
      refine EvP.s (fun _ _ K => Ev.go 1 rfl K) ?_
      refine EvP.s (fun _ _ K => Ev.gf rfl lf_1_41_1 hp_5 rfl K) ?_
      refine EvP.s (fun _ _ K => Ev.go 1 rfl K) ?_
      refine EvP.s (fun _ _ K => Ev.iln rfl hp_16 hjv (by omega) (by omega) K) ?_
      rw [(hT.2 j (by omega)).1]
      refine EvP.s (fun _ _ K => Ev.go 2 rfl K) ?_
      refine EvP.s (fun _ _ K => Ev.gf rfl lf_1_25_1 hp_5 rfl K) ?_
      refine EvP.s (fun _ _ K => Ev.go 4 rfl K) ?_
      refine EvP.s (fun _ _ K => Ev.gf rfl lf_1_44_1 hp_5 rfl K) ?_
      refine EvP.s (fun _ _ K => Ev.go 1 rfl K) ?_
      refine EvP.s (fun _ _ K => Ev.iln rfl hp_17 hjv (by omega) (by omega) K) ?_
      rw [(hT.2 j (by omega)).2]
      refine EvP.s (fun _ _ K => Ev.go 4 rfl K) ?_
      refine EvP.s (fun _ _ K => Ev.cv (E' := me_M_together) rfl mk_M_together lv_1_170_1 rfl hp_5 rfl (e_M_together (d + 1) x t m rfl rfl hE.1 h4) K) ?_
      refine EvP.s (fun _ _ K => Ev.go 4 rfl K) ?_
      refine EvP.s (fun _ _ K => Ev.cv (E' := me_M_lawAt) rfl mk_M_lawAt lv_1_147_1 rfl hp_5 rfl (e_M_lawAt (d + 3) x t m rfl rfl (by have := hwb.2.2.2.2.1; show 0 < pcnt (bl b); omega)) K) ?_
      refine EvP.s (fun _ _ K => Ev.go 1 rfl K) ?_
      refine EvP.s (fun _ _ K => Ev.cv (E' := me_M_valueOf) rfl mk_M_valueOf lv_1_96_1 rfl hp_5 rfl (e_M_valueOf (d + 3) x t hWL hML rfl rfl (hwb.nt hWL (by have := hwb.2.2.2.2.1; omega)).1 hE.1) K) ?_
      refine EvP.s (fun _ _ K => Ev.cs (E' := me_M_markOf) rfl mk_M_markOf ls_1_150 rfl rfl (e_M_markOf (d + 3) _ rfl (val_lt _ _ _)) K) ?_
      refine EvP.s (fun _ _ K => Ev.go 1 rfl K) ?_
      refine EvP.s (fun _ _ K => Ev.isn rfl hp_11 (by rw [pk_mul, nI_add]) (by omega) (by omega) K) ?_
      rw [hps_11]
      rw [fb_xorI]
      refine EvP.s (fun _ _ K => Ev.go 2 rfl K) ?_
      have hX := tog_lt (w := w) (hwb.bnu hf.1 hf.2) (T.getD j (0, 0)).1
      have hX2 := mrk_le (w := w) (b := b) 0 (T.getD j (0, 0)).1
      have hX3 : tog w (bnu b (fnu w b (T.drop (j + 1)))) (T.getD j (0, 0)).1 ^^^ mrk w b 0 (T.getD j (0, 0)).1 < 2 ^ 3 := Nat.xor_lt_two_pow hX (by omega)
      have hM2 := hM.numg hk (i := (T.getD j (0, 0)).2) (v := tog w (bnu b (fnu w b (T.drop (j + 1)))) (T.getD j (0, 0)).1 ^^^ mrk w b 0 (T.getD j (0, 0)).1) hE.2 hm.2 (by omega)
      refine ih j (by omega) (uA A 11 (upd (A 11) (32 * k + (T.getD j (0, 0)).2) (nI (tog w (bnu b (fnu w b (T.drop (j + 1)))) (T.getD j (0, 0)).1 ^^^ mrk w b 0 (T.getD j (0, 0)).1)))) _ (by omega) ?_ ⟨hT.1, hT.2⟩ (show nI (j + 1) - nI 1 - nI 1 = nI j - nI 1 from by rw [hjv]) _ _
      rw [drop_get (T := T) (j := j) (by omega)]
      exact hM2
  have L3 : ∀ T : List (Nat × Nat), (∀ e ∈ T, e.1 < 32 ∧ e.2 < bm b) → T.length ≤ 32 → pel w b 32 c0 = some T → ∀ (n : Nat) (A : sn_A2) (g : Nat → Nat) (i : Nat) (iv : Int32), (i + n = 32) → (MS A B (setB μ k (bnu b g))) → (TK A T) → (∀ j, j < i → g j = 0) → (iv = nI i) → ∀ (v4 : Int64) (v7 : Value), EvP o0 (d + 4) me_M_fold 117 [.ref 5, .int (nI k), .long (lN c0), .retAddr 0, .long v4, .retAddr 0, .int iv, v7] [] (hp x A B t) P := by
    intro T hTb hTl hG n
    induction n using Nat.strongRecOn with
    | _ n ih =>
      intro A g i iv h1 hM hT hg e3
      subst e3
      intro v4 v7
      refine EvP.s (fun _ _ K => Ev.go 2 rfl K) ?_
      refine EvP.ige rfl rfl rfl (by omega) (by omega) (fun c121 => ?_) (fun c121 => ?_)
      · refine EvP.s (fun _ _ K => Ev.go 1 rfl K) ?_
        refine EvP.s (fun _ _ K => Ev.gf rfl lf_1_188_1 hp_5 rfl K) ?_
        refine EvP.s (fun _ _ K => Ev.go 3 rfl K) ?_
        have hM2 := hM.congN hk hm.2 (g' := fnu w b (T.drop T.length)) (fun j hj => by rw [hg j (by omega), List.drop_length]; rfl) (fun j hj => by rw [List.drop_length]; rfl)
        exact L4 T hTb hTl hG T.length A _ (Nat.le_refl _) hM2 hT (by rw [hT.1]) _ _
      refine EvP.s (fun _ _ K => Ev.go 1 rfl K) ?_
      refine EvP.s (fun _ _ K => Ev.gf rfl lf_1_25_1 hp_5 rfl K) ?_
      refine EvP.s (fun _ _ K => Ev.go 6 rfl K) ?_
      refine EvP.s (fun _ _ K => Ev.isn rfl hp_11 (by rw [pk_mul, nI_add]) (by omega) (by omega) K) ?_
      rw [hps_11]
      refine EvP.s (fun _ _ K => Ev.go 2 rfl K) ?_
      exact ih (n - 1) (by omega) _ (uN g i 0) (i + 1) _ (by omega) (hM.numg0 hk (by omega) (by omega) (fun _ => rfl)) (show TK _ T from ⟨hT.1, hT.2⟩) (fun j hj => by
        by_cases e : j = i
        · exact if_pos e
        · exact (if_neg e).trans (hg j (by omega))) (by rw [nI_add]) _ _
  have L1 : ∀ (n : Nat) (A : sn_A2) (c : Nat) (T : List (Nat × Nat)) (cv : Int64) (v6 : Value) (v7 : Value), (pcnt c ≤ n) → (T.length + pcnt c ≤ 32) → (c < 2 ^ 32) → (MS A B μ) → (TK A T) → (T.length ≤ 32) → (∀ e ∈ T, e.1 < 32 ∧ e.2 < bm b) → ((pel w b (32 - T.length) c).map (fun U => T ++ U) = pel w b 32 c0) → (cv = lN c) → EvP o0 (d + 4) me_M_fold 8 [.ref 5, .int (nI k), .long (lN c0), .retAddr 0, .long cv, .retAddr 0, v6, v7] [] (hp x A B t) P := by
    intro n
    induction n using Nat.strongRecOn with
    | _ n ih =>
      intro A c T cv v6 v7 h0 h1 hc hM hT hTl hTb hG e3
      subst e3
      refine EvP.s (fun _ _ K => Ev.go 2 rfl K) ?_
      refine EvP.leq rfl rfl rfl rfl (by omega) (by omega) (fun c11 => ?_) (fun c11 => ?_)
      · refine EvP.s (fun _ _ K => Ev.go 2 rfl K) ?_
        have hM0 := hM.self k
        rw [← hb] at hM0
        have hG2 : pel w b 32 c0 = some T := by
          rw [← hG, c11]
          cases 32 - T.length <;> simp [pel]
        exact L3 T hTb hTl hG2 32 A (bn b) 0 _ (by omega) hM0 hT (fun j hj => absurd hj (by omega)) rfl _ _
      have m := hM.mk hk
      rw [← hw, ← hb] at m
      have hon := onI_none (o := lone w b c) (fun p hp => by have := (kyo_ok hp).1; omega)
      have hpp := pcnt_pos c11
      refine EvP.s (fun _ _ K => Ev.go 3 rfl K) ?_
      refine EvP.s (fun _ _ K => Ev.cv (E' := me_M_lonePlace) rfl mk_M_lonePlace lv_1_191_1 rfl hp_5 rfl (e_M_lonePlace (d + 0) x t m rfl rfl hc) K) ?_
      refine EvP.s (fun _ _ K => Ev.go 3 rfl K) ?_
      refine EvP.brn rfl rfl (fun c27 => ?_) (fun c27 => ?_)
      · obtain ⟨pl, hlo⟩ : ∃ p, lone w b c = some p := by
          cases hq : lone w b c with
          | none => exact absurd (hon.mpr hq) c27
          | some p => exact ⟨p, rfl⟩
        have hy1 := kyo_ok hlo
        rw [hlo]
        show EvP o0 (d + 4) me_M_fold 32 [.ref 5, .int (nI k), .long (lN c0), .retAddr 0, .long (lN c), .retAddr 0, .int (nI pl), v7] [] (hp x A B t) P
        refine EvP.s (fun _ _ K => Ev.go 2 rfl K) ?_
        have L2 : ∀ (n2 : Nat) (y : Nat) (yv : Int32), (y + n2 = 32) → (fst_ (fun x => c.testBit x && (pls w b x).testBit pl) n2 y = kyo w b c pl) → (yv = nI y) → EvP o0 (d + 4) me_M_fold 35 [.ref 5, .int (nI k), .long (lN c0), .retAddr 0, .long (lN c), .retAddr 0, .int (nI pl), .int yv] [] (hp x A B t) P := by
          intro n2
          induction n2 using Nat.strongRecOn with
          | _ n2 ih2 =>
            intro y yv g1 g2 g3
            subst g3
            have hn2 : n2 ≠ 0 := by
              intro e
              subst e
              have : y = kyo w b c pl := g2
              omega
            obtain ⟨n2, rfl⟩ : ∃ z, n2 = z + 1 := ⟨n2 - 1, by omega⟩
            refine EvP.s (fun _ _ K => Ev.go 2 rfl K) ?_
            refine EvP.s (fun _ _ K => Ev.cs (E' := me_M_has) rfl mk_M_has ls_1_100 rfl rfl (e_M_has (d + 3) _ rfl rfl (by omega) (by omega)) K) ?_
            refine EvP.zb rfl rfl (fun c42 => ?_) (fun c42 => ?_)
            · refine EvP.s (fun _ _ K => Ev.go 2 rfl K) ?_
              exact ih2 n2 (by omega) (y + 1) _ (by omega) (by rw [← g2]; simp [fst_, c42]) (by rw [nI_add])
            refine EvP.s (fun _ _ K => Ev.go 3 rfl K) ?_
            refine EvP.s (fun _ _ K => Ev.cv (E' := me_M_placesOf) rfl mk_M_placesOf lv_1_166_1 rfl hp_5 rfl (e_M_placesOf (d + 1) x t m rfl rfl (by omega)) K) ?_
            refine EvP.s (fun _ _ K => Ev.go 1 rfl K) ?_
            refine EvP.s (fun _ _ K => Ev.cs (E' := me_M_has) rfl mk_M_has ls_1_100 rfl rfl (e_M_has (d + 3) _ rfl rfl (by have := pls_lt (w := w) hwb y; omega) (by omega)) K) ?_
            refine EvP.zn rfl rfl (fun c57 => ?_) (fun c57 => ?_)
            · have ey : y = kyo w b c pl := by
                rw [← g2]; simp [fst_, c42, c57]
              subst ey
              have hpd := pcnt_andn hc hy1.2.1 hy1.2.2.1
              refine EvP.s (fun _ _ K => Ev.go 1 rfl K) ?_
              refine EvP.s (fun _ _ K => Ev.gf rfl lf_1_41_1 hp_5 rfl K) ?_
              refine EvP.s (fun _ _ K => Ev.go 1 rfl K) ?_
              refine EvP.s (fun _ _ K => Ev.gf rfl lf_1_188_1 hp_5 rfl K) ?_
              refine EvP.s (fun _ _ K => Ev.go 1 rfl K) ?_
              refine EvP.s (fun _ _ K => Ev.isn rfl hp_16 hT.1 (by omega) (by omega) K) ?_
              rw [hps_16]
              refine EvP.s (fun _ _ K => Ev.go 1 rfl K) ?_
              refine EvP.s (fun _ _ K => Ev.gf rfl lf_1_44_1 hp_5 rfl K) ?_
              refine EvP.s (fun _ _ K => Ev.go 1 rfl K) ?_
              refine EvP.s (fun _ _ K => Ev.gf rfl lf_1_188_1 hp_5 rfl K) ?_
              refine EvP.s (fun _ _ K => Ev.go 1 rfl K) ?_
              refine EvP.s (fun _ _ K => Ev.isn rfl hp_17 hT.1 (by omega) (by omega) K) ?_
              rw [hps_17]
              refine EvP.s (fun _ _ K => Ev.go 2 rfl K) ?_
              refine EvP.s (fun _ _ K => Ev.gf rfl lf_1_188_1 hp_5 rfl K) ?_
              refine EvP.s (fun _ _ K => Ev.go 2 rfl K) ?_
              refine EvP.s (fun _ _ K => Ev.pf rfl lp_M_fold_188_1 hp_5 rfl rfl K) ?_
              rw [hps_many]
              refine EvP.s (fun _ _ K => Ev.go 9 rfl K) ?_
              have hT2 := hT.step (kyo w b c pl) pl (v := A 0 2 + nI 1) (by rw [hT.1, nI_add])
              exact ih (pcnt (andn c (2 ^ kyo w b c pl))) (by omega) _ (andn c (2 ^ kyo w b c pl)) (T ++ [(kyo w b c pl, pl)]) _ _ _ (Nat.le_refl _) (by rw [List.length_append, List.length_singleton]; omega) (andn_lt hc) (((hM.scr _ rfl).scr _ rfl).many _) hT2 (by rw [List.length_append]; simp; omega) (fun e he => by
                rcases List.mem_append.mp he with q | q
                · exact hTb e q
                · rw [List.mem_singleton.mp q]; exact ⟨hy1.2.1, hy1.1⟩) (by
                rw [← hG]
                obtain ⟨z, hz⟩ : ∃ z, 32 - T.length = z + 1 := ⟨31 - T.length, by omega⟩
                rw [hz]
                simp only [pel]
                rw [if_neg c11, hlo, List.length_append, List.length_singleton, show 32 - (T.length + 1) = z by omega]
                simp only [Option.map_map]
                congr 1
                funext z
                simp) (by rw [sh1 (by omega), lN_andn])
            refine EvP.s (fun _ _ K => Ev.go 2 rfl K) ?_
            exact ih2 n2 (by omega) (y + 1) _ (by omega) (by rw [← g2]; simp [fst_, c42, c57]) (by rw [nI_add])
        exact L2 32 0 _ (by omega) rfl rfl
      refine EvP.s (fun _ _ K => Ev.go 1 rfl K) ?_
      refine ⟨_, _, Ev.reti rfl rfl, ?_⟩
      have hN : pel w b 32 c0 = none := by
        rw [← hG, show 32 - T.length = (31 - T.length) + 1 by omega]
        simp only [pel]
        rw [if_neg c11, hon.mp c27]
        rfl
      rw [← hPe]
      refine ⟨A, rfl, by rw [hN]; rfl, ?_⟩
      rw [hN]
      show MS A B (setB μ k b)
      rw [hb]
      exact hM.self k
  refine EvP.s (fun _ _ K => Ev.go 4 rfl K) ?_
  refine EvP.s (fun _ _ K => Ev.pf rfl lp_M_fold_188_1 hp_5 rfl rfl K) ?_
  rw [hps_many]
  exact L1 (pcnt c0) _ c0 [] _ _ _ (Nat.le_refl _) (by have := pcnt_le hc0; simp; omega) hc0 (q.many _) ⟨show upd (A 0) 2 (nI 0) 2 = nI 0 from pk_us, fun j hj => absurd hj (by simp)⟩ (by simp) (fun e he => by cases he) (by simp) rfl
