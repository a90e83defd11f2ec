/-! THE REFERENCE: put and take, as calls -/
def PMi (x : sn_X5) (t : sn_H) (z : Int32 × sn_S) (r : Option Value) (h' : sn_H) : Prop := ∃ A' B', h' = hp x A' B' t ∧ r = some (.int z.1) ∧ MS A' B' z.2
def PMl (x : sn_X5) (t : sn_H) (z : Int64 × sn_S) (r : Option Value) (h' : sn_H) : Prop := ∃ A' B', h' = hp x A' B' t ∧ r = some (.long z.1) ∧ MS A' B' z.2
theorem PMi.rc {x : sn_X5} {t : sn_H} {z : Int32 × sn_S} {r : Option Value} {h' : sn_H} (h : PMi x t z r h') : sn_rc (some .int) r := by
  obtain ⟨_, _, _, rfl, _⟩ := h; trivial
theorem PMl.rc {x : sn_X5} {t : sn_H} {z : Int64 × sn_S} {r : Option Value} {h' : sn_H} (h : PMl x t z r h') : sn_rc (some .long) r := by
  obtain ⟨_, _, _, rfl, _⟩ := h; trivial
theorem PMi.mk {x : sn_X5} {t : sn_H} {z : Int32 × sn_S} {A : sn_A2} {B : sn_B2} {v : Int32} {μ : sn_S} (h : MS A B μ) (e : (v, μ) = z) : PMi x t z (some (.int v)) (hp x A B t) := by
  subst e; exact ⟨A, B, rfl, rfl, h⟩
theorem PMl.mk {x : sn_X5} {t : sn_H} {z : Int64 × sn_S} {A : sn_A2} {B : sn_B2} {v : Int64} {μ : sn_S} (h : MS A B μ) (e : (v, μ) = z) : PMl x t z (some (.long v)) (hp x A B t) := by
  subst e; exact ⟨A, B, rfl, rfl, h⟩
theorem gput_le {k m pl : Nat} {g : Nat → Nat} (h : ∀ i, g i ≤ 7) (i : Nat) : gput k m pl g i ≤ 7 := by
  unfold gput
  have := h i
  split
  · split
    · split <;> omega
    · omega
  · exact this
theorem gtak_le {m pl : Nat} {g : Nat → Nat} (h : ∀ i, g i ≤ 7) (i : Nat) : gtak m pl g i ≤ 7 := by
  unfold gtak
  have := h i
  split <;> omega
theorem setB_bnu_self (b : sn_Bk) : bnu b (bn b) = b := rfl
theorem p_M_put (d : Nat) (x : sn_X5) {A : sn_A2} {B : sn_B2} (t : sn_H) {μ : sn_S} (q : MS A B μ) (kv yv : Int32) : SpP (d + 4) me_M_put [.ref 5, .int kv, .int yv] (hp x A B t) (PMi x t (an_put μ kv yv)) := by
  refine SpP.of ok_M_put (fun r h' z => z.rc) rfl ?_
  refine EvP.s (fun _ _ K => Ev.go 2 rfl K) ?_
  refine EvP.s (fun _ _ K => Ev.cv (E' := me_M_isBook) rfl mk_M_isBook lv_1_131_1 rfl hp_5 rfl (e_M_isBook (d + 2) x t q _) K) ?_
  refine EvP.zb rfl rfl (fun c5 => ?_) (fun c5 => ?_)
  · refine EvP.s (fun _ _ K => Ev.go 1 rfl K) ?_
    refine ⟨_, _, Ev.reti rfl rfl, ?_⟩
    refine PMi.mk q ?_
    unfold an_put
    rw [if_pos (fun z => ofn c5 z.1)]
  refine EvP.s (fun _ _ K => Ev.go 1 rfl K) ?_
  refine EvP.s (fun _ _ K => Ev.cs (E' := me_M_isKey) rfl mk_M_isKey ls_1_93 rfl rfl (e_M_isKey2 (d + 2) _ _) K) ?_
  refine EvP.zn rfl rfl (fun c12 => ?_) (fun c12 => ?_)
  · obtain ⟨k, hk, hk2, rfl⟩ := rg_ex (ofd c5)
    obtain ⟨y, hy, hy2, rfl⟩ := rg_ex (ofd c12)
    obtain ⟨w, hw⟩ : ∃ z, z = sw μ := ⟨_, rfl⟩
    obtain ⟨b, hb⟩ : ∃ z, z = sbk μ k := ⟨_, rfl⟩
    have m := q.mk hk
    rw [← hb, ← hw] at m
    have hk8 := m.2.2.2.2
    have hwb := m.2.2.1
    have hm := hwb.2.1
    have h5 := hwb.1
    have h99 := hwb.2.2.2.2.2.2.2.2.2.1
    have h7 := hwb.2.2.2.2.2.2.2.1
    have hu : an_put μ (nI k) (nI y) = if bk b = 4 ∨ bk b = 5 ∨ bt b y = 99 then (- nI 103, μ) else match nput w b y with
        | none => (- nI 104, μ)
        | some g => (b2i (isin w b y), setB μ k (btu (bnu b g) (uN (bt b) y (bt b y + 1)))) := by
      unfold an_put
      rw [if_neg (fun z => z ⟨ofd c5, ofd c12⟩), tn_nI hk2, tn_nI hy2, ← hb, ← hw]
      rfl
    rw [hu]
    generalize hz : (if bk b = 4 ∨ bk b = 5 ∨ bt b y = 99 then (- nI 103, μ) else match nput w b y with
        | none => (- nI 104, μ)
        | some g => (b2i (isin w b y), setB μ k (btu (bnu b g) (uN (bt b) y (bt b y + 1))))) = z
    have J1 : ¬ (bk b = 4 ∨ bk b = 5 ∨ bt b y = 99) → ∀ inv : Int32, inv = b2i (isin w b y) → EvP o0 (d + 4) me_M_put 68 [.ref 5, .int (nI k), .int (nI y), .int (nI (bk b)), .retAddr 0, .retAddr 0, .retAddr 0, .retAddr 0, .retAddr 0, .retAddr 0] [.int inv] (hp x A B t) (PMi x t z) := by
      intro hkd inv hin
      have J2 : ¬ bt b y = 99 → ∀ (A : sn_A2) (g : Nat → Nat), MS A B (setB μ k (bnu b g)) → nput w b y = some g → ∀ (inv : Int32) (v5 v6 v7 v8 v9 : Value), inv = b2i (isin w b y) → EvP o0 (d + 4) me_M_put 185 [.ref 5, .int (nI k), .int (nI y), .int (nI (bk b)), .int inv, v5, v6, v7, v8, v9] [] (hp x A B t) (PMi x t z) := by
        intro hn99 A g hM hg inv v5 v6 v7 v8 v9 hin
        have hM2 := hM.timg hk (i := y) (v := bt b y + 1) hy (by have := h99 y; omega)
        refine EvP.s (fun _ _ K => Ev.go 1 rfl K) ?_
        refine EvP.s (fun _ _ K => Ev.gf rfl lf_1_28_1 hp_5 rfl K) ?_
        refine EvP.s (fun _ _ K => Ev.go 6 rfl K) ?_
        refine EvP.s (fun _ _ K => Ev.iln rfl hp_12 (by rw [pk_mul, nI_add]) (by omega) (by omega) K) ?_
        rw [show A 12 (32 * k + y) = nI (bt b y) from (hM.mkg hk).2.2.2.1.2.2.2.2.1 y hy]
        refine EvP.s (fun _ _ K => Ev.go 2 rfl K) ?_
        refine EvP.s (fun _ _ K => Ev.isn rfl hp_12 (by rw [pk_mul, nI_add]) (by omega) (by omega) K) ?_
        rw [hps_12]
        rw [nI_add]
        refine EvP.s (fun _ _ K => Ev.go 1 rfl K) ?_
        refine ⟨_, _, Ev.reti rfl rfl, ?_⟩
        refine PMi.mk hM2 ?_
        rw [← hz, if_neg hkd, hg, hin]
        rfl
      have L : ¬ bk b = 3 → ¬ bt b y = 99 → ∀ inv : Int32, inv = b2i (isin w b y) → ∀ (n : Nat) (A : sn_A2) (g : Nat → Nat) (i : Nat) (iv : Int32), (i + n = bm b) → (MS A B (setB μ k (bnu b g))) → (∀ j, g j = if j < i then gput (bk b) (bm b) (pls w b y) (bn b) j else bn b j) → (iv = nI i) → ∀ (v8 v9 : Value), EvP o0 (d + 4) me_M_put 98 [.ref 5, .int (nI k), .int (nI y), .int (nI (bk b)), .int inv, .long (lN (pls w b y)), .retAddr 0, .int iv, v8, v9] [] (hp x A B t) (PMi x t z) := by
        intro hk3 hn99 inv hin n
        induction n using Nat.strongRecOn with
        | _ n ih =>
          intro A g i iv h1 hM hg e3
          subst e3
          intro v8 v9
          refine EvP.s (fun _ _ K => Ev.go 2 rfl K) ?_
          refine EvP.s (fun _ _ K => Ev.gf rfl lf_1_19_1 hp_5 rfl K) ?_
          refine EvP.s (fun _ _ K => Ev.go 1 rfl K) ?_
          refine EvP.s (fun _ _ K => Ev.iln rfl hp_9 rfl (by omega) (by omega) K) ?_
          rw [(hM.mkg hk).2.2.2.1.2.1, bm_bnu]
          refine EvP.ige rfl rfl rfl (by omega) (by omega) (fun c106 => ?_) (fun c106 => ?_)
          · have eg : g = gput (bk b) (bm b) (pls w b y) (bn b) := by
              funext j
              rw [hg j]
              by_cases e : j < i
              · rw [if_pos e]
              · rw [if_neg e]; unfold gput; rw [if_neg (by omega)]
            subst eg
            exact J2 hn99 A _ hM (by unfold nput; rw [if_neg hk3]) inv _ _ _ _ _ hin
          refine EvP.s (fun _ _ K => Ev.go 1 rfl K) ?_
          refine EvP.s (fun _ _ K => Ev.gf rfl lf_1_25_1 hp_5 rfl K) ?_
          refine EvP.s (fun _ _ K => Ev.go 5 rfl K) ?_
          refine EvP.s (fun _ _ K => Ev.iln rfl hp_11 (by rw [pk_mul, nI_add]) (by omega) (by omega) K) ?_
          rw [(hM.mkg hk).2.2.2.1.2.2.2.1 i (by omega), bn_bnu, hg i, if_neg (by omega)]
          refine EvP.s (fun _ _ K => Ev.go 3 rfl K) ?_
          refine EvP.ine rfl rfl rfl (by omega) (by omega) (fun c125 => ?_) (fun c125 => ?_)
          · refine EvP.s (fun _ _ K => Ev.go 3 rfl K) ?_
            refine EvP.s (fun _ _ K => Ev.gf rfl lf_1_25_1 hp_5 rfl K) ?_
            refine EvP.s (fun _ _ K => Ev.go 7 rfl K) ?_
            refine EvP.s (fun _ _ K => Ev.cs (E' := me_M_has) rfl mk_M_has ls_1_100 rfl rfl (e_M_has (d + 3) _ rfl rfl (by have := pls_lt (w := w) hwb y; omega) (by omega)) K) ?_
            refine EvP.zb rfl rfl (fun c168 => ?_) (fun c168 => ?_)
            · refine EvP.s (fun _ _ K => Ev.go 1 rfl K) ?_
              refine EvP.s (fun _ _ K => Ev.isn rfl hp_11 (by rw [pk_mul, nI_add]) (by omega) (by omega) K) ?_
              rw [hps_11]
              refine EvP.s (fun _ _ K => Ev.go 2 rfl K) ?_
              have hM := hM.numg hk (i := i) (v := gput (bk b) (bm b) (pls w b y) (bn b) i) (by omega) hm.2 (gput_le h7 i)
              have hv : nI (bn b i) = nI (gput (bk b) (bm b) (pls w b y) (bn b) i) := by congr 1; unfold gput; rw [if_neg (fun z => by rw [c168] at z; cases z.2)]
              have hA : ∀ z, z = nI (gput (bk b) (bm b) (pls w b y) (bn b) i) → upd (A 11) (32 * k + i) z = upd (A 11) (32 * k + i) (nI (gput (bk b) (bm b) (pls w b y) (bn b) i)) := fun z e => by rw [e]
              rw [hA _ hv]
              exact ih (n - 1) (by omega) _ _ (i + 1) _ (by omega) hM (fun j => by
                by_cases e : j = i
                · subst e; rw [if_pos (by omega)]; exact if_pos rfl
                · rw [show uN g i (gput (bk b) (bm b) (pls w b y) (bn b) i) j = g j from if_neg e, hg j]
                  by_cases e2 : j < i
                  · rw [if_pos e2, if_pos (by omega)]
                  · rw [if_neg e2, if_neg (by omega)]) (by rw [nI_add]) _ _
            refine EvP.s (fun _ _ K => Ev.go 2 rfl K) ?_
            refine EvP.s (fun _ _ K => Ev.isn rfl hp_11 (by rw [pk_mul, nI_add]) (by omega) (by omega) K) ?_
            rw [hps_11]
            refine EvP.s (fun _ _ K => Ev.go 2 rfl K) ?_
            have hM := hM.numg hk (i := i) (v := gput (bk b) (bm b) (pls w b y) (bn b) i) (by omega) hm.2 (gput_le h7 i)
            have hv : nI 1 = nI (gput (bk b) (bm b) (pls w b y) (bn b) i) := by unfold gput; rw [if_pos ⟨c106, c168⟩, if_neg c125]
            have hA : ∀ z, z = nI (gput (bk b) (bm b) (pls w b y) (bn b) i) → upd (A 11) (32 * k + i) z = upd (A 11) (32 * k + i) (nI (gput (bk b) (bm b) (pls w b y) (bn b) i)) := fun z e => by rw [e]
            rw [hA _ hv]
            exact ih (n - 1) (by omega) _ _ (i + 1) _ (by omega) hM (fun j => by
              by_cases e : j = i
              · subst e; rw [if_pos (by omega)]; exact if_pos rfl
              · rw [show uN g i (gput (bk b) (bm b) (pls w b y) (bn b) i) j = g j from if_neg e, hg j]
                by_cases e2 : j < i
                · rw [if_pos e2, if_pos (by omega)]
                · rw [if_neg e2, if_neg (by omega)]) (by rw [nI_add]) _ _
          refine EvP.s (fun _ _ K => Ev.go 2 rfl K) ?_
          refine EvP.ige rfl rfl rfl (by have := h7 i; omega) (by omega) (fun c132 => ?_) (fun c132 => ?_)
          · refine EvP.s (fun _ _ K => Ev.go 2 rfl K) ?_
            refine EvP.s (fun _ _ K => Ev.go 2 rfl K) ?_
            refine EvP.s (fun _ _ K => Ev.gf rfl lf_1_25_1 hp_5 rfl K) ?_
            refine EvP.s (fun _ _ K => Ev.go 7 rfl K) ?_
            refine EvP.s (fun _ _ K => Ev.cs (E' := me_M_has) rfl mk_M_has ls_1_100 rfl rfl (e_M_has (d + 3) _ rfl rfl (by have := pls_lt (w := w) hwb y; omega) (by omega)) K) ?_
            refine EvP.zb rfl rfl (fun c168 => ?_) (fun c168 => ?_)
            · refine EvP.s (fun _ _ K => Ev.go 1 rfl K) ?_
              refine EvP.s (fun _ _ K => Ev.isn rfl hp_11 (by rw [pk_mul, nI_add]) (by omega) (by omega) K) ?_
              rw [hps_11]
              refine EvP.s (fun _ _ K => Ev.go 2 rfl K) ?_
              have hM := hM.numg hk (i := i) (v := gput (bk b) (bm b) (pls w b y) (bn b) i) (by omega) hm.2 (gput_le h7 i)
              have hv : nI (bn b i) = nI (gput (bk b) (bm b) (pls w b y) (bn b) i) := by congr 1; unfold gput; rw [if_neg (fun z => by rw [c168] at z; cases z.2)]
              have hA : ∀ z, z = nI (gput (bk b) (bm b) (pls w b y) (bn b) i) → upd (A 11) (32 * k + i) z = upd (A 11) (32 * k + i) (nI (gput (bk b) (bm b) (pls w b y) (bn b) i)) := fun z e => by rw [e]
              rw [hA _ hv]
              exact ih (n - 1) (by omega) _ _ (i + 1) _ (by omega) hM (fun j => by
                by_cases e : j = i
                · subst e; rw [if_pos (by omega)]; exact if_pos rfl
                · rw [show uN g i (gput (bk b) (bm b) (pls w b y) (bn b) i) j = g j from if_neg e, hg j]
                  by_cases e2 : j < i
                  · rw [if_pos e2, if_pos (by omega)]
                  · rw [if_neg e2, if_neg (by omega)]) (by rw [nI_add]) _ _
            refine EvP.s (fun _ _ K => Ev.go 2 rfl K) ?_
            refine EvP.s (fun _ _ K => Ev.isn rfl hp_11 (by rw [pk_mul, nI_add]) (by omega) (by omega) K) ?_
            rw [hps_11]
            refine EvP.s (fun _ _ K => Ev.go 2 rfl K) ?_
            have hM := hM.numg hk (i := i) (v := gput (bk b) (bm b) (pls w b y) (bn b) i) (by omega) hm.2 (gput_le h7 i)
            have hv : nI 7 = nI (gput (bk b) (bm b) (pls w b y) (bn b) i) := by unfold gput; rw [if_pos ⟨c106, c168⟩, if_pos c125, if_neg (by omega)]
            have hA : ∀ z, z = nI (gput (bk b) (bm b) (pls w b y) (bn b) i) → upd (A 11) (32 * k + i) z = upd (A 11) (32 * k + i) (nI (gput (bk b) (bm b) (pls w b y) (bn b) i)) := fun z e => by rw [e]
            rw [hA _ hv]
            exact ih (n - 1) (by omega) _ _ (i + 1) _ (by omega) hM (fun j => by
              by_cases e : j = i
              · subst e; rw [if_pos (by omega)]; exact if_pos rfl
              · rw [show uN g i (gput (bk b) (bm b) (pls w b y) (bn b) i) j = g j from if_neg e, hg j]
                by_cases e2 : j < i
                · rw [if_pos e2, if_pos (by omega)]
                · rw [if_neg e2, if_neg (by omega)]) (by rw [nI_add]) _ _
          refine EvP.s (fun _ _ K => Ev.go 4 rfl K) ?_
          refine EvP.s (fun _ _ K => Ev.go 2 rfl K) ?_
          refine EvP.s (fun _ _ K => Ev.gf rfl lf_1_25_1 hp_5 rfl K) ?_
          refine EvP.s (fun _ _ K => Ev.go 7 rfl K) ?_
          refine EvP.s (fun _ _ K => Ev.cs (E' := me_M_has) rfl mk_M_has ls_1_100 rfl rfl (e_M_has (d + 3) _ rfl rfl (by have := pls_lt (w := w) hwb y; omega) (by omega)) K) ?_
          refine EvP.zb rfl rfl (fun c168 => ?_) (fun c168 => ?_)
          · refine EvP.s (fun _ _ K => Ev.go 1 rfl K) ?_
            refine EvP.s (fun _ _ K => Ev.isn rfl hp_11 (by rw [pk_mul, nI_add]) (by omega) (by omega) K) ?_
            rw [hps_11]
            refine EvP.s (fun _ _ K => Ev.go 2 rfl K) ?_
            have hM := hM.numg hk (i := i) (v := gput (bk b) (bm b) (pls w b y) (bn b) i) (by omega) hm.2 (gput_le h7 i)
            have hv : nI (bn b i) = nI (gput (bk b) (bm b) (pls w b y) (bn b) i) := by congr 1; unfold gput; rw [if_neg (fun z => by rw [c168] at z; cases z.2)]
            have hA : ∀ z, z = nI (gput (bk b) (bm b) (pls w b y) (bn b) i) → upd (A 11) (32 * k + i) z = upd (A 11) (32 * k + i) (nI (gput (bk b) (bm b) (pls w b y) (bn b) i)) := fun z e => by rw [e]
            rw [hA _ hv]
            exact ih (n - 1) (by omega) _ _ (i + 1) _ (by omega) hM (fun j => by
              by_cases e : j = i
              · subst e; rw [if_pos (by omega)]; exact if_pos rfl
              · rw [show uN g i (gput (bk b) (bm b) (pls w b y) (bn b) i) j = g j from if_neg e, hg j]
                by_cases e2 : j < i
                · rw [if_pos e2, if_pos (by omega)]
                · rw [if_neg e2, if_neg (by omega)]) (by rw [nI_add]) _ _
          refine EvP.s (fun _ _ K => Ev.go 2 rfl K) ?_
          refine EvP.s (fun _ _ K => Ev.isn rfl hp_11 (by rw [pk_mul, nI_add]) (by omega) (by omega) K) ?_
          rw [hps_11]
          refine EvP.s (fun _ _ K => Ev.go 2 rfl K) ?_
          have hM := hM.numg hk (i := i) (v := gput (bk b) (bm b) (pls w b y) (bn b) i) (by omega) hm.2 (gput_le h7 i)
          have hv : nI (bn b i) + nI 1 = nI (gput (bk b) (bm b) (pls w b y) (bn b) i) := by unfold gput; rw [if_pos ⟨c106, c168⟩, if_pos c125, if_pos c132, nI_add]
          have hA : ∀ z, z = nI (gput (bk b) (bm b) (pls w b y) (bn b) i) → upd (A 11) (32 * k + i) z = upd (A 11) (32 * k + i) (nI (gput (bk b) (bm b) (pls w b y) (bn b) i)) := fun z e => by rw [e]
          rw [hA _ hv]
          exact ih (n - 1) (by omega) _ _ (i + 1) _ (by omega) hM (fun j => by
            by_cases e : j = i
            · subst e; rw [if_pos (by omega)]; exact if_pos rfl
            · rw [show uN g i (gput (bk b) (bm b) (pls w b y) (bn b) i) j = g j from if_neg e, hg j]
              by_cases e2 : j < i
              · rw [if_pos e2, if_pos (by omega)]
              · rw [if_neg e2, if_neg (by omega)]) (by rw [nI_add]) _ _
      refine EvP.s (fun _ _ K => Ev.go 3 rfl K) ?_
      refine EvP.ine rfl rfl rfl (by omega) (by omega) (fun c72 => ?_) (fun c72 => ?_)
      · refine EvP.s (fun _ _ K => Ev.go 3 rfl K) ?_
        refine EvP.s (fun _ _ K => Ev.cv (E' := me_M_placesOf) rfl mk_M_placesOf lv_1_166_1 rfl hp_5 rfl (e_M_placesOf (d + 1) x t m rfl rfl hy) K) ?_
        refine EvP.s (fun _ _ K => Ev.go 3 rfl K) ?_
        have hM0 := q.self k
        rw [← hb] at hM0
        exact L c72 (by omega) inv hin (bm b) A (bn b) 0 _ (by omega) hM0 (fun j => by rw [if_neg (by omega)]) rfl _ _
      refine EvP.s (fun _ _ K => Ev.go 3 rfl K) ?_
      obtain ⟨r1, h1, s1, A1, e1, e2, hM1⟩ := e_M_push (d + 1) x t q rfl rfl hk hy hw hb c72
      subst e1
      subst e2
      refine EvP.s (fun _ _ K => Ev.cv (E' := me_M_push) rfl mk_M_push lv_1_185_1 rfl hp_5 rfl (s1) K) ?_
      refine EvP.zn rfl rfl (fun c81 => ?_) (fun c81 => ?_)
      · obtain ⟨g, hg⟩ := Option.isSome_iff_exists.mp c81
        rw [hg] at hM1
        exact J2 (by omega) A1 g hM1 (by unfold nput; rw [if_pos c72, hg]) inv _ _ _ _ _ hin
      refine EvP.s (fun _ _ K => Ev.go 1 rfl K) ?_
      refine ⟨_, _, Ev.reti rfl rfl, ?_⟩
      have hN : psh (bm b) (bn b) (frs w b y) (mrk w b 1 y) = none := by
        cases hq : psh (bm b) (bn b) (frs w b y) (mrk w b 1 y) with
        | none => rfl
        | some g => rw [hq] at c81; cases c81
      rw [hN] at hM1
      have hM2 : MS A1 B μ := by
        have e : setB μ k (bnu b (bn b)) = μ := by rw [setB_bnu_self, hb, setB_id]
        rw [← e]; exact hM1
      refine PMi.mk hM2 ?_
      rw [← hz, if_neg hkd]
      unfold nput
      rw [if_pos c72, hN]
    refine EvP.s (fun _ _ K => Ev.go 1 rfl K) ?_
    refine EvP.s (fun _ _ K => Ev.gf rfl lf_1_16_1 hp_5 rfl K) ?_
    refine EvP.s (fun _ _ K => Ev.go 1 rfl K) ?_
    refine EvP.s (fun _ _ K => Ev.iln rfl hp_8 rfl (by omega) (by omega) K) ?_
    rw [m.2.2.2.1.1]
    refine EvP.s (fun _ _ K => Ev.go 3 rfl K) ?_
    refine EvP.ieq rfl rfl rfl (by omega) (by omega) (fun c27 => ?_) (fun c27 => ?_)
    · refine EvP.s (fun _ _ K => Ev.go 1 rfl K) ?_
      refine ⟨_, _, Ev.reti rfl rfl, ?_⟩
      refine PMi.mk q ?_
      rw [← hz, if_pos (by omega)]
    refine EvP.s (fun _ _ K => Ev.go 2 rfl K) ?_
    refine EvP.ieq rfl rfl rfl (by omega) (by omega) (fun c32 => ?_) (fun c32 => ?_)
    · refine EvP.s (fun _ _ K => Ev.go 1 rfl K) ?_
      refine ⟨_, _, Ev.reti rfl rfl, ?_⟩
      refine PMi.mk q ?_
      rw [← hz, if_pos (by omega)]
    refine EvP.s (fun _ _ K => Ev.go 1 rfl K) ?_
    refine EvP.s (fun _ _ K => Ev.gf rfl lf_1_28_1 hp_5 rfl K) ?_
    refine EvP.s (fun _ _ K => Ev.go 5 rfl K) ?_
    refine EvP.s (fun _ _ K => Ev.iln rfl hp_12 (by rw [pk_mul, nI_add]) (by omega) (by omega) K) ?_
    rw [m.2.2.2.1.2.2.2.2.1 y hy]
    refine EvP.s (fun _ _ K => Ev.go 1 rfl K) ?_
    refine EvP.ine rfl rfl rfl (by have := h99 y; omega) (by omega) (fun c48 => ?_) (fun c48 => ?_)
    · refine EvP.s (fun _ _ K => Ev.go 3 rfl K) ?_
      refine EvP.s (fun _ _ K => Ev.cv (E' := me_M_isIn) rfl mk_M_isIn lv_1_181_1 rfl hp_5 rfl (e_M_isIn d x t m rfl rfl hy) K) ?_
      refine EvP.zb rfl rfl (fun c60 => ?_) (fun c60 => ?_)
      · refine EvP.s (fun _ _ K => Ev.go 1 rfl K) ?_
        exact J1 (by omega) _ (by rw [c60]; rfl)
      refine EvP.s (fun _ _ K => Ev.go 2 rfl K) ?_
      exact J1 (by omega) _ (by rw [c60]; rfl)
    refine EvP.s (fun _ _ K => Ev.go 1 rfl K) ?_
    refine ⟨_, _, Ev.reti rfl rfl, ?_⟩
    refine PMi.mk q ?_
    rw [← hz, if_pos (by omega)]
  refine EvP.s (fun _ _ K => Ev.go 1 rfl K) ?_
  refine ⟨_, _, Ev.reti rfl rfl, ?_⟩
  refine PMi.mk q ?_
  unfold an_put
  rw [if_pos (fun z => ofn c12 z.2)]
theorem p_M_take (d : Nat) (x : sn_X5) {A : sn_A2} {B : sn_B2} (t : sn_H) {μ : sn_S} (q : MS A B μ) (kv yv : Int32) : SpP (d + 4) me_M_take [.ref 5, .int kv, .int yv] (hp x A B t) (PMi x t (an_take μ kv yv)) := by
  refine SpP.of ok_M_take (fun r h' z => z.rc) rfl ?_
  refine EvP.s (fun _ _ K => Ev.go 2 rfl K) ?_
  refine EvP.s (fun _ _ K => Ev.cv (E' := me_M_isBook) rfl mk_M_isBook lv_1_131_1 rfl hp_5 rfl (e_M_isBook (d + 2) x t q _) K) ?_
  refine EvP.zb rfl rfl (fun c5 => ?_) (fun c5 => ?_)
  · refine EvP.s (fun _ _ K => Ev.go 1 rfl K) ?_
    refine ⟨_, _, Ev.reti rfl rfl, ?_⟩
    refine PMi.mk q ?_
    unfold an_take
    rw [if_pos (fun z => ofn c5 z.1)]
  refine EvP.s (fun _ _ K => Ev.go 1 rfl K) ?_
  refine EvP.s (fun _ _ K => Ev.cs (E' := me_M_isKey) rfl mk_M_isKey ls_1_93 rfl rfl (e_M_isKey2 (d + 2) _ _) K) ?_
  refine EvP.zn rfl rfl (fun c12 => ?_) (fun c12 => ?_)
  · obtain ⟨k, hk, hk2, rfl⟩ := rg_ex (ofd c5)
    obtain ⟨y, hy, hy2, rfl⟩ := rg_ex (ofd c12)
    obtain ⟨w, hw⟩ : ∃ z, z = sw μ := ⟨_, rfl⟩
    obtain ⟨b, hb⟩ : ∃ z, z = sbk μ k := ⟨_, rfl⟩
    have m := q.mk hk
    rw [← hb, ← hw] at m
    have hk8 := m.2.2.2.2
    have hwb := m.2.2.1
    have hm := hwb.2.1
    have h5 := hwb.1
    have h99 := hwb.2.2.2.2.2.2.2.2.2.1
    have h7 := hwb.2.2.2.2.2.2.2.1
    have hu : an_take μ (nI k) (nI y) = if ¬ ((bk b = 1 ∨ bk b = 3) ∧ isin w b y = true) then (- nI 103, μ) else (nI (if 0 < bt b y then 1 else 0), setB μ k (btu (bnu b (ntak w b y)) (uN (bt b) y (bt b y - 1)))) := by
      unfold an_take
      rw [if_neg (fun z => z ⟨ofd c5, ofd c12⟩), tn_nI hk2, tn_nI hy2, ← hb, ← hw]
    rw [hu]
    generalize hz : (if ¬ ((bk b = 1 ∨ bk b = 3) ∧ isin w b y = true) then (- nI 103, μ) else (nI (if 0 < bt b y then 1 else 0), setB μ k (btu (bnu b (ntak w b y)) (uN (bt b) y (bt b y - 1))))) = z
    have J1 : ((bk b = 1 ∨ bk b = 3) ∧ isin w b y = true) → EvP o0 (d + 4) me_M_take 47 [.ref 5, .int (nI k), .int (nI y), .int (nI (bk b)), .retAddr 0, .retAddr 0, .retAddr 0, .retAddr 0] [] (hp x A B t) (PMi x t z) := by
      intro hkd
      have hf := frs_lt (w := w) hwb y
      have hmk := mrk_le (w := w) (b := b) 1 y
      have ho := oth_lt (frs w b y) (mrk w b 1 y) (show 0 < bm b by omega)
      have hM0 := q.self k
      rw [← hb] at hM0
      have J2 : ∀ (A : sn_A2) (g : Nat → Nat), MS A B (setB μ k (bnu b g)) → ntak w b y = g → ∀ (v4 v5 v6 v7 : Value), EvP o0 (d + 4) me_M_take 193 [.ref 5, .int (nI k), .int (nI y), .int (nI (bk b)), v4, v5, v6, v7] [] (hp x A B t) (PMi x t z) := by
        intro A g hM hg v4 v5 v6 v7
        have hM2 := hM.timg hk (i := y) (v := bt b y - 1) hy (by have := h99 y; omega)
        refine EvP.s (fun _ _ K => Ev.go 1 rfl K) ?_
        refine EvP.s (fun _ _ K => Ev.gf rfl lf_1_28_1 hp_5 rfl K) ?_
        refine EvP.s (fun _ _ K => Ev.go 5 rfl K) ?_
        refine EvP.s (fun _ _ K => Ev.iln rfl hp_12 (by rw [pk_mul, nI_add]) (by omega) (by omega) K) ?_
        rw [show A 12 (32 * k + y) = nI (bt b y) from (hM.mkg hk).2.2.2.1.2.2.2.2.1 y hy]
        refine EvP.zle rfl rfl (by have := h99 y; omega) (fun c204 => ?_) (fun c204 => ?_)
        · refine EvP.s (fun _ _ K => Ev.go 3 rfl K) ?_
          refine EvP.s (fun _ _ K => Ev.gf rfl lf_1_28_1 hp_5 rfl K) ?_
          refine EvP.s (fun _ _ K => Ev.go 6 rfl K) ?_
          refine EvP.s (fun _ _ K => Ev.iln rfl hp_12 (by rw [pk_mul, nI_add]) (by omega) (by omega) K) ?_
          rw [show A 12 (32 * k + y) = nI (bt b y) from (hM.mkg hk).2.2.2.1.2.2.2.2.1 y hy]
          refine EvP.s (fun _ _ K => Ev.go 2 rfl K) ?_
          refine EvP.s (fun _ _ K => Ev.isn rfl hp_12 (by rw [pk_mul, nI_add]) (by omega) (by omega) K) ?_
          rw [hps_12]
          rw [pk_sub (by omega)]
          refine EvP.s (fun _ _ K => Ev.go 1 rfl K) ?_
          refine ⟨_, _, Ev.reti rfl rfl, ?_⟩
          rw [show bt b y - 0 = bt b y - 1 by omega]
          refine PMi.mk hM2 ?_
          rw [← hz, if_neg (fun z => z hkd), hg]
          congr 1
          rw [if_neg (by omega)]
        refine EvP.s (fun _ _ K => Ev.go 2 rfl K) ?_
        refine EvP.s (fun _ _ K => Ev.go 2 rfl K) ?_
        refine EvP.s (fun _ _ K => Ev.gf rfl lf_1_28_1 hp_5 rfl K) ?_
        refine EvP.s (fun _ _ K => Ev.go 6 rfl K) ?_
        refine EvP.s (fun _ _ K => Ev.iln rfl hp_12 (by rw [pk_mul, nI_add]) (by omega) (by omega) K) ?_
        rw [show A 12 (32 * k + y) = nI (bt b y) from (hM.mkg hk).2.2.2.1.2.2.2.2.1 y hy]
        refine EvP.s (fun _ _ K => Ev.go 2 rfl K) ?_
        refine EvP.s (fun _ _ K => Ev.isn rfl hp_12 (by rw [pk_mul, nI_add]) (by omega) (by omega) K) ?_
        rw [hps_12]
        rw [pk_sub (by omega)]
        refine EvP.s (fun _ _ K => Ev.go 1 rfl K) ?_
        refine ⟨_, _, Ev.reti rfl rfl, ?_⟩
        refine PMi.mk hM2 ?_
        rw [← hz, if_neg (fun z => z hkd), hg]
        congr 1
        rw [if_pos c204]
      have L : ¬ bk b = 3 → (∀ i, i < bm b → (pls w b y).testBit i = true → 0 < bn b i) → ∀ (n : Nat) (A : sn_A2) (g : Nat → Nat) (i : Nat) (iv : Int32), (i + n = bm b) → (MS A B (setB μ k (bnu b g))) → (∀ j, g j = if j < i then gtak (bm b) (pls w b y) (bn b) j else bn b j) → (iv = nI i) → ∀ (v7 : Value), EvP o0 (d + 4) me_M_take 124 [.ref 5, .int (nI k), .int (nI y), .int (nI (bk b)), .long (lN (pls w b y)), .retAddr 0, .int iv, v7] [] (hp x A B t) (PMi x t z) := by
        intro hk3 hpos n
        induction n using Nat.strongRecOn with
        | _ n ih =>
          intro A g i iv h1 hM hg e3
          subst e3
          intro v7
          refine EvP.s (fun _ _ K => Ev.go 2 rfl K) ?_
          refine EvP.s (fun _ _ K => Ev.gf rfl lf_1_19_1 hp_5 rfl K) ?_
          refine EvP.s (fun _ _ K => Ev.go 1 rfl K) ?_
          refine EvP.s (fun _ _ K => Ev.iln rfl hp_9 rfl (by omega) (by omega) K) ?_
          rw [(hM.mkg hk).2.2.2.1.2.1, bm_bnu]
          refine EvP.ige rfl rfl rfl (by omega) (by omega) (fun c132 => ?_) (fun c132 => ?_)
          · have eg : g = gtak (bm b) (pls w b y) (bn b) := by
              funext j
              rw [hg j]
              by_cases e : j < i
              · rw [if_pos e]
              · rw [if_neg e]; unfold gtak; rw [if_neg (by omega)]
            subst eg
            exact J2 A _ hM (by unfold ntak; rw [if_neg hk3]) _ _ _ _
          refine EvP.s (fun _ _ K => Ev.go 1 rfl K) ?_
          refine EvP.s (fun _ _ K => Ev.gf rfl lf_1_25_1 hp_5 rfl K) ?_
          refine EvP.s (fun _ _ K => Ev.go 5 rfl K) ?_
          refine EvP.s (fun _ _ K => Ev.iln rfl hp_11 (by rw [pk_mul, nI_add]) (by omega) (by omega) K) ?_
          rw [(hM.mkg hk).2.2.2.1.2.2.2.1 i (by omega), bn_bnu, hg i, if_neg (by omega)]
          refine EvP.s (fun _ _ K => Ev.go 2 rfl K) ?_
          refine EvP.s (fun _ _ K => Ev.gf rfl lf_1_25_1 hp_5 rfl K) ?_
          refine EvP.s (fun _ _ K => Ev.go 7 rfl K) ?_
          refine EvP.s (fun _ _ K => Ev.cs (E' := me_M_has) rfl mk_M_has ls_1_100 rfl rfl (e_M_has (d + 3) _ rfl rfl (by have := pls_lt (w := w) hwb y; omega) (by omega)) K) ?_
          refine EvP.zb rfl rfl (fun c167 => ?_) (fun c167 => ?_)
          · refine EvP.s (fun _ _ K => Ev.go 1 rfl K) ?_
            refine EvP.s (fun _ _ K => Ev.isn rfl hp_11 (by rw [pk_mul, nI_add]) (by omega) (by omega) K) ?_
            rw [hps_11]
            refine EvP.s (fun _ _ K => Ev.go 2 rfl K) ?_
            have hM := hM.numg hk (i := i) (v := gtak (bm b) (pls w b y) (bn b) i) (by omega) hm.2 (gtak_le h7 i)
            have hv : nI (bn b i) = nI (gtak (bm b) (pls w b y) (bn b) i) := by congr 1; unfold gtak; rw [if_neg (fun z => by rw [c167] at z; cases z.2.1)]
            have hA : ∀ z, z = nI (gtak (bm b) (pls w b y) (bn b) i) → upd (A 11) (32 * k + i) z = upd (A 11) (32 * k + i) (nI (gtak (bm b) (pls w b y) (bn b) i)) := fun z e => by rw [e]
            rw [hA _ hv]
            exact ih (n - 1) (by omega) _ _ (i + 1) _ (by omega) hM (fun j => by
              by_cases e : j = i
              · subst e; rw [if_pos (by omega)]; exact if_pos rfl
              · rw [show uN g i (gtak (bm b) (pls w b y) (bn b) i) j = g j from if_neg e, hg j]
                by_cases e2 : j < i
                · rw [if_pos e2, if_pos (by omega)]
                · rw [if_neg e2, if_neg (by omega)]) (by rw [nI_add]) _
          refine EvP.s (fun _ _ K => Ev.go 2 rfl K) ?_
          refine EvP.ige rfl rfl rfl (by have := h7 i; omega) (by omega) (fun c174 => ?_) (fun c174 => ?_)
          · refine EvP.s (fun _ _ K => Ev.go 1 rfl K) ?_
            refine EvP.s (fun _ _ K => Ev.isn rfl hp_11 (by rw [pk_mul, nI_add]) (by omega) (by omega) K) ?_
            rw [hps_11]
            refine EvP.s (fun _ _ K => Ev.go 2 rfl K) ?_
            have hM := hM.numg hk (i := i) (v := gtak (bm b) (pls w b y) (bn b) i) (by omega) hm.2 (gtak_le h7 i)
            have hv : nI (bn b i) = nI (gtak (bm b) (pls w b y) (bn b) i) := by congr 1; unfold gtak; rw [if_neg (fun z => by omega)]
            have hA : ∀ z, z = nI (gtak (bm b) (pls w b y) (bn b) i) → upd (A 11) (32 * k + i) z = upd (A 11) (32 * k + i) (nI (gtak (bm b) (pls w b y) (bn b) i)) := fun z e => by rw [e]
            rw [hA _ hv]
            exact ih (n - 1) (by omega) _ _ (i + 1) _ (by omega) hM (fun j => by
              by_cases e : j = i
              · subst e; rw [if_pos (by omega)]; exact if_pos rfl
              · rw [show uN g i (gtak (bm b) (pls w b y) (bn b) i) j = g j from if_neg e, hg j]
                by_cases e2 : j < i
                · rw [if_pos e2, if_pos (by omega)]
                · rw [if_neg e2, if_neg (by omega)]) (by rw [nI_add]) _
          refine EvP.s (fun _ _ K => Ev.go 4 rfl K) ?_
          refine EvP.s (fun _ _ K => Ev.isn rfl hp_11 (by rw [pk_mul, nI_add]) (by omega) (by omega) K) ?_
          rw [hps_11]
          refine EvP.s (fun _ _ K => Ev.go 2 rfl K) ?_
          have hM := hM.numg hk (i := i) (v := gtak (bm b) (pls w b y) (bn b) i) (by omega) hm.2 (gtak_le h7 i)
          have hv : nI (bn b i) - nI 1 = nI (gtak (bm b) (pls w b y) (bn b) i) := by unfold gtak; rw [if_pos ⟨c132, c167, c174⟩, pk_sub (by have := hpos i c132 c167; omega)]
          have hA : ∀ z, z = nI (gtak (bm b) (pls w b y) (bn b) i) → upd (A 11) (32 * k + i) z = upd (A 11) (32 * k + i) (nI (gtak (bm b) (pls w b y) (bn b) i)) := fun z e => by rw [e]
          rw [hA _ hv]
          exact ih (n - 1) (by omega) _ _ (i + 1) _ (by omega) hM (fun j => by
            by_cases e : j = i
            · subst e; rw [if_pos (by omega)]; exact if_pos rfl
            · rw [show uN g i (gtak (bm b) (pls w b y) (bn b) i) j = g j from if_neg e, hg j]
              by_cases e2 : j < i
              · rw [if_pos e2, if_pos (by omega)]
              · rw [if_neg e2, if_neg (by omega)]) (by rw [nI_add]) _
      refine EvP.s (fun _ _ K => Ev.go 2 rfl K) ?_
      refine EvP.ine rfl rfl rfl (by omega) (by omega) (fun c49 => ?_) (fun c49 => ?_)
      · refine EvP.s (fun _ _ K => Ev.go 3 rfl K) ?_
        refine EvP.s (fun _ _ K => Ev.cv (E' := me_M_placesOf) rfl mk_M_placesOf lv_1_166_1 rfl hp_5 rfl (e_M_placesOf (d + 1) x t m rfl rfl hy) K) ?_
        refine EvP.s (fun _ _ K => Ev.go 3 rfl K) ?_
        refine L c49 (fun i hi hp2 => ?_) (bm b) A (bn b) 0 _ (by omega) hM0 (fun j => by rw [if_neg (by omega)]) rfl _
        by_cases e : 0 < bn b i
        · exact e
        · exfalso
          have h2 := hkd.2
          unfold isin at h2
          rw [if_neg c49, if_neg (by omega), if_neg (by omega)] at h2
          have h3 := ofd h2
          have h4 := andn_tb (pls w b y) (fil b) i
          rw [h3, hp2, Nat.zero_testBit] at h4
          have h5 : (fil b).testBit i = true := by
            cases hq : (fil b).testBit i with
            | true => rfl
            | false => rw [hq] at h4; cases h4
          obtain ⟨j, hj1, hj2⟩ := (orf_tb _ i _).mp h5
          split at hj2
          · rw [Nat.testBit_two_pow] at hj2
            have := ofd hj2
            subst this
            omega
          · rw [Nat.zero_testBit] at hj2; cases hj2
      refine EvP.s (fun _ _ K => Ev.go 3 rfl K) ?_
      refine EvP.s (fun _ _ K => Ev.cv (E' := me_M_firstPlace) rfl mk_M_firstPlace lv_1_153_1 rfl hp_5 rfl (e_M_firstPlace (d + 2) x t m rfl rfl hy) K) ?_
      refine EvP.s (fun _ _ K => Ev.go 4 rfl K) ?_
      refine EvP.s (fun _ _ K => Ev.cv (E' := me_M_pushedMark) rfl mk_M_pushedMark lv_1_156_1 rfl hp_5 rfl (e_M_pushedMark (d + 2) x t m rfl rfl hy (by have := hwb.2.2.2.2.2.1 c49; omega)) K) ?_
      refine EvP.s (fun _ _ K => Ev.go 2 rfl K) ?_
      refine EvP.s (fun _ _ K => Ev.gf rfl lf_1_25_1 hp_5 rfl K) ?_
      refine EvP.s (fun _ _ K => Ev.go 4 rfl K) ?_
      refine EvP.s (fun _ _ K => Ev.gf rfl lf_1_25_1 hp_5 rfl K) ?_
      refine EvP.s (fun _ _ K => Ev.go 5 rfl K) ?_
      refine EvP.s (fun _ _ K => Ev.iln rfl hp_11 (by rw [pk_mul, nI_add]) (by omega) (by omega) K) ?_
      rw [m.2.2.2.1.2.2.2.1 (frs w b y) (by omega)]
      refine EvP.s (fun _ _ K => Ev.go 1 rfl K) ?_
      refine EvP.ine rfl rfl rfl (by have := h7 (frs w b y); omega) (by omega) (fun c90 => ?_) (fun c90 => ?_)
      · refine EvP.s (fun _ _ K => Ev.go 4 rfl K) ?_
        refine EvP.s (fun _ _ K => Ev.cv (E' := me_M_otherPlace) rfl mk_M_otherPlace lv_1_159_1 rfl hp_5 rfl (e_M_otherPlace (d + 3) x t m rfl rfl rfl hf (by omega)) K) ?_
        refine EvP.s (fun _ _ K => Ev.go 2 rfl K) ?_
        refine EvP.s (fun _ _ K => Ev.isn rfl hp_11 (by rw [pk_mul, nI_add]) (by omega) (by omega) K) ?_
        rw [hps_11]
        refine EvP.s (fun _ _ K => Ev.go 1 rfl K) ?_
        exact J2 _ _ (hM0.numg (g := bn b) hk (i := oth (bm b) (frs w b y) (mrk w b 1 y)) (v := 0) (by omega) hm.2 (by omega)) (by unfold ntak; rw [if_pos c49, if_neg c90]) _ _ _ _
      refine EvP.s (fun _ _ K => Ev.go 2 rfl K) ?_
      refine EvP.s (fun _ _ K => Ev.go 2 rfl K) ?_
      refine EvP.s (fun _ _ K => Ev.isn rfl hp_11 (by rw [pk_mul, nI_add]) (by omega) (by omega) K) ?_
      rw [hps_11]
      refine EvP.s (fun _ _ K => Ev.go 1 rfl K) ?_
      exact J2 _ _ (hM0.numg (g := bn b) hk (i := frs w b y) (v := 0) (by omega) hm.2 (by omega)) (by unfold ntak; rw [if_pos c49, if_pos c90]) _ _ _ _
    refine EvP.s (fun _ _ K => Ev.go 1 rfl K) ?_
    refine EvP.s (fun _ _ K => Ev.gf rfl lf_1_16_1 hp_5 rfl K) ?_
    refine EvP.s (fun _ _ K => Ev.go 1 rfl K) ?_
    refine EvP.s (fun _ _ K => Ev.iln rfl hp_8 rfl (by omega) (by omega) K) ?_
    rw [m.2.2.2.1.1]
    refine EvP.s (fun _ _ K => Ev.go 3 rfl K) ?_
    refine EvP.ieq rfl rfl rfl (by omega) (by omega) (fun c27 => ?_) (fun c27 => ?_)
    · refine EvP.s (fun _ _ K => Ev.go 3 rfl K) ?_
      refine EvP.s (fun _ _ K => Ev.cv (E' := me_M_isIn) rfl mk_M_isIn lv_1_181_1 rfl hp_5 rfl (e_M_isIn d x t m rfl rfl hy) K) ?_
      refine EvP.zn rfl rfl (fun c41 => ?_) (fun c41 => ?_)
      · exact J1 ⟨by omega, c41⟩
      refine EvP.s (fun _ _ K => Ev.go 1 rfl K) ?_
      refine ⟨_, _, Ev.reti rfl rfl, ?_⟩
      refine PMi.mk q ?_
      rw [← hz, if_pos (fun z => by rw [c41] at z; cases z.2)]
    refine EvP.s (fun _ _ K => Ev.go 2 rfl K) ?_
    refine EvP.ine rfl rfl rfl (by omega) (by omega) (fun c32 => ?_) (fun c32 => ?_)
    · refine EvP.s (fun _ _ K => Ev.go 1 rfl K) ?_
      refine ⟨_, _, Ev.reti rfl rfl, ?_⟩
      refine PMi.mk q ?_
      rw [← hz, if_pos (fun z => by omega)]
    refine EvP.s (fun _ _ K => Ev.go 3 rfl K) ?_
    refine EvP.s (fun _ _ K => Ev.cv (E' := me_M_isIn) rfl mk_M_isIn lv_1_181_1 rfl hp_5 rfl (e_M_isIn d x t m rfl rfl hy) K) ?_
    refine EvP.zn rfl rfl (fun c41 => ?_) (fun c41 => ?_)
    · exact J1 ⟨by omega, c41⟩
    refine EvP.s (fun _ _ K => Ev.go 1 rfl K) ?_
    refine ⟨_, _, Ev.reti rfl rfl, ?_⟩
    refine PMi.mk q ?_
    rw [← hz, if_pos (fun z => by rw [c41] at z; cases z.2)]
  refine EvP.s (fun _ _ K => Ev.go 1 rfl K) ?_
  refine ⟨_, _, Ev.reti rfl rfl, ?_⟩
  refine PMi.mk q ?_
  unfold an_take
  rw [if_pos (fun z => ofn c12 z.2)]
