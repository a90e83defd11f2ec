/-! THE REFERENCE: build -/
def bldz (μ : sn_S) (k : Nat) (b : sn_Bk) (s : Nat) (z : Option sn_Bk) : Int32 × sn_S := match z with
  | none => (- nI 103, μ)
  | some c => (nI (pcnt s), setB μ k (btu c (fun x => if s.testBit x then 1 else 0)))
theorem bt_bld {w : sn_Lw} {b c : sn_Bk} {s o : Nat} (h : bld w b s o = some c) : bt c = bt b := by
  unfold bld at h
  split at h
  · cases hq : pel w b 32 s with
    | none => rw [hq] at h; cases h
    | some T => rw [hq] at h; cases h; rfl
  · split at h
    · cases hq : lay w b 6 0 s o with
      | none => rw [hq] at h; cases h
      | some T => rw [hq] at h; cases h; rfl
    · cases h
theorem p_M_build (d : Nat) (x : sn_X5) {A : sn_A2} {B : sn_B2} (t : sn_H) {μ : sn_S} (q : MS A B μ) (kv : Int32) (sv ov : Int64) : SpP (d + 5) me_M_build [.ref 5, .int kv, .long sv, .long ov] (hp x A B t) (PMi x t (an_build μ kv sv ov)) := by
  refine SpP.of ok_M_build (fun r h' z => z.rc) rfl ?_
  refine EvP.s (fun _ _ K => Ev.go 2 rfl K) ?_
  refine EvP.s (fun _ _ K => Ev.cv (E' := me_M_isBook) rfl mk_M_isBook lv_1_131_1 rfl hp_5 rfl (e_M_isBook (d + 3) x t q _) K) ?_
  refine EvP.zn rfl rfl (fun c5 => ?_) (fun c5 => ?_)
  · obtain ⟨k, hk, hk2, rfl⟩ := rg_ex (ofd c5)
    obtain ⟨w, hw⟩ : ∃ z, z = sw μ := ⟨_, rfl⟩
    obtain ⟨b, hb⟩ : ∃ z, z = sbk μ k := ⟨_, rfl⟩
    have m := q.mk hk
    rw [← hb, ← hw] at m
    have hk8 := m.2.2.2.2
    have h5 := m.2.2.1.1
    refine EvP.s (fun _ _ K => Ev.go 1 rfl K) ?_
    refine EvP.s (fun _ _ K => Ev.gf rfl lf_1_16_1 hp_5 rfl K) ?_
    refine EvP.s (fun _ _ K => Ev.go 1 rfl K) ?_
    refine EvP.s (fun _ _ K => Ev.iln rfl hp_8 rfl (by omega) (by omega) K) ?_
    rw [m.2.2.2.1.1]
    refine EvP.s (fun _ _ K => Ev.go 2 rfl K) ?_
    refine EvP.s (fun _ _ K => Ev.cs (E' := me_M_isSet) rfl mk_M_isSet ls_1_108 rfl rfl (e_M_isSet2 (d + 3) _ _) K) ?_
    refine EvP.zb rfl rfl (fun c23 => ?_) (fun c23 => ?_)
    · refine EvP.s (fun _ _ K => Ev.go 1 rfl K) ?_
      refine ⟨_, _, Ev.reti rfl rfl, ?_⟩
      refine PMi.mk q ?_
      unfold an_build
      rw [if_neg (fun z => z (ofd c5)), if_pos (fun z => ofn c23 z.1)]
    refine EvP.s (fun _ _ K => Ev.go 1 rfl K) ?_
    refine EvP.s (fun _ _ K => Ev.cs (E' := me_M_isSet) rfl mk_M_isSet ls_1_108 rfl rfl (e_M_isSet2 (d + 3) _ _) K) ?_
    refine EvP.zb rfl rfl (fun c31 => ?_) (fun c31 => ?_)
    · refine EvP.s (fun _ _ K => Ev.go 1 rfl K) ?_
      refine ⟨_, _, Ev.reti rfl rfl, ?_⟩
      refine PMi.mk q ?_
      unfold an_build
      rw [if_neg (fun z => z (ofd c5)), if_pos (fun z => ofn c31 z.2.1)]
    obtain ⟨s, hs, rfl⟩ := sg_ex (ofd c23)
    obtain ⟨o, ho, rfl⟩ := sg_ex (ofd c31)
    refine EvP.s (fun _ _ K => Ev.go 4 rfl K) ?_
    refine EvP.lne rfl rfl (fb_andL _ _) rfl (by have := Nat.and_le_left (n := s) (m := o); omega) (by omega) (fun c39 => ?_) (fun c39 => ?_)
    · refine EvP.s (fun _ _ K => Ev.go 1 rfl K) ?_
      refine ⟨_, _, Ev.reti rfl rfl, ?_⟩
      refine PMi.mk q ?_
      unfold an_build
      rw [if_neg (fun z => z (ofd c5)), if_pos (fun z => by have := z.2.2.1; rw [ts_lN hs, ts_lN ho] at this; exact c39 this)]
    have J : (bk b = 4 → o = 0) → EvP o0 (d + 5) me_M_build 59 [.ref 5, .int (nI k), .long (lN s), .retAddr 0, .long (lN o), .retAddr 0, .int (nI (bk b)), .retAddr 0, .retAddr 0] [] (hp x A B t) (PMi x t (an_build μ (nI k) (lN s) (lN o))) := by
      intro hcd
      have hu : an_build μ (nI k) (lN s) (lN o) = bldz μ k b s (bld w b s o) := by
        unfold an_build
        rw [if_neg (fun z => z (ofd c5)), if_neg (fun z => z ⟨sg_lN hs, sg_lN ho, by rw [ts_lN hs, ts_lN ho]; exact c39, by rw [tn_nI hk2, ← hb, ts_lN ho]; exact hcd⟩), tn_nI hk2, ts_lN hs, ts_lN ho, ← hb, ← hw]
        rfl
      rw [hu]
      generalize hz : bldz μ k b s (bld w b s o) = z
      have L : ∀ (B : sn_B2) (c : sn_Bk) (v7 : Int32), bld w b s o = some c → ∀ (n : Nat) (A : sn_A2) (g : Nat → Nat) (i : Nat) (iv : Int32), (i + n = 32) → (MS A B (setB μ k (btu c g))) → (∀ j, j < i → g j = if s.testBit j then 1 else 0) → (iv = nI i) → EvP o0 (d + 5) me_M_build 109 [.ref 5, .int (nI k), .long (lN s), .retAddr 0, .long (lN o), .retAddr 0, .int (nI (bk b)), .int v7, .int iv] [] (hp x A B t) (PMi x t z) := by
        intro B c v7 hc n
        induction n using Nat.strongRecOn with
        | _ n ih =>
          intro A g i iv h1 hM hg e3
          subst e3
          refine EvP.s (fun _ _ K => Ev.go 2 rfl K) ?_
          refine EvP.ige rfl rfl rfl (by omega) (by omega) (fun c113 => ?_) (fun c113 => ?_)
          · refine EvP.s (fun _ _ K => Ev.go 1 rfl K) ?_
            refine EvP.s (fun _ _ K => Ev.cs (E' := me_M_ones) rfl mk_M_ones ls_1_127 rfl rfl (e_M_ones (d + 4) _ rfl hs) K) ?_
            refine ⟨_, _, Ev.reti rfl rfl, ?_⟩
            refine PMi.mk (hM.congT (fun j hj => hg j (by omega)) (fun j => by split <;> omega)) ?_
            rw [← hz, hc]
            rfl
          refine EvP.s (fun _ _ K => Ev.go 1 rfl K) ?_
          refine EvP.s (fun _ _ K => Ev.gf rfl lf_1_28_1 hp_5 rfl K) ?_
          refine EvP.s (fun _ _ K => Ev.go 7 rfl K) ?_
          refine EvP.s (fun _ _ K => Ev.cs (E' := me_M_has) rfl mk_M_has ls_1_100 rfl rfl (e_M_has (d + 4) _ rfl rfl (by omega) (by omega)) K) ?_
          refine EvP.zb rfl rfl (fun c133 => ?_) (fun c133 => ?_)
          · refine EvP.s (fun _ _ K => Ev.go 1 rfl K) ?_
            refine EvP.s (fun _ _ K => Ev.isn rfl hp_12 (by rw [pk_mul, nI_add]) (by omega) (by omega) K) ?_
            rw [hps_12]
            refine EvP.s (fun _ _ K => Ev.go 2 rfl K) ?_
            exact ih (n - 1) (by omega) _ (uN g i 0) (i + 1) _ (by omega) (hM.timg hk (by omega) (by omega)) (fun j hj => by
              by_cases e : j = i
              · subst e; rw [c133]; exact if_pos rfl
              · exact (if_neg e).trans (hg j (by omega))) (by rw [nI_add])
          refine EvP.s (fun _ _ K => Ev.go 2 rfl K) ?_
          refine EvP.s (fun _ _ K => Ev.isn rfl hp_12 (by rw [pk_mul, nI_add]) (by omega) (by omega) K) ?_
          rw [hps_12]
          refine EvP.s (fun _ _ K => Ev.go 2 rfl K) ?_
          exact ih (n - 1) (by omega) _ (uN g i 1) (i + 1) _ (by omega) (hM.timg hk (by omega) (by omega)) (fun j hj => by
            by_cases e : j = i
            · subst e; rw [c133]; exact if_pos rfl
            · exact (if_neg e).trans (hg j (by omega))) (by rw [nI_add])
      have J2 : ∀ (A : sn_A2) (B : sn_B2) (v : Int32), v = b2i (bld w b s o).isSome → MS A B (setB μ k ((bld w b s o).getD b)) → EvP o0 (d + 5) me_M_build 96 [.ref 5, .int (nI k), .long (lN s), .retAddr 0, .long (lN o), .retAddr 0, .int (nI (bk b)), .retAddr 0, .retAddr 0] [.int v] (hp x A B t) (PMi x t z) := by
        intro A B v hv hM
        subst hv
        refine EvP.s (fun _ _ K => Ev.go 2 rfl K) ?_
        refine EvP.zn rfl rfl (fun c100 => ?_) (fun c100 => ?_)
        · refine EvP.s (fun _ _ K => Ev.go 2 rfl K) ?_
          obtain ⟨c, hc⟩ := Option.isSome_iff_exists.mp c100
          rw [hc] at hM
          exact L B c _ hc 32 A (bt c) 0 _ (by omega) hM (fun j hj => absurd hj (by omega)) rfl
        refine EvP.s (fun _ _ K => Ev.go 1 rfl K) ?_
        refine ⟨_, _, Ev.reti rfl rfl, ?_⟩
        have hN : bld w b s o = none := by
          cases hq : bld w b s o with
          | none => rfl
          | some c => rw [hq] at c100; cases c100
        rw [hN] at hM
        have hM2 : MS A B μ := by
          have e : setB μ k b = μ := by rw [hb, setB_id]
          rw [← e]; exact hM
        refine PMi.mk hM2 ?_
        rw [← hz, hN]
        rfl
      refine EvP.s (fun _ _ K => Ev.go 2 rfl K) ?_
      refine EvP.ine rfl rfl rfl (by omega) (by omega) (fun c62 => ?_) (fun c62 => ?_)
      · refine EvP.s (fun _ _ K => Ev.go 2 rfl K) ?_
        refine EvP.ine rfl rfl rfl (by omega) (by omega) (fun c77 => ?_) (fun c77 => ?_)
        · refine EvP.s (fun _ _ K => Ev.go 1 rfl K) ?_
          have hbe : bld w b s o = none := by unfold bld; rw [if_neg c62, if_neg c77]
          exact J2 A B _ (by rw [hbe]; rfl) (by rw [hbe]; show MS A B (setB μ k b); rw [hb]; exact q.self k)
        refine EvP.s (fun _ _ K => Ev.go 4 rfl K) ?_
        obtain ⟨r1, h1, s1, A1, B1, e1, e2, hM1⟩ := e_M_layer (d + 1) x t q rfl rfl rfl hk hs ho hw hb
        subst e1
        subst e2
        refine EvP.s (fun _ _ K => Ev.cv (E' := me_M_layer) rfl mk_M_layer lv_1_203_1 rfl hp_5 rfl (s1) K) ?_
        refine EvP.zb rfl rfl (fun c88 => ?_) (fun c88 => ?_)
        · refine EvP.s (fun _ _ K => Ev.go 1 rfl K) ?_
          have hbe : bld w b s o = (lay w b 6 0 s o).map fun T => bru b T.length (fun i => T.getD i 0) := by unfold bld; rw [if_neg c62, if_pos c77]
          exact J2 A1 B1 _ (by rw [hbe, Option.isSome_map, c88]; rfl) (by rw [hbe]; exact hM1)
        refine EvP.s (fun _ _ K => Ev.go 2 rfl K) ?_
        have hbe : bld w b s o = (lay w b 6 0 s o).map fun T => bru b T.length (fun i => T.getD i 0) := by unfold bld; rw [if_neg c62, if_pos c77]
        exact J2 A1 B1 _ (by rw [hbe, Option.isSome_map, c88]; rfl) (by rw [hbe]; exact hM1)
      refine EvP.s (fun _ _ K => Ev.go 3 rfl K) ?_
      obtain ⟨r1, h1, s1, A1, e1, e2, hM1⟩ := e_M_fold d x t q rfl rfl hk hs hw hb c62
      subst e1
      subst e2
      refine EvP.s (fun _ _ K => Ev.cv (E' := me_M_fold) rfl mk_M_fold lv_1_199_1 rfl hp_5 rfl (s1) K) ?_
      refine EvP.s (fun _ _ K => Ev.go 1 rfl K) ?_
      have hbe : bld w b s o = (pel w b 32 s).map fun T => bnu b (fnu w b T) := by unfold bld; rw [if_pos c62]
      exact J2 A1 B _ (by rw [hbe, Option.isSome_map]) (by rw [hbe]; exact hM1)
    refine EvP.s (fun _ _ K => Ev.go 2 rfl K) ?_
    refine EvP.ine rfl rfl rfl (by omega) (by omega) (fun c46 => ?_) (fun c46 => ?_)
    · exact J (fun e => absurd e c46)
    refine EvP.s (fun _ _ K => Ev.go 2 rfl K) ?_
    refine EvP.leq rfl rfl rfl rfl (by omega) (by omega) (fun c52 => ?_) (fun c52 => ?_)
    · exact J (fun e => c52)
    refine EvP.s (fun _ _ K => Ev.go 1 rfl K) ?_
    refine ⟨_, _, Ev.reti rfl rfl, ?_⟩
    refine PMi.mk q ?_
    unfold an_build
    rw [if_neg (fun z => z (ofd c5)), if_pos (fun z => by have h1 := z.2.2.2; rw [tn_nI hk2, ← hb, ts_lN ho] at h1; exact c52 (h1 c46))]
  refine EvP.s (fun _ _ K => Ev.go 1 rfl K) ?_
  refine ⟨_, _, Ev.reti rfl rfl, ?_⟩
  refine PMi.mk q ?_
  unfold an_build
  rw [if_pos (ofn c5)]
