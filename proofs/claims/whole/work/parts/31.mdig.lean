/-! THE REFERENCE: count, digest -/
def sall (μ : sn_S) : Nat → Nat := orf (fun k => rin (sbk μ k))
def aall (μ : sn_S) : Nat → Nat
  | 0 => if snb μ = 0 then 0 else 4294967295
  | n + 1 => aall μ n &&& ain (sw μ) (sbk μ n)
theorem sall_lt (μ : sn_S) (n : Nat) : sall μ n < 2 ^ 32 := orf_lt (fun k => rin_lt _) n
theorem aall_lt (μ : sn_S) : ∀ n, aall μ n < 2 ^ 32
  | 0 => by unfold aall; split <;> omega
  | n + 1 => Nat.lt_of_le_of_lt Nat.and_le_left (aall_lt μ n)
def an_count (μ : sn_S) (c : Int32) : Int32 := if c = nI 0 then nI (sw μ).1 else if c = nI 1 then nI (snb μ) else if c = nI 2 then nI (pcnt (sall μ (snb μ))) else if c = nI 3 then nI (pcnt (aall μ (snb μ))) else - nI 102
def dgF (f : Nat → Int64) : Nat → Int64 → Int64
  | 0, h => h
  | n + 1, h => 31 * dgF f n h + f n
def dgL (w : sn_Lw) : Nat → Int64 → Int64
  | 0, h => h
  | l + 1, h => dgF (fun x => (nI (val (w.2.1 l) (w.2.2 l) x)).toInt64) 32 (dgL w l h)
def dgB (w : sn_Lw) (b : sn_Bk) (h : Int64) : Int64 := dgF (fun c => lN (kof w b c)) 4 (dgF (fun i => lN (br b i)) (bc b) (dgF (fun i => (nI (bn b i)).toInt64) (bm b) (dgF (fun c => (nI (abt b c)).toInt64) 6 h)))
def dgS (μ : sn_S) : Nat → Int64 → Int64
  | 0, h => h
  | k + 1, h => dgB (sw μ) (sbk μ k) (dgS μ k h)
def an_digest (μ : sn_S) : Int64 := dgF (fun c => (an_count μ (nI c)).toInt64) 4 (dgS μ (snb μ) (dgL (sw μ) (sw μ).1 367))
theorem e_M_howMany (d : Nat) (x : sn_X5) {A : sn_A2} {B : sn_B2} (t : sn_H) {μ : sn_S} (q : MS A B μ) (cv : Int32) : Sp (d + 5) me_M_howMany [.ref 5, .int cv] (hp x A B t) (some (.int (an_count μ cv))) (hp x A B t) := by
  have h8 := q.1.2.1
  refine Sp.of ok_M_howMany trivial rfl ?_
  have L : ∀ (n : Nat) (i : Nat) (v2 : Int64) (v4 : Int64) (iv : Int32), (i + n = snb μ) → (v2 = lN (sall μ i)) → (v4 = lN (aall μ i)) → (iv = nI i) → Ev o0 (d + 5) me_M_howMany 21 [.ref 5, .int cv, .long v2, .retAddr 0, .long v4, .retAddr 0, .int iv] [] (hp x A B t) (some (.int (an_count μ cv))) (hp x A B t) := by
    intro n
    induction n using Nat.strongRecOn with
    | _ n ih =>
      intro i v2 v4 iv h1 h2 h4 e3
      subst h2
      subst h4
      subst e3
      refine Ev.go 2 rfl ?_
      refine Ev.gf rfl lf_1_120_1 hp_5 rfl ?_
      refine Ev.ige rfl rfl q.2.2.1 (by omega) (by omega) (fun c27 => ?_) (fun c27 => ?_)
      · have ei : i = snb μ := by omega
        subst ei
        refine Ev.go 1 rfl ?_
        refine Ev.brn rfl rfl (fun c57 => ?_) (fun c57 => ?_)
        · refine Ev.go 2 rfl ?_
          refine Ev.brn rfl rfl (fun c69 => ?_) (fun c69 => ?_)
          · refine Ev.go 2 rfl ?_
            refine Ev.brn rfl rfl (fun c81 => ?_) (fun c81 => ?_)
            · refine Ev.go 2 rfl ?_
              refine Ev.brn rfl rfl (fun c93 => ?_) (fun c93 => ?_)
              · refine Ev.go 1 rfl ?_
                exact Ev.reti rfl (by unfold an_count; rw [if_neg (fun e => c57 (by rw [e]; rfl)), if_neg c69, if_neg c81, if_neg c93])
              refine Ev.go 1 rfl ?_
              refine Ev.cs (E' := me_M_ones) rfl mk_M_ones ls_1_127 rfl rfl (e_M_ones (d + 4) _ rfl (aall_lt _ _)) ?_
              refine Ev.go 1 rfl ?_
              exact Ev.reti rfl (by unfold an_count; rw [if_neg (fun e => c57 (by rw [e]; rfl)), if_neg c69, if_neg c81, if_pos c93])
            refine Ev.go 1 rfl ?_
            refine Ev.cs (E' := me_M_ones) rfl mk_M_ones ls_1_127 rfl rfl (e_M_ones (d + 4) _ rfl (sall_lt _ _)) ?_
            refine Ev.go 1 rfl ?_
            exact Ev.reti rfl (by unfold an_count; rw [if_neg (fun e => c57 (by rw [e]; rfl)), if_neg c69, if_pos c81])
          refine Ev.go 1 rfl ?_
          refine Ev.gf rfl lf_1_120_1 hp_5 rfl ?_
          refine Ev.go 1 rfl ?_
          exact Ev.reti rfl (by unfold an_count; rw [if_neg (fun e => c57 (by rw [e]; rfl)), if_pos c69]; exact q.2.2.1)
        refine Ev.go 1 rfl ?_
        refine Ev.gf rfl lf_1_83_1 hp_5 rfl ?_
        refine Ev.go 1 rfl ?_
        exact Ev.reti rfl (by unfold an_count; rw [if_pos (by rw [c57]; rfl)]; exact q.2.1.1)
      refine Ev.go 3 rfl ?_
      refine Ev.cv (E' := me_M_reallyIn) rfl mk_M_reallyIn lv_1_138_1 rfl hp_5 rfl (e_M_reallyIn (d + 4) x t (q.mk (by omega)) rfl) ?_
      refine Ev.go 5 rfl ?_
      refine Ev.cv (E' := me_M_allIn) rfl mk_M_allIn lv_1_207_1 rfl hp_5 rfl (e_M_allIn d x t (q.mk (by omega)) rfl) ?_
      refine Ev.go 4 rfl ?_
      exact ih (n - 1) (by omega) (i + 1) _ _ _ (by omega) (by rw [fb_orL]; rfl) (by rw [fb_andL]; rfl) (by rw [nI_add])
  refine Ev.go 3 rfl ?_
  refine Ev.gf rfl lf_1_120_1 hp_5 rfl ?_
  refine Ev.zne rfl q.2.2.1 (by omega) (fun c6 => ?_) (fun c6 => ?_)
  · refine Ev.go 4 rfl ?_
    exact L (snb μ) 0 _ _ _ (by omega) rfl (by unfold aall; rw [if_neg (by omega)]; rfl) rfl
  refine Ev.go 2 rfl ?_
  refine Ev.go 3 rfl ?_
  exact L (snb μ) 0 _ _ _ (by omega) rfl (by unfold aall; rw [if_pos c6]) rfl
theorem p_M_count (d : Nat) (x : sn_X5) {A : sn_A2} {B : sn_B2} (t : sn_H) {μ : sn_S} (q : MS A B μ) (cv : Int32) : Sp (d + 6) me_M_count [.ref 5, .int cv] (hp x A B t) (some (.int (an_count μ cv))) (hp x A B t) := by
  refine Sp.of ok_M_count trivial rfl ?_
  refine Ev.go 2 rfl ?_
  refine Ev.cv (E' := me_M_howMany) rfl mk_M_howMany lv_1_253_1 rfl hp_5 rfl (e_M_howMany d x t q cv) ?_
  exact Ev.reti rfl (rfl)
theorem e_M_mix (d : Nat) (x : sn_X5) (A : sn_A2) (B : sn_B2) (t : sn_H) {v h : Int64} (hB : B 0 0 = h) : Sp d me_M_mix [.ref 5, .long v] (hp x A B t) none (hp x A (uB B 0 (vp_updL (B 0) 0 (31 * h + v))) t) := by
  subst hB
  refine Sp.of ok_M_mix trivial rfl ?_
  refine Ev.go 3 rfl ?_
  refine Ev.gf rfl lf_1_256_1 hp_5 rfl ?_
  refine Ev.go 3 rfl ?_
  refine Ev.pf rfl lp_M_mix_256_1 hp_5 rfl rfl ?_
  rw [hps_h]
  exact Ev.retv rfl
theorem p_M_digest (d : Nat) (x : sn_X5) {A : sn_A2} {B : sn_B2} (t : sn_H) {μ : sn_S} (q : MS A B μ) : SpP (d + 6) me_M_digest [.ref 5] (hp x A B t) (PMl x t (an_digest μ, μ)) := by
  have h8 := q.1.2.1
  have h8l := q.1.1.1
  generalize hz : (an_digest μ, μ) = z
  refine SpP.of ok_M_digest (fun r h' z => z.rc) rfl ?_
  have L3 : ∀ (n : Nat) (B : sn_B2) (i : Nat) (iv : Int32) (v2 : Value), (i + n = 4) → (MS A B μ) → (B 0 0 = dgF (fun c => (an_count μ (nI c)).toInt64) i (dgS μ (snb μ) (dgL (sw μ) (sw μ).1 367))) → (iv = nI i) → EvP o0 (d + 6) me_M_digest 181 [.ref 5, .int iv, v2] [] (hp x A B t) (PMl x t z) := by
    intro n
    induction n using Nat.strongRecOn with
    | _ n ih =>
      intro B i iv v2 h1 hM hB e3
      subst e3
      refine EvP.s (fun _ _ K => Ev.go 2 rfl K) ?_
      refine EvP.ige rfl rfl rfl (by omega) (by omega) (fun c183 => ?_) (fun c183 => ?_)
      · refine EvP.s (fun _ _ K => Ev.go 1 rfl K) ?_
        refine EvP.s (fun _ _ K => Ev.gf rfl lf_1_256_1 hp_5 rfl K) ?_
        refine ⟨_, _, Ev.retl rfl rfl, ?_⟩
        refine PMl.mk hM ?_
        rw [← hz, hB, show i = 4 by omega]
        rfl
      refine EvP.s (fun _ _ K => Ev.go 3 rfl K) ?_
      refine EvP.s (fun _ _ K => Ev.cv (E' := me_M_howMany) rfl mk_M_howMany lv_1_253_1 rfl hp_5 rfl (e_M_howMany d x t hM _) K) ?_
      refine EvP.s (fun _ _ K => Ev.go 1 rfl K) ?_
      refine EvP.s (fun _ _ K => Ev.cv0 (E' := me_M_mix) rfl mk_M_mix lv_1_262_1 rfl hp_5 rfl (e_M_mix (d + 5) x A B t hB) K) ?_
      refine EvP.s (fun _ _ K => Ev.go 2 rfl K) ?_
      exact ih (n - 1) (by omega) _ (i + 1) _ _ (by omega) (hM.scrB _ rfl) (show vp_updL (B 0) 0 _ 0 = _ from pk_uLs) (by rw [nI_add])
  have L2 : ∀ (n : Nat) (B : sn_B2) (k : Nat) (kv : Int32) (v2 : Value), (k + n = snb μ) → (MS A B μ) → (B 0 0 = dgS μ k (dgL (sw μ) (sw μ).1 367)) → (kv = nI k) → EvP o0 (d + 6) me_M_digest 50 [.ref 5, .int kv, v2] [] (hp x A B t) (PMl x t z) := by
    intro n
    induction n using Nat.strongRecOn with
    | _ n ih =>
      intro B k kv v2 h1 hM hB e3
      subst e3
      refine EvP.s (fun _ _ K => Ev.go 2 rfl K) ?_
      refine EvP.s (fun _ _ K => Ev.gf rfl lf_1_120_1 hp_5 rfl K) ?_
      refine EvP.ige rfl rfl hM.2.2.1 (by omega) (by omega) (fun c55 => ?_) (fun c55 => ?_)
      · refine EvP.s (fun _ _ K => Ev.go 2 rfl K) ?_
        have e : k = snb μ := by omega
        subst e
        exact L3 4 B 0 _ _ (by omega) hM hB rfl
      have hk : k < snb μ := by omega
      have hm := (q.1.2.2 k hk).2.1
      have hbc := (q.1.2.2 k hk).2.2.2.2.2.2.2.2.2.2.1
      have K4 : ∀ (n2 : Nat) (B : sn_B2) (i : Nat) (iv : Int32), (i + n2 = 4) → (MS A B μ) → (B 0 0 = dgF (fun c => lN (kof (sw μ) (sbk μ k) c)) i (dgF (fun i => lN (br (sbk μ k) i)) (bc (sbk μ k)) (dgF (fun i => (nI (bn (sbk μ k) i)).toInt64) (bm (sbk μ k)) (dgF (fun c => (nI (abt (sbk μ k) c)).toInt64) 6 (dgS μ k (dgL (sw μ) (sw μ).1 367)))))) → (iv = nI i) → EvP o0 (d + 6) me_M_digest 152 [.ref 5, .int (nI k), .int iv] [] (hp x A B t) (PMl x t z) := by
        intro n2
        induction n2 using Nat.strongRecOn with
        | _ n2 ih2 =>
          intro B i iv g1 hM hB g3
          subst g3
          refine EvP.s (fun _ _ K => Ev.go 2 rfl K) ?_
          refine EvP.ige rfl rfl rfl (by omega) (by omega) (fun c154 => ?_) (fun c154 => ?_)
          · have e4 : i = 4 := by omega
            subst e4
            refine EvP.s (fun _ _ K => Ev.go 2 rfl K) ?_
            exact ih (n - 1) (by omega) B (k + 1) _ _ (by omega) hM hB (by rw [nI_add])
          refine EvP.s (fun _ _ K => Ev.go 4 rfl K) ?_
          refine EvP.s (fun _ _ K => Ev.cv (E' := me_M_keysOf) rfl mk_M_keysOf lv_1_210_1 rfl hp_5 rfl (e_M_keysOf d x t (hM.mk hk) rfl rfl (by omega)) K) ?_
          refine EvP.s (fun _ _ K => Ev.cv0 (E' := me_M_mix) rfl mk_M_mix lv_1_262_1 rfl hp_5 rfl (e_M_mix (d + 5) x A B t hB) K) ?_
          refine EvP.s (fun _ _ K => Ev.go 2 rfl K) ?_
          exact ih2 (n2 - 1) (by omega) _ (i + 1) _ (by omega) (hM.scrB _ rfl) (show vp_updL (B 0) 0 _ 0 = _ from pk_uLs) (by rw [nI_add])
      have K3 : ∀ (n2 : Nat) (B : sn_B2) (i : Nat) (iv : Int32), (i + n2 = bc (sbk μ k)) → (MS A B μ) → (B 0 0 = dgF (fun i => lN (br (sbk μ k) i)) i (dgF (fun i => (nI (bn (sbk μ k) i)).toInt64) (bm (sbk μ k)) (dgF (fun c => (nI (abt (sbk μ k) c)).toInt64) 6 (dgS μ k (dgL (sw μ) (sw μ).1 367))))) → (iv = nI i) → EvP o0 (d + 6) me_M_digest 119 [.ref 5, .int (nI k), .int iv] [] (hp x A B t) (PMl x t z) := by
        intro n2
        induction n2 using Nat.strongRecOn with
        | _ n2 ih2 =>
          intro B i iv g1 hM hB g3
          subst g3
          refine EvP.s (fun _ _ K => Ev.go 2 rfl K) ?_
          refine EvP.s (fun _ _ K => Ev.gf rfl lf_1_31_1 hp_5 rfl K) ?_
          refine EvP.s (fun _ _ K => Ev.go 1 rfl K) ?_
          refine EvP.s (fun _ _ K => Ev.iln rfl hp_13 rfl (by omega) (by omega) K) ?_
          rw [(hM.mk hk).2.2.2.1.2.2.2.2.2.1]
          refine EvP.ige rfl rfl rfl (by omega) (by omega) (fun c126 => ?_) (fun c126 => ?_)
          · refine EvP.s (fun _ _ K => Ev.go 2 rfl K) ?_
            have e4 : i = bc (sbk μ k) := by omega
            subst e4
            exact K4 4 B 0 _ (by omega) hM hB rfl
          refine EvP.s (fun _ _ K => Ev.go 2 rfl K) ?_
          refine EvP.s (fun _ _ K => Ev.gf rfl lf_1_34_1 hp_5 rfl K) ?_
          refine EvP.s (fun _ _ K => Ev.go 5 rfl K) ?_
          refine EvP.s (fun _ _ K => Ev.lln rfl hp_14 (by rw [pk_mul, nI_add]) (by omega) (by omega) K) ?_
          rw [(hM.mk hk).2.2.2.1.2.2.2.2.2.2 i (by omega)]
          refine EvP.s (fun _ _ K => Ev.cv0 (E' := me_M_mix) rfl mk_M_mix lv_1_262_1 rfl hp_5 rfl (e_M_mix (d + 5) x A B t hB) K) ?_
          refine EvP.s (fun _ _ K => Ev.go 2 rfl K) ?_
          exact ih2 (n2 - 1) (by omega) _ (i + 1) _ (by omega) (hM.scrB _ rfl) (show vp_updL (B 0) 0 _ 0 = _ from pk_uLs) (by rw [nI_add])
      have K2 : ∀ (n2 : Nat) (B : sn_B2) (i : Nat) (iv : Int32), (i + n2 = bm (sbk μ k)) → (MS A B μ) → (B 0 0 = dgF (fun i => (nI (bn (sbk μ k) i)).toInt64) i (dgF (fun c => (nI (abt (sbk μ k) c)).toInt64) 6 (dgS μ k (dgL (sw μ) (sw μ).1 367)))) → (iv = nI i) → EvP o0 (d + 6) me_M_digest 85 [.ref 5, .int (nI k), .int iv] [] (hp x A B t) (PMl x t z) := by
        intro n2
        induction n2 using Nat.strongRecOn with
        | _ n2 ih2 =>
          intro B i iv g1 hM hB g3
          subst g3
          refine EvP.s (fun _ _ K => Ev.go 2 rfl K) ?_
          refine EvP.s (fun _ _ K => Ev.gf rfl lf_1_19_1 hp_5 rfl K) ?_
          refine EvP.s (fun _ _ K => Ev.go 1 rfl K) ?_
          refine EvP.s (fun _ _ K => Ev.iln rfl hp_9 rfl (by omega) (by omega) K) ?_
          rw [(hM.mk hk).2.2.2.1.2.1]
          refine EvP.ige rfl rfl rfl (by omega) (by omega) (fun c92 => ?_) (fun c92 => ?_)
          · refine EvP.s (fun _ _ K => Ev.go 2 rfl K) ?_
            have e4 : i = bm (sbk μ k) := by omega
            subst e4
            exact K3 (bc (sbk μ k)) B 0 _ (by omega) hM hB rfl
          refine EvP.s (fun _ _ K => Ev.go 2 rfl K) ?_
          refine EvP.s (fun _ _ K => Ev.gf rfl lf_1_25_1 hp_5 rfl K) ?_
          refine EvP.s (fun _ _ K => Ev.go 5 rfl K) ?_
          refine EvP.s (fun _ _ K => Ev.iln rfl hp_11 (by rw [pk_mul, nI_add]) (by omega) (by omega) K) ?_
          rw [(hM.mk hk).2.2.2.1.2.2.2.1 i (by omega)]
          refine EvP.s (fun _ _ K => Ev.go 1 rfl K) ?_
          refine EvP.s (fun _ _ K => Ev.cv0 (E' := me_M_mix) rfl mk_M_mix lv_1_262_1 rfl hp_5 rfl (e_M_mix (d + 5) x A B t hB) K) ?_
          refine EvP.s (fun _ _ K => Ev.go 2 rfl K) ?_
          exact ih2 (n2 - 1) (by omega) _ (i + 1) _ (by omega) (hM.scrB _ rfl) (show vp_updL (B 0) 0 _ 0 = _ from pk_uLs) (by rw [nI_add])
      have K1 : ∀ (n2 : Nat) (B : sn_B2) (i : Nat) (iv : Int32), (i + n2 = 6) → (MS A B μ) → (B 0 0 = dgF (fun c => (nI (abt (sbk μ k) c)).toInt64) i (dgS μ k (dgL (sw μ) (sw μ).1 367))) → (iv = nI i) → EvP o0 (d + 6) me_M_digest 60 [.ref 5, .int (nI k), .int iv] [] (hp x A B t) (PMl x t z) := by
        intro n2
        induction n2 using Nat.strongRecOn with
        | _ n2 ih2 =>
          intro B i iv g1 hM hB g3
          subst g3
          refine EvP.s (fun _ _ K => Ev.go 2 rfl K) ?_
          refine EvP.ige rfl rfl rfl (by omega) (by omega) (fun c63 => ?_) (fun c63 => ?_)
          · refine EvP.s (fun _ _ K => Ev.go 2 rfl K) ?_
            have e4 : i = 6 := by omega
            subst e4
            exact K2 (bm (sbk μ k)) B 0 _ (by omega) hM hB rfl
          refine EvP.s (fun _ _ K => Ev.go 4 rfl K) ?_
          refine EvP.s (fun _ _ K => Ev.cv (E' := me_M_aboutOf) rfl mk_M_aboutOf lv_1_142_1 rfl hp_5 rfl (e_M_aboutOf (d + 4) x t (hM.mk hk) rfl rfl (by omega)) K) ?_
          refine EvP.s (fun _ _ K => Ev.go 1 rfl K) ?_
          refine EvP.s (fun _ _ K => Ev.cv0 (E' := me_M_mix) rfl mk_M_mix lv_1_262_1 rfl hp_5 rfl (e_M_mix (d + 5) x A B t hB) K) ?_
          refine EvP.s (fun _ _ K => Ev.go 2 rfl K) ?_
          exact ih2 (n2 - 1) (by omega) _ (i + 1) _ (by omega) (hM.scrB _ rfl) (show vp_updL (B 0) 0 _ 0 = _ from pk_uLs) (by rw [nI_add])
      refine EvP.s (fun _ _ K => Ev.go 2 rfl K) ?_
      exact K1 6 B 0 _ (by omega) hM hB rfl
  have L1 : ∀ (n : Nat) (B : sn_B2) (l : Nat) (lv : Int32) (v2 : Value), (l + n = (sw μ).1) → (MS A B μ) → (B 0 0 = dgL (sw μ) l 367) → (lv = nI l) → EvP o0 (d + 6) me_M_digest 9 [.ref 5, .int lv, v2] [] (hp x A B t) (PMl x t z) := by
    intro n
    induction n using Nat.strongRecOn with
    | _ n ih =>
      intro B l lv v2 h1 hM hB e3
      subst e3
      refine EvP.s (fun _ _ K => Ev.go 2 rfl K) ?_
      refine EvP.s (fun _ _ K => Ev.gf rfl lf_1_83_1 hp_5 rfl K) ?_
      refine EvP.ige rfl rfl hM.2.1.1 (by omega) (by omega) (fun c14 => ?_) (fun c14 => ?_)
      · refine EvP.s (fun _ _ K => Ev.go 2 rfl K) ?_
        have e : l = (sw μ).1 := by omega
        subst e
        exact L2 (snb μ) B 0 _ _ (by omega) hM hB rfl
      refine EvP.s (fun _ _ K => Ev.go 2 rfl K) ?_
      have L1i : ∀ (n2 : Nat) (B : sn_B2) (i : Nat) (iv : Int32), (i + n2 = 32) → (MS A B μ) → (B 0 0 = dgF (fun x => (nI (val ((sw μ).2.1 l) ((sw μ).2.2 l) x)).toInt64) i (dgL (sw μ) l 367)) → (iv = nI i) → EvP o0 (d + 6) me_M_digest 19 [.ref 5, .int (nI l), .int iv] [] (hp x A B t) (PMl x t z) := by
        intro n2
        induction n2 using Nat.strongRecOn with
        | _ n2 ih2 =>
          intro B i iv g1 hM hB g3
          subst g3
          refine EvP.s (fun _ _ K => Ev.go 2 rfl K) ?_
          refine EvP.ige rfl rfl rfl (by omega) (by omega) (fun c22 => ?_) (fun c22 => ?_)
          · have e32 : i = 32 := by omega
            subst e32
            refine EvP.s (fun _ _ K => Ev.go 2 rfl K) ?_
            exact ih (n - 1) (by omega) B (l + 1) _ _ (by omega) hM hB (by rw [nI_add])
          refine EvP.s (fun _ _ K => Ev.go 4 rfl K) ?_
          refine EvP.s (fun _ _ K => Ev.cv (E' := me_M_valueOf) rfl mk_M_valueOf lv_1_96_1 rfl hp_5 rfl (e_M_valueOf (d + 5) x t hM.1.1 hM.2.1 rfl rfl (by omega) (by omega)) K) ?_
          refine EvP.s (fun _ _ K => Ev.go 1 rfl K) ?_
          refine EvP.s (fun _ _ K => Ev.cv0 (E' := me_M_mix) rfl mk_M_mix lv_1_262_1 rfl hp_5 rfl (e_M_mix (d + 5) x A B t hB) K) ?_
          refine EvP.s (fun _ _ K => Ev.go 2 rfl K) ?_
          exact ih2 (n2 - 1) (by omega) _ (i + 1) _ (by omega) (hM.scrB _ rfl) (show vp_updL (B 0) 0 _ 0 = _ from pk_uLs) (by rw [nI_add])
      exact L1i 32 B 0 _ (by omega) hM hB rfl
  refine EvP.s (fun _ _ K => Ev.go 2 rfl K) ?_
  refine EvP.s (fun _ _ K => Ev.pf rfl lp_M_digest_256_1 hp_5 rfl rfl K) ?_
  rw [hps_h]
  refine EvP.s (fun _ _ K => Ev.go 2 rfl K) ?_
  exact L1 (sw μ).1 _ 0 _ _ (by omega) (q.scrB _ rfl) (show vp_updL (B 0) 0 _ 0 = _ from pk_uLs) rfl
