/-! THE REFERENCE: spoil -/
theorem MS.b14 {A : sn_A2} {B B2 : sn_B2} {μ : sn_S} (h : MS A B μ) (e : B2 14 = B 14) : MS A B2 μ := by
  unfold MS MB
  rw [e]
  exact h
section EVR
variable {Ω : sn_O} {d : Nat} {E : sn_E} {pc : Nat} {lv rest : List Value} {h : sn_H} {P : Option Value → sn_H → Prop} {len nx tg len2 nx2 tg2 : Nat}
theorem EvP.req {x y : Int64} {o : Int} (hi : sn_tg E.2.1 pc = some (.lcmp, len, nx, tg)) (hi2 : sn_tg E.2.1 nx = some (.ifCond .eq o, len2, nx2, tg2)) (K1 : x = y → EvP Ω d E tg2 lv rest h P) (K2 : ¬ x = y → EvP Ω d E nx2 lv rest h P) : EvP Ω d E pc lv (.long y :: .long x :: rest) h P := by
  by_cases c : x = y
  · exact EvP.s (fun _ _ K => Ev.req hi hi2 (fun _ => K) (fun q => absurd c q)) (K1 c)
  · exact EvP.s (fun _ _ K => Ev.req hi hi2 (fun q => absurd q c) (fun _ => K)) (K2 c)
theorem EvP.rne {x y : Int64} {o : Int} (hi : sn_tg E.2.1 pc = some (.lcmp, len, nx, tg)) (hi2 : sn_tg E.2.1 nx = some (.ifCond .ne o, len2, nx2, tg2)) (K1 : ¬ x = y → EvP Ω d E tg2 lv rest h P) (K2 : x = y → EvP Ω d E nx2 lv rest h P) : EvP Ω d E pc lv (.long y :: .long x :: rest) h P := by
  by_cases c : x = y
  · exact EvP.s (fun _ _ K => Ev.rne hi hi2 (fun q => absurd c q) (fun _ => K)) (K2 c)
  · exact EvP.s (fun _ _ K => Ev.rne hi hi2 (fun _ => K) (fun q => absurd q c)) (K1 c)
end EVR
def PLa (x : sn_X5) (A : sn_A2) (B : sn_B2) (t : sn_H) (w : sn_Lw) (b : sn_Bk) (r : Option Value) (h' : sn_H) : Prop := r = none ∧ ∃ B2, h' = hp x A B2 t ∧ (∀ y, y < 32 → B2 19 y = lN (pls w b y)) ∧ B2 14 = B 14
theorem PLa.rc {x : sn_X5} {A : sn_A2} {B : sn_B2} {t : sn_H} {w : sn_Lw} {b : sn_Bk} {r : Option Value} {h' : sn_H} (q : PLa x A B t w b r h') : sn_rc none r := by
  obtain ⟨rfl, _⟩ := q; trivial
theorem e_M_layPlaces (d : Nat) (x : sn_X5) {A : sn_A2} {B : sn_B2} (t : sn_H) {μ : sn_S} (q : MS A B μ) {k : Nat} {kv : Int32} (e1 : kv = nI k) (hk : k < snb μ) : SpP (d + 3) me_M_layPlaces [.ref 5, .int kv] (hp x A B t) (PLa x A B t (sw μ) (sbk μ k)) := by
  subst e1
  refine SpP.of ok_M_layPlaces (fun r h' z => z.rc) rfl ?_
  have L : ∀ (n : Nat) (B2 : sn_B2) (i : Nat) (iv : Int32), (i + n = 32) → (MS A B2 μ) → (∀ y, y < i → B2 19 y = lN (pls (sw μ) (sbk μ k) y)) → (B2 14 = B 14) → (iv = nI i) → EvP o0 (d + 3) me_M_layPlaces 2 [.ref 5, .int (nI k), .int iv] [] (hp x A B2 t) (PLa x A B t (sw μ) (sbk μ k)) := by
    intro n
    induction n using Nat.strongRecOn with
    | _ n ih =>
      intro B2 i iv h1 hM hP h14 e3
      subst e3
      refine EvP.s (fun _ _ K => Ev.go 2 rfl K) ?_
      refine EvP.ige rfl rfl rfl (by omega) (by omega) (fun c5 => ?_) (fun c5 => ?_)
      · refine ⟨_, _, Ev.retv rfl, ?_⟩
        exact ⟨rfl, B2, rfl, fun y hy => hP y (by omega), h14⟩
      refine EvP.s (fun _ _ K => Ev.go 1 rfl K) ?_
      refine EvP.s (fun _ _ K => Ev.gf rfl lf_1_50_1 hp_5 rfl K) ?_
      refine EvP.s (fun _ _ K => Ev.go 4 rfl K) ?_
      refine EvP.s (fun _ _ K => Ev.cv (E' := me_M_placesOf) rfl mk_M_placesOf lv_1_166_1 rfl hp_5 rfl (e_M_placesOf d x t (hM.mk hk) rfl rfl (by omega)) K) ?_
      refine EvP.s (fun _ _ K => Ev.lsn rfl hp_19 rfl (by omega) (by omega) K) ?_
      rw [hps_19]
      refine EvP.s (fun _ _ K => Ev.go 2 rfl K) ?_
      refine ih (n - 1) (by omega) (uB B2 19 (vp_updL (B2 19) i (lN (pls (sw μ) (sbk μ k) i)))) (i + 1) _ (by omega) (hM.scrB _ rfl) (fun y hy => ?_) h14 (by rw [nI_add])
      show vp_updL (B2 19) i (lN (pls (sw μ) (sbk μ k) i)) y = _
      by_cases e : y = i
      · subst e; exact pk_uLs
      · rw [pk_uLn e]; exact hP y (by omega)
  refine EvP.s (fun _ _ K => Ev.go 2 rfl K) ?_
  exact L 32 B 0 _ (by omega) q (fun y hy => absurd hy (Nat.not_lt_zero y)) rfl rfl
def sLx (P : Nat → Nat) (miss key sz a b c u : Nat) : Prop := ∃ a' b' c', sTr sz a' b' c' ∧ sGd P miss key a' b' c' u ∧ (a' < a ∨ (a' = a ∧ (b' < b ∨ (b' = b ∧ c' < c))))
theorem sLx_iff {P : Nat → Nat} {miss key sz a b c a2 b2 c2 : Nat} (h : ∀ a' b' c', sTr sz a' b' c' → ((a' < a ∨ (a' = a ∧ (b' < b ∨ (b' = b ∧ c' < c)))) ↔ (a' < a2 ∨ (a' = a2 ∧ (b' < b2 ∨ (b' = b2 ∧ c' < c2)))))) (u : Nat) : sLx P miss key sz a b c u ↔ sLx P miss key sz a2 b2 c2 u := by
  constructor
  · rintro ⟨a', b', c', h1, h2, h3⟩
    exact ⟨a', b', c', h1, h2, (h a' b' c' h1).mp h3⟩
  · rintro ⟨a', b', c', h1, h2, h3⟩
    exact ⟨a', b', c', h1, h2, (h a' b' c' h1).mpr h3⟩
theorem sLx_skip {P : Nat → Nat} {miss key sz a b c : Nat} (hn : ∀ u, ¬ sGd P miss key a b c u) (u : Nat) : sLx P miss key sz a b c u ↔ sLx P miss key sz a b (c + 1) u := by
  constructor
  · rintro ⟨a', b', c', h1, h2, h3⟩
    exact ⟨a', b', c', h1, h2, by omega⟩
  · rintro ⟨a', b', c', h1, h2, h3⟩
    by_cases e : a' = a ∧ b' = b ∧ c' = c
    · obtain ⟨rfl, rfl, rfl⟩ := e
      exact absurd h2 (hn u)
    · exact ⟨a', b', c', h1, h2, by omega⟩
theorem sLx_more {P : Nat → Nat} {miss key sz a b c v : Nat} (ht : sTr sz a b c) (hg : sGd P miss key a b c v) (u : Nat) : sLx P miss key sz a b (c + 1) u ↔ (sLx P miss key sz a b c u ∨ u = v) := by
  constructor
  · rintro ⟨a', b', c', h1, h2, h3⟩
    by_cases e : a' = a ∧ b' = b ∧ c' = c
    · obtain ⟨rfl, rfl, rfl⟩ := e
      exact Or.inr (h2.2.1.trans hg.2.1.symm)
    · exact Or.inl ⟨a', b', c', h1, h2, by omega⟩
  · rintro (⟨a', b', c', h1, h2, h3⟩ | rfl)
    · exact ⟨a', b', c', h1, h2, by omega⟩
    · exact ⟨a, b, c, ht, hg, by omega⟩
theorem sLx_lt {P : Nat → Nat} {miss key sz a b c u : Nat} (h : sLx P miss key sz a b c u) : u < 2 ^ 32 := by
  obtain ⟨a', b', c', h1, h2, _⟩ := h
  rw [h2.2.1]
  exact Nat.or_lt_two_pow (Nat.or_lt_two_pow (wb_lt2 h1.1) (wb_lt2 h1.2.1)) (wb_lt2 h1.2.2.1)
theorem onL_m1 {o : Option Nat} (h : ∀ v, o = some v → v < 2 ^ 32) : onL o = -1 ↔ o = none := by
  cases o with
  | none => exact ⟨fun _ => rfl, fun _ => rfl⟩
  | some v =>
    refine ⟨fun e => ?_, fun e => by cases e⟩
    have hv := h v rfl
    have h1 : (lN v).toInt = (-1 : Int64).toInt := congrArg Int64.toInt e
    rw [pk_lT (by omega)] at h1
    have h2 : (-1 : Int64).toInt = -1 := by decide +kernel
    omega
def PSo (h : sn_H) (S : Nat → Prop) (r : Option Value) (h' : sn_H) : Prop := h' = h ∧ ∃ o, r = some (.long (onL o)) ∧ sLs S o
theorem PSo.rc {h : sn_H} {S : Nat → Prop} {r : Option Value} {h' : sn_H} (q : PSo h S r h') : sn_rc (some .long) r := by
  obtain ⟨_, _, rfl, _⟩ := q; trivial
set_option maxHeartbeats 4000000 in
theorem e_M_spoilBy (d : Nat) (x : sn_X5) {A : sn_A2} {B : sn_B2} (t : sn_H) {P : Nat → Nat} {miss key sz : Nat} {kv zv : Int32} {mv : Int64} (e1 : kv = nI key) (e2 : mv = lN miss) (e3 : zv = nI sz) (hk : key < 32) (hmiss : miss < 2 ^ 32) (hz1 : 1 ≤ sz) (hz3 : sz ≤ 3) (hP : ∀ y, y < 32 → B 19 y = lN (P y)) : SpP (d + 1) me_M_spoilBy [.ref 5, .int kv, .long mv, .int zv] (hp x A B t) (PSo (hp x A B t) (sRv P miss key sz)) := by
  subst e1; subst e2; subst e3
  refine SpP.of ok_M_spoilBy (fun r h' z => z.rc) rfl ?_
  have La : ∀ (n : Nat) (a : Nat) (o : Option Nat) (av : Int32) (v8 : Value) (v9 : Value) (v10 : Value) (v12 : Value), (a + n = 32) → (sLs (sLx P miss key sz a 0 0) o) → (av = nI a) → EvP o0 (d + 1) me_M_spoilBy 8 [.ref 5, .int (nI key), .long (lN miss), .retAddr 0, .int (nI sz), .long (onL o), .retAddr 0, .int av, v8, v9, v10, .retAddr 0, v12] [] (hp x A B t) (PSo (hp x A B t) (sRv P miss key sz)) := by
    intro n
    induction n using Nat.strongRecOn with
    | _ n ih =>
      intro a o av v8 v9 v10 v12 k3 hL e3
      subst e3
      refine EvP.s (fun _ _ K => Ev.go 2 rfl K) ?_
      refine EvP.ige rfl rfl rfl (by omega) (by omega) (fun c12 => ?_) (fun c12 => ?_)
      · refine EvP.s (fun _ _ K => Ev.go 1 rfl K) ?_
        refine ⟨_, _, Ev.retl rfl rfl, ?_⟩
        refine ⟨rfl, o, rfl, hL.cong (fun u => ?_)⟩
        constructor
        · rintro ⟨a', b', c', h1, h2, _⟩
          exact ⟨a', b', c', h1, h2⟩
        · rintro ⟨a', b', c', h1, h2⟩
          exact ⟨a', b', c', h1, h2, by have := h1.1; omega⟩
      have ha32 : a < 32 := by omega
      have Lb : ∀ (n2 : Nat) (b : Nat) (o : Option Nat) (bv : Int32) (v9 : Value) (v10 : Value) (v12 : Value), (b + n2 = 33) → (1 < sz → a < b) → (sz ≤ 1 → a ≤ b) → (sLs (sLx P miss key sz a b 0) o) → (bv = nI b) → EvP o0 (d + 1) me_M_spoilBy 32 [.ref 5, .int (nI key), .long (lN miss), .retAddr 0, .int (nI sz), .long (onL o), .retAddr 0, .int (nI a), .int bv, v9, v10, .retAddr 0, v12] [] (hp x A B t) (PSo (hp x A B t) (sRv P miss key sz)) := by
        intro n2
        induction n2 using Nat.strongRecOn with
        | _ n2 ih2 =>
          intro b o bv v9 v10 v12 k2 kb1 kb2 hL e3
          subst e3
          refine EvP.s (fun _ _ K => Ev.go 3 rfl K) ?_
          refine EvP.ile rfl rfl rfl (by omega) (by omega) (fun c37 => ?_) (fun c37 => ?_)
          · refine EvP.s (fun _ _ K => Ev.go 3 rfl K) ?_
            refine EvP.ige rfl rfl (by first | rw [nI_add] | rfl) (by omega) (by omega) (fun c49 => ?_) (fun c49 => ?_)
            · refine EvP.s (fun _ _ K => Ev.go 2 rfl K) ?_
              refine ih (n - 1) (by omega) (a + 1) o _ _ _ _ _ (by omega) (hL.cong (sLx_iff (fun a1 b1 c1 t1 => ?_))) (by rw [nI_add])
              obtain ⟨t1, t2, t3, t4, t5, t6, t7⟩ := t1
              omega
            have hb32 : b < 32 := by omega
            have hab1 : 1 < sz → a < b := kb1
            have hab2 : sz ≤ 1 → b = a := fun q => by omega
            have Lc : ∀ (n : Nat) (c : Nat) (o : Option Nat) (cv : Int32) (v10 : Value) (v12 : Value), (c + n = 33) → (2 < sz → b < c) → (sz ≤ 2 → b ≤ c) → (sLs (sLx P miss key sz a b c) o) → (cv = nI c) → EvP o0 (d + 1) me_M_spoilBy 69 [.ref 5, .int (nI key), .long (lN miss), .retAddr 0, .int (nI sz), .long (onL o), .retAddr 0, .int (nI a), .int (nI b), .int cv, v10, .retAddr 0, v12] [] (hp x A B t) (PSo (hp x A B t) (sRv P miss key sz)) := by
              intro n
              induction n using Nat.strongRecOn with
              | _ n ih =>
                intro c o cv v10 v12 k1 kc1 kc2 hL e3
                subst e3
                have hv32 : ∀ v, o = some v → v < 2 ^ 32 := fun v hv => sLx_lt (hL.1 v hv)
                refine EvP.s (fun _ _ K => Ev.go 3 rfl K) ?_
                refine EvP.ile rfl rfl rfl (by omega) (by omega) (fun c74 => ?_) (fun c74 => ?_)
                · refine EvP.s (fun _ _ K => Ev.go 3 rfl K) ?_
                  refine EvP.ige rfl rfl (by first | rw [nI_add] | rfl) (by omega) (by omega) (fun c86 => ?_) (fun c86 => ?_)
                  · refine EvP.s (fun _ _ K => Ev.go 2 rfl K) ?_
                    refine ih2 (n2 - 1) (by omega) (b + 1) o _ _ _ _ (by omega) (fun q => by omega) (fun q => by omega) (hL.cong (sLx_iff (fun a1 b1 c1 t1 => ?_))) (by rw [nI_add])
                    obtain ⟨t1, t2, t3, t4, t5, t6, t7⟩ := t1
                    omega
                  have hc32 : c < 32 := by omega
                  have ht : sTr sz a b c := ⟨by omega, by omega, hc32, hab1, hab2, kc1, fun q => by omega⟩
                  have hu : 2 ^ a ||| 2 ^ b ||| 2 ^ c < 2 ^ 32 := Nat.or_lt_two_pow (Nat.or_lt_two_pow (wb_lt2 (by omega)) (wb_lt2 (by omega))) (wb_lt2 hc32)
                  refine EvP.s (fun _ _ K => Ev.go 11 rfl K) ?_
                  rw [sh1 (by omega), sh1 (by omega), sh1 (by omega), fb_orL, fb_orL]
                  refine EvP.s (fun _ _ K => Ev.go 1 rfl K) ?_
                  skip
                  refine EvP.s (fun _ _ K => Ev.go 2 rfl K) ?_
                  refine EvP.s (fun _ _ K => Ev.gf rfl lf_1_50_1 hp_5 rfl K) ?_
                  refine EvP.s (fun _ _ K => Ev.go 1 rfl K) ?_
                  refine EvP.s (fun _ _ K => Ev.lln rfl hp_19 rfl (by omega) (by omega) K) ?_
                  rw [hP a (by omega)]
                  refine EvP.s (fun _ _ K => Ev.go 1 rfl K) ?_
                  refine EvP.s (fun _ _ K => Ev.gf rfl lf_1_50_1 hp_5 rfl K) ?_
                  refine EvP.s (fun _ _ K => Ev.go 1 rfl K) ?_
                  refine EvP.s (fun _ _ K => Ev.lln rfl hp_19 rfl (by omega) (by omega) K) ?_
                  rw [hP b (by omega)]
                  refine EvP.s (fun _ _ K => Ev.go 2 rfl K) ?_
                  refine EvP.s (fun _ _ K => Ev.gf rfl lf_1_50_1 hp_5 rfl K) ?_
                  refine EvP.s (fun _ _ K => Ev.go 1 rfl K) ?_
                  refine EvP.s (fun _ _ K => Ev.lln rfl hp_19 rfl (by omega) (by omega) K) ?_
                  rw [hP c (by omega)]
                  refine EvP.s (fun _ _ K => Ev.go 4 rfl K) ?_
                  rw [fb_orL, fb_orL, lN_andn]
                  refine EvP.s (fun _ _ K => Ev.go 1 rfl K) ?_
                  refine EvP.lne rfl rfl rfl rfl (by have := andn_lt (b := P a ||| P b ||| P c) hmiss; omega) (by omega) (fun c135 => ?_) (fun c135 => ?_)
                  · refine EvP.s (fun _ _ K => Ev.go 3 rfl K) ?_
                    refine EvP.s (fun _ _ K => Ev.bt rfl rfl rfl K) ?_
                    refine EvP.s (fun _ _ K => Ev.go 2 rfl K) ?_
                    exact ih (n - 1) (by omega) (c + 1) o _ _ _ (by omega) (fun q => by omega) (fun q => by omega) (hL.cong (sLx_skip (fun u z => c135 z.1))) (by rw [nI_add])
                  refine EvP.s (fun _ _ K => Ev.go 2 rfl K) ?_
                  refine EvP.s (fun _ _ K => Ev.go 2 rfl K) ?_
                  refine EvP.s (fun _ _ K => Ev.bf rfl rfl (by decide) K) ?_
                  refine EvP.s (fun _ _ K => Ev.go 2 rfl K) ?_
                  refine EvP.s (fun _ _ K => Ev.cs (E' := me_M_has) rfl mk_M_has ls_1_100 rfl rfl (e_M_has d _ rfl rfl (by omega) (by omega)) K) ?_
                  refine EvP.zn rfl rfl (fun c157 => ?_) (fun c157 => ?_)
                  · refine EvP.s (fun _ _ K => Ev.go 2 rfl K) ?_
                    exact ih (n - 1) (by omega) (c + 1) o _ _ _ (by omega) (fun q => by omega) (fun q => by omega) (hL.cong (sLx_skip (fun u z => by have := z.2.2; rw [z.2.1, c157] at this; cases this))) (by rw [nI_add])
                  have hg : sGd P miss key a b c (2 ^ a ||| 2 ^ b ||| 2 ^ c) := ⟨c135, rfl, c157⟩
                  refine EvP.s (fun _ _ K => Ev.go 2 rfl K) ?_
                  refine EvP.req rfl rfl (fun c165 => ?_) (fun c165 => ?_)
                  · refine EvP.s (fun _ _ K => Ev.go 4 rfl K) ?_
                    exact ih (n - 1) (by omega) (c + 1) (some (2 ^ a ||| 2 ^ b ||| 2 ^ c)) _ _ _ (by omega) (fun q => by omega) (fun q => by omega) (hL.add (sLx_more ht hg) (fun w hw => by rw [(onL_m1 hv32).mp c165] at hw; cases hw)) (by rw [nI_add])
                  obtain ⟨v, rfl⟩ : ∃ v, o = some v := by
                    cases o with
                    | none => exact absurd rfl c165
                    | some v => exact ⟨v, rfl⟩
                  refine EvP.s (fun _ _ K => Ev.go 2 rfl K) ?_
                  refine EvP.lge rfl rfl rfl rfl (by omega) (by have := hv32 v rfl; omega) (fun c173 => ?_) (fun c173 => ?_)
                  · refine EvP.s (fun _ _ K => Ev.go 2 rfl K) ?_
                    exact ih (n - 1) (by omega) (c + 1) (some v) _ _ _ (by omega) (fun q => by omega) (fun q => by omega) (hL.old (sLx_more ht hg) rfl c173) (by rw [nI_add])
                  refine EvP.s (fun _ _ K => Ev.go 4 rfl K) ?_
                  exact ih (n - 1) (by omega) (c + 1) (some (2 ^ a ||| 2 ^ b ||| 2 ^ c)) _ _ _ (by omega) (fun q => by omega) (fun q => by omega) (hL.add (sLx_more ht hg) (fun w hw => by cases hw; exact c173)) (by rw [nI_add])
                refine EvP.s (fun _ _ K => Ev.go 2 rfl K) ?_
                refine EvP.ige rfl rfl (by first | rw [nI_add] | rfl) (by omega) (by omega) (fun c86 => ?_) (fun c86 => ?_)
                · refine EvP.s (fun _ _ K => Ev.go 2 rfl K) ?_
                  refine ih2 (n2 - 1) (by omega) (b + 1) o _ _ _ _ (by omega) (fun q => by omega) (fun q => by omega) (hL.cong (sLx_iff (fun a1 b1 c1 t1 => ?_))) (by rw [nI_add])
                  obtain ⟨t1, t2, t3, t4, t5, t6, t7⟩ := t1
                  omega
                have hc32 : c < 32 := by omega
                have ht : sTr sz a b c := ⟨by omega, by omega, hc32, hab1, hab2, kc1, fun q => by omega⟩
                have hu : 2 ^ a ||| 2 ^ b ||| 2 ^ c < 2 ^ 32 := Nat.or_lt_two_pow (Nat.or_lt_two_pow (wb_lt2 (by omega)) (wb_lt2 (by omega))) (wb_lt2 hc32)
                refine EvP.s (fun _ _ K => Ev.go 11 rfl K) ?_
                rw [sh1 (by omega), sh1 (by omega), sh1 (by omega), fb_orL, fb_orL]
                refine EvP.s (fun _ _ K => Ev.go 1 rfl K) ?_
                skip
                refine EvP.s (fun _ _ K => Ev.go 2 rfl K) ?_
                refine EvP.s (fun _ _ K => Ev.gf rfl lf_1_50_1 hp_5 rfl K) ?_
                refine EvP.s (fun _ _ K => Ev.go 1 rfl K) ?_
                refine EvP.s (fun _ _ K => Ev.lln rfl hp_19 rfl (by omega) (by omega) K) ?_
                rw [hP a (by omega)]
                refine EvP.s (fun _ _ K => Ev.go 1 rfl K) ?_
                refine EvP.s (fun _ _ K => Ev.gf rfl lf_1_50_1 hp_5 rfl K) ?_
                refine EvP.s (fun _ _ K => Ev.go 1 rfl K) ?_
                refine EvP.s (fun _ _ K => Ev.lln rfl hp_19 rfl (by omega) (by omega) K) ?_
                rw [hP b (by omega)]
                refine EvP.s (fun _ _ K => Ev.go 2 rfl K) ?_
                refine EvP.s (fun _ _ K => Ev.gf rfl lf_1_50_1 hp_5 rfl K) ?_
                refine EvP.s (fun _ _ K => Ev.go 1 rfl K) ?_
                refine EvP.s (fun _ _ K => Ev.lln rfl hp_19 rfl (by omega) (by omega) K) ?_
                rw [hP c (by omega)]
                refine EvP.s (fun _ _ K => Ev.go 4 rfl K) ?_
                rw [fb_orL, fb_orL, lN_andn]
                refine EvP.s (fun _ _ K => Ev.go 1 rfl K) ?_
                refine EvP.lne rfl rfl rfl rfl (by have := andn_lt (b := P a ||| P b ||| P c) hmiss; omega) (by omega) (fun c135 => ?_) (fun c135 => ?_)
                · refine EvP.s (fun _ _ K => Ev.go 3 rfl K) ?_
                  refine EvP.s (fun _ _ K => Ev.bt rfl rfl rfl K) ?_
                  refine EvP.s (fun _ _ K => Ev.go 2 rfl K) ?_
                  exact ih (n - 1) (by omega) (c + 1) o _ _ _ (by omega) (fun q => by omega) (fun q => by omega) (hL.cong (sLx_skip (fun u z => c135 z.1))) (by rw [nI_add])
                refine EvP.s (fun _ _ K => Ev.go 2 rfl K) ?_
                refine EvP.s (fun _ _ K => Ev.go 2 rfl K) ?_
                refine EvP.s (fun _ _ K => Ev.bf rfl rfl (by decide) K) ?_
                refine EvP.s (fun _ _ K => Ev.go 2 rfl K) ?_
                refine EvP.s (fun _ _ K => Ev.cs (E' := me_M_has) rfl mk_M_has ls_1_100 rfl rfl (e_M_has d _ rfl rfl (by omega) (by omega)) K) ?_
                refine EvP.zn rfl rfl (fun c157 => ?_) (fun c157 => ?_)
                · refine EvP.s (fun _ _ K => Ev.go 2 rfl K) ?_
                  exact ih (n - 1) (by omega) (c + 1) o _ _ _ (by omega) (fun q => by omega) (fun q => by omega) (hL.cong (sLx_skip (fun u z => by have := z.2.2; rw [z.2.1, c157] at this; cases this))) (by rw [nI_add])
                have hg : sGd P miss key a b c (2 ^ a ||| 2 ^ b ||| 2 ^ c) := ⟨c135, rfl, c157⟩
                refine EvP.s (fun _ _ K => Ev.go 2 rfl K) ?_
                refine EvP.req rfl rfl (fun c165 => ?_) (fun c165 => ?_)
                · refine EvP.s (fun _ _ K => Ev.go 4 rfl K) ?_
                  exact ih (n - 1) (by omega) (c + 1) (some (2 ^ a ||| 2 ^ b ||| 2 ^ c)) _ _ _ (by omega) (fun q => by omega) (fun q => by omega) (hL.add (sLx_more ht hg) (fun w hw => by rw [(onL_m1 hv32).mp c165] at hw; cases hw)) (by rw [nI_add])
                obtain ⟨v, rfl⟩ : ∃ v, o = some v := by
                  cases o with
                  | none => exact absurd rfl c165
                  | some v => exact ⟨v, rfl⟩
                refine EvP.s (fun _ _ K => Ev.go 2 rfl K) ?_
                refine EvP.lge rfl rfl rfl rfl (by omega) (by have := hv32 v rfl; omega) (fun c173 => ?_) (fun c173 => ?_)
                · refine EvP.s (fun _ _ K => Ev.go 2 rfl K) ?_
                  exact ih (n - 1) (by omega) (c + 1) (some v) _ _ _ (by omega) (fun q => by omega) (fun q => by omega) (hL.old (sLx_more ht hg) rfl c173) (by rw [nI_add])
                refine EvP.s (fun _ _ K => Ev.go 4 rfl K) ?_
                exact ih (n - 1) (by omega) (c + 1) (some (2 ^ a ||| 2 ^ b ||| 2 ^ c)) _ _ _ (by omega) (fun q => by omega) (fun q => by omega) (hL.add (sLx_more ht hg) (fun w hw => by cases hw; exact c173)) (by rw [nI_add])
            refine EvP.s (fun _ _ K => Ev.go 2 rfl K) ?_
            refine EvP.ile rfl rfl rfl (by omega) (by omega) (fun c55 => ?_) (fun c55 => ?_)
            · refine EvP.s (fun _ _ K => Ev.go 2 rfl K) ?_
              refine Lc (33 - b) (b) o _ _ _ (by omega) (fun q => by omega) (fun q => by omega) (hL.cong (sLx_iff (fun a1 b1 c1 t1 => ?_))) (by first | rw [nI_add] | rfl)
              obtain ⟨t1, t2, t3, t4, t5, t6, t7⟩ := t1
              omega
            refine EvP.s (fun _ _ K => Ev.go 4 rfl K) ?_
            refine EvP.s (fun _ _ K => Ev.go 1 rfl K) ?_
            refine Lc (33 - (b + 1)) (b + 1) o _ _ _ (by omega) (fun q => by omega) (fun q => by omega) (hL.cong (sLx_iff (fun a1 b1 c1 t1 => ?_))) (by first | rw [nI_add] | rfl)
            obtain ⟨t1, t2, t3, t4, t5, t6, t7⟩ := t1
            omega
          refine EvP.s (fun _ _ K => Ev.go 2 rfl K) ?_
          refine EvP.ige rfl rfl (by first | rw [nI_add] | rfl) (by omega) (by omega) (fun c49 => ?_) (fun c49 => ?_)
          · refine EvP.s (fun _ _ K => Ev.go 2 rfl K) ?_
            refine ih (n - 1) (by omega) (a + 1) o _ _ _ _ _ (by omega) (hL.cong (sLx_iff (fun a1 b1 c1 t1 => ?_))) (by rw [nI_add])
            obtain ⟨t1, t2, t3, t4, t5, t6, t7⟩ := t1
            omega
          have hb32 : b < 32 := by omega
          have hab1 : 1 < sz → a < b := kb1
          have hab2 : sz ≤ 1 → b = a := fun q => by omega
          have Lc : ∀ (n : Nat) (c : Nat) (o : Option Nat) (cv : Int32) (v10 : Value) (v12 : Value), (c + n = 33) → (2 < sz → b < c) → (sz ≤ 2 → b ≤ c) → (sLs (sLx P miss key sz a b c) o) → (cv = nI c) → EvP o0 (d + 1) me_M_spoilBy 69 [.ref 5, .int (nI key), .long (lN miss), .retAddr 0, .int (nI sz), .long (onL o), .retAddr 0, .int (nI a), .int (nI b), .int cv, v10, .retAddr 0, v12] [] (hp x A B t) (PSo (hp x A B t) (sRv P miss key sz)) := by
            intro n
            induction n using Nat.strongRecOn with
            | _ n ih =>
              intro c o cv v10 v12 k1 kc1 kc2 hL e3
              subst e3
              have hv32 : ∀ v, o = some v → v < 2 ^ 32 := fun v hv => sLx_lt (hL.1 v hv)
              refine EvP.s (fun _ _ K => Ev.go 3 rfl K) ?_
              refine EvP.ile rfl rfl rfl (by omega) (by omega) (fun c74 => ?_) (fun c74 => ?_)
              · refine EvP.s (fun _ _ K => Ev.go 3 rfl K) ?_
                refine EvP.ige rfl rfl (by first | rw [nI_add] | rfl) (by omega) (by omega) (fun c86 => ?_) (fun c86 => ?_)
                · refine EvP.s (fun _ _ K => Ev.go 2 rfl K) ?_
                  refine ih2 (n2 - 1) (by omega) (b + 1) o _ _ _ _ (by omega) (fun q => by omega) (fun q => by omega) (hL.cong (sLx_iff (fun a1 b1 c1 t1 => ?_))) (by rw [nI_add])
                  obtain ⟨t1, t2, t3, t4, t5, t6, t7⟩ := t1
                  omega
                have hc32 : c < 32 := by omega
                have ht : sTr sz a b c := ⟨by omega, by omega, hc32, hab1, hab2, kc1, fun q => by omega⟩
                have hu : 2 ^ a ||| 2 ^ b ||| 2 ^ c < 2 ^ 32 := Nat.or_lt_two_pow (Nat.or_lt_two_pow (wb_lt2 (by omega)) (wb_lt2 (by omega))) (wb_lt2 hc32)
                refine EvP.s (fun _ _ K => Ev.go 11 rfl K) ?_
                rw [sh1 (by omega), sh1 (by omega), sh1 (by omega), fb_orL, fb_orL]
                refine EvP.s (fun _ _ K => Ev.go 1 rfl K) ?_
                skip
                refine EvP.s (fun _ _ K => Ev.go 2 rfl K) ?_
                refine EvP.s (fun _ _ K => Ev.gf rfl lf_1_50_1 hp_5 rfl K) ?_
                refine EvP.s (fun _ _ K => Ev.go 1 rfl K) ?_
                refine EvP.s (fun _ _ K => Ev.lln rfl hp_19 rfl (by omega) (by omega) K) ?_
                rw [hP a (by omega)]
                refine EvP.s (fun _ _ K => Ev.go 1 rfl K) ?_
                refine EvP.s (fun _ _ K => Ev.gf rfl lf_1_50_1 hp_5 rfl K) ?_
                refine EvP.s (fun _ _ K => Ev.go 1 rfl K) ?_
                refine EvP.s (fun _ _ K => Ev.lln rfl hp_19 rfl (by omega) (by omega) K) ?_
                rw [hP b (by omega)]
                refine EvP.s (fun _ _ K => Ev.go 2 rfl K) ?_
                refine EvP.s (fun _ _ K => Ev.gf rfl lf_1_50_1 hp_5 rfl K) ?_
                refine EvP.s (fun _ _ K => Ev.go 1 rfl K) ?_
                refine EvP.s (fun _ _ K => Ev.lln rfl hp_19 rfl (by omega) (by omega) K) ?_
                rw [hP c (by omega)]
                refine EvP.s (fun _ _ K => Ev.go 4 rfl K) ?_
                rw [fb_orL, fb_orL, lN_andn]
                refine EvP.s (fun _ _ K => Ev.go 1 rfl K) ?_
                refine EvP.lne rfl rfl rfl rfl (by have := andn_lt (b := P a ||| P b ||| P c) hmiss; omega) (by omega) (fun c135 => ?_) (fun c135 => ?_)
                · refine EvP.s (fun _ _ K => Ev.go 3 rfl K) ?_
                  refine EvP.s (fun _ _ K => Ev.bt rfl rfl rfl K) ?_
                  refine EvP.s (fun _ _ K => Ev.go 2 rfl K) ?_
                  exact ih (n - 1) (by omega) (c + 1) o _ _ _ (by omega) (fun q => by omega) (fun q => by omega) (hL.cong (sLx_skip (fun u z => c135 z.1))) (by rw [nI_add])
                refine EvP.s (fun _ _ K => Ev.go 2 rfl K) ?_
                refine EvP.s (fun _ _ K => Ev.go 2 rfl K) ?_
                refine EvP.s (fun _ _ K => Ev.bf rfl rfl (by decide) K) ?_
                refine EvP.s (fun _ _ K => Ev.go 2 rfl K) ?_
                refine EvP.s (fun _ _ K => Ev.cs (E' := me_M_has) rfl mk_M_has ls_1_100 rfl rfl (e_M_has d _ rfl rfl (by omega) (by omega)) K) ?_
                refine EvP.zn rfl rfl (fun c157 => ?_) (fun c157 => ?_)
                · refine EvP.s (fun _ _ K => Ev.go 2 rfl K) ?_
                  exact ih (n - 1) (by omega) (c + 1) o _ _ _ (by omega) (fun q => by omega) (fun q => by omega) (hL.cong (sLx_skip (fun u z => by have := z.2.2; rw [z.2.1, c157] at this; cases this))) (by rw [nI_add])
                have hg : sGd P miss key a b c (2 ^ a ||| 2 ^ b ||| 2 ^ c) := ⟨c135, rfl, c157⟩
                refine EvP.s (fun _ _ K => Ev.go 2 rfl K) ?_
                refine EvP.req rfl rfl (fun c165 => ?_) (fun c165 => ?_)
                · refine EvP.s (fun _ _ K => Ev.go 4 rfl K) ?_
                  exact ih (n - 1) (by omega) (c + 1) (some (2 ^ a ||| 2 ^ b ||| 2 ^ c)) _ _ _ (by omega) (fun q => by omega) (fun q => by omega) (hL.add (sLx_more ht hg) (fun w hw => by rw [(onL_m1 hv32).mp c165] at hw; cases hw)) (by rw [nI_add])
                obtain ⟨v, rfl⟩ : ∃ v, o = some v := by
                  cases o with
                  | none => exact absurd rfl c165
                  | some v => exact ⟨v, rfl⟩
                refine EvP.s (fun _ _ K => Ev.go 2 rfl K) ?_
                refine EvP.lge rfl rfl rfl rfl (by omega) (by have := hv32 v rfl; omega) (fun c173 => ?_) (fun c173 => ?_)
                · refine EvP.s (fun _ _ K => Ev.go 2 rfl K) ?_
                  exact ih (n - 1) (by omega) (c + 1) (some v) _ _ _ (by omega) (fun q => by omega) (fun q => by omega) (hL.old (sLx_more ht hg) rfl c173) (by rw [nI_add])
                refine EvP.s (fun _ _ K => Ev.go 4 rfl K) ?_
                exact ih (n - 1) (by omega) (c + 1) (some (2 ^ a ||| 2 ^ b ||| 2 ^ c)) _ _ _ (by omega) (fun q => by omega) (fun q => by omega) (hL.add (sLx_more ht hg) (fun w hw => by cases hw; exact c173)) (by rw [nI_add])
              refine EvP.s (fun _ _ K => Ev.go 2 rfl K) ?_
              refine EvP.ige rfl rfl (by first | rw [nI_add] | rfl) (by omega) (by omega) (fun c86 => ?_) (fun c86 => ?_)
              · refine EvP.s (fun _ _ K => Ev.go 2 rfl K) ?_
                refine ih2 (n2 - 1) (by omega) (b + 1) o _ _ _ _ (by omega) (fun q => by omega) (fun q => by omega) (hL.cong (sLx_iff (fun a1 b1 c1 t1 => ?_))) (by rw [nI_add])
                obtain ⟨t1, t2, t3, t4, t5, t6, t7⟩ := t1
                omega
              have hc32 : c < 32 := by omega
              have ht : sTr sz a b c := ⟨by omega, by omega, hc32, hab1, hab2, kc1, fun q => by omega⟩
              have hu : 2 ^ a ||| 2 ^ b ||| 2 ^ c < 2 ^ 32 := Nat.or_lt_two_pow (Nat.or_lt_two_pow (wb_lt2 (by omega)) (wb_lt2 (by omega))) (wb_lt2 hc32)
              refine EvP.s (fun _ _ K => Ev.go 11 rfl K) ?_
              rw [sh1 (by omega), sh1 (by omega), sh1 (by omega), fb_orL, fb_orL]
              refine EvP.s (fun _ _ K => Ev.go 1 rfl K) ?_
              skip
              refine EvP.s (fun _ _ K => Ev.go 2 rfl K) ?_
              refine EvP.s (fun _ _ K => Ev.gf rfl lf_1_50_1 hp_5 rfl K) ?_
              refine EvP.s (fun _ _ K => Ev.go 1 rfl K) ?_
              refine EvP.s (fun _ _ K => Ev.lln rfl hp_19 rfl (by omega) (by omega) K) ?_
              rw [hP a (by omega)]
              refine EvP.s (fun _ _ K => Ev.go 1 rfl K) ?_
              refine EvP.s (fun _ _ K => Ev.gf rfl lf_1_50_1 hp_5 rfl K) ?_
              refine EvP.s (fun _ _ K => Ev.go 1 rfl K) ?_
              refine EvP.s (fun _ _ K => Ev.lln rfl hp_19 rfl (by omega) (by omega) K) ?_
              rw [hP b (by omega)]
              refine EvP.s (fun _ _ K => Ev.go 2 rfl K) ?_
              refine EvP.s (fun _ _ K => Ev.gf rfl lf_1_50_1 hp_5 rfl K) ?_
              refine EvP.s (fun _ _ K => Ev.go 1 rfl K) ?_
              refine EvP.s (fun _ _ K => Ev.lln rfl hp_19 rfl (by omega) (by omega) K) ?_
              rw [hP c (by omega)]
              refine EvP.s (fun _ _ K => Ev.go 4 rfl K) ?_
              rw [fb_orL, fb_orL, lN_andn]
              refine EvP.s (fun _ _ K => Ev.go 1 rfl K) ?_
              refine EvP.lne rfl rfl rfl rfl (by have := andn_lt (b := P a ||| P b ||| P c) hmiss; omega) (by omega) (fun c135 => ?_) (fun c135 => ?_)
              · refine EvP.s (fun _ _ K => Ev.go 3 rfl K) ?_
                refine EvP.s (fun _ _ K => Ev.bt rfl rfl rfl K) ?_
                refine EvP.s (fun _ _ K => Ev.go 2 rfl K) ?_
                exact ih (n - 1) (by omega) (c + 1) o _ _ _ (by omega) (fun q => by omega) (fun q => by omega) (hL.cong (sLx_skip (fun u z => c135 z.1))) (by rw [nI_add])
              refine EvP.s (fun _ _ K => Ev.go 2 rfl K) ?_
              refine EvP.s (fun _ _ K => Ev.go 2 rfl K) ?_
              refine EvP.s (fun _ _ K => Ev.bf rfl rfl (by decide) K) ?_
              refine EvP.s (fun _ _ K => Ev.go 2 rfl K) ?_
              refine EvP.s (fun _ _ K => Ev.cs (E' := me_M_has) rfl mk_M_has ls_1_100 rfl rfl (e_M_has d _ rfl rfl (by omega) (by omega)) K) ?_
              refine EvP.zn rfl rfl (fun c157 => ?_) (fun c157 => ?_)
              · refine EvP.s (fun _ _ K => Ev.go 2 rfl K) ?_
                exact ih (n - 1) (by omega) (c + 1) o _ _ _ (by omega) (fun q => by omega) (fun q => by omega) (hL.cong (sLx_skip (fun u z => by have := z.2.2; rw [z.2.1, c157] at this; cases this))) (by rw [nI_add])
              have hg : sGd P miss key a b c (2 ^ a ||| 2 ^ b ||| 2 ^ c) := ⟨c135, rfl, c157⟩
              refine EvP.s (fun _ _ K => Ev.go 2 rfl K) ?_
              refine EvP.req rfl rfl (fun c165 => ?_) (fun c165 => ?_)
              · refine EvP.s (fun _ _ K => Ev.go 4 rfl K) ?_
                exact ih (n - 1) (by omega) (c + 1) (some (2 ^ a ||| 2 ^ b ||| 2 ^ c)) _ _ _ (by omega) (fun q => by omega) (fun q => by omega) (hL.add (sLx_more ht hg) (fun w hw => by rw [(onL_m1 hv32).mp c165] at hw; cases hw)) (by rw [nI_add])
              obtain ⟨v, rfl⟩ : ∃ v, o = some v := by
                cases o with
                | none => exact absurd rfl c165
                | some v => exact ⟨v, rfl⟩
              refine EvP.s (fun _ _ K => Ev.go 2 rfl K) ?_
              refine EvP.lge rfl rfl rfl rfl (by omega) (by have := hv32 v rfl; omega) (fun c173 => ?_) (fun c173 => ?_)
              · refine EvP.s (fun _ _ K => Ev.go 2 rfl K) ?_
                exact ih (n - 1) (by omega) (c + 1) (some v) _ _ _ (by omega) (fun q => by omega) (fun q => by omega) (hL.old (sLx_more ht hg) rfl c173) (by rw [nI_add])
              refine EvP.s (fun _ _ K => Ev.go 4 rfl K) ?_
              exact ih (n - 1) (by omega) (c + 1) (some (2 ^ a ||| 2 ^ b ||| 2 ^ c)) _ _ _ (by omega) (fun q => by omega) (fun q => by omega) (hL.add (sLx_more ht hg) (fun w hw => by cases hw; exact c173)) (by rw [nI_add])
          refine EvP.s (fun _ _ K => Ev.go 2 rfl K) ?_
          refine EvP.ile rfl rfl rfl (by omega) (by omega) (fun c55 => ?_) (fun c55 => ?_)
          · refine EvP.s (fun _ _ K => Ev.go 2 rfl K) ?_
            refine Lc (33 - b) (b) o _ _ _ (by omega) (fun q => by omega) (fun q => by omega) (hL.cong (sLx_iff (fun a1 b1 c1 t1 => ?_))) (by first | rw [nI_add] | rfl)
            obtain ⟨t1, t2, t3, t4, t5, t6, t7⟩ := t1
            omega
          refine EvP.s (fun _ _ K => Ev.go 4 rfl K) ?_
          refine EvP.s (fun _ _ K => Ev.go 1 rfl K) ?_
          refine Lc (33 - (b + 1)) (b + 1) o _ _ _ (by omega) (fun q => by omega) (fun q => by omega) (hL.cong (sLx_iff (fun a1 b1 c1 t1 => ?_))) (by first | rw [nI_add] | rfl)
          obtain ⟨t1, t2, t3, t4, t5, t6, t7⟩ := t1
          omega
      refine EvP.s (fun _ _ K => Ev.go 2 rfl K) ?_
      refine EvP.ile rfl rfl rfl (by omega) (by omega) (fun c18 => ?_) (fun c18 => ?_)
      · refine EvP.s (fun _ _ K => Ev.go 2 rfl K) ?_
        refine Lb (33 - a) (a) o _ _ _ _ (by omega) (fun q => by omega) (fun q => by omega) (hL.cong (sLx_iff (fun a1 b1 c1 t1 => ?_))) (by first | rw [nI_add] | rfl)
        obtain ⟨t1, t2, t3, t4, t5, t6, t7⟩ := t1
        omega
      refine EvP.s (fun _ _ K => Ev.go 4 rfl K) ?_
      refine EvP.s (fun _ _ K => Ev.go 1 rfl K) ?_
      refine Lb (33 - (a + 1)) (a + 1) o _ _ _ _ (by omega) (fun q => by omega) (fun q => by omega) (hL.cong (sLx_iff (fun a1 b1 c1 t1 => ?_))) (by first | rw [nI_add] | rfl)
      obtain ⟨t1, t2, t3, t4, t5, t6, t7⟩ := t1
      omega
  refine EvP.s (fun _ _ K => Ev.go 4 rfl K) ?_
  exact La 32 0 none _ _ _ _ _ (by omega) ⟨fun v hv => (by cases hv), fun u hu => by obtain ⟨a1, b1, c1, _, _, h3⟩ := hu; omega⟩ rfl
theorem p_M_spoil (d : Nat) (x : sn_X5) {A : sn_A2} {B : sn_B2} (t : sn_H) {μ : sn_S} (q : MS A B μ) (kv yv : Int32) : SpP (d + 4) me_M_spoil [.ref 5, .int kv, .int yv] (hp x A B t) (PMl x t (an_spoil μ kv yv, μ)) := by
  refine SpP.of ok_M_spoil (fun r h' z => z.rc) rfl ?_
  have L : ∀ (k y : Nat) (B2 : sn_B2), k < snb μ → y < 32 → MS A B2 μ → (∀ z, z < 32 → B2 19 z = lN (pls (sw μ) (sbk μ k) z)) → andn (pls (sw μ) (sbk μ k) y) (fil (sbk μ k)) ≠ 0 → ∀ (n : Nat) (sz : Nat) (zv : Int32) (v6 : Value), (sz + n = 4) → (1 ≤ sz) → (∀ s, 1 ≤ s → s < sz → ∀ u, ¬ sRv (pls (sw μ) (sbk μ k)) (andn (pls (sw μ) (sbk μ k) y) (fil (sbk μ k))) y s u) → (zv = nI sz) → EvP o0 (d + 4) me_M_spoil 66 [.ref 5, .int (nI k), .int (nI y), .long (lN (andn (pls (sw μ) (sbk μ k) y) (fil (sbk μ k)))), .retAddr 0, .int zv, v6, .retAddr 0] [] (hp x A B2 t) (PMl x t (onL (spl (uN (pls (sw μ) (sbk μ k)) y 0) (andn (pls (sw μ) (sbk μ k) y) (fil (sbk μ k)))), μ)) := by
    intro k y B2 hk1 hy q2 hP hm0 n
    have hmiss := andn_lt (b := fil (sbk μ k)) (pls_lt (w := sw μ) (q.1.2.2 k hk1) y)
    induction n using Nat.strongRecOn with
    | _ n ih =>
      intro sz zv v6 k1 k2 hno e3
      subst e3
      refine EvP.s (fun _ _ K => Ev.go 2 rfl K) ?_
      refine EvP.igt rfl rfl rfl (by omega) (by omega) (fun c69 => ?_) (fun c69 => ?_)
      · refine EvP.s (fun _ _ K => Ev.go 1 rfl K) ?_
        refine ⟨_, _, Ev.retl rfl rfl, ?_⟩
        refine PMl.mk q2 ?_
        rw [spl_none hm0 (fun s h1 h2 u => hno s h1 (by omega) u)]
        rfl
      obtain ⟨r3, h3, sp3, eh3, o, er3, hLs⟩ := e_M_spoilBy (A := A) (d + 2) x t (rfl : nI y = nI y) (rfl : lN (andn (pls (sw μ) (sbk μ k) y) (fil (sbk μ k))) = _) (rfl : nI sz = nI sz) hy hmiss k2 (by omega) hP
      subst eh3
      subst er3
      refine EvP.s (fun _ _ K => Ev.go 4 rfl K) ?_
      refine EvP.s (fun _ _ K => Ev.cv (E' := me_M_spoilBy) rfl mk_M_spoilBy lv_1_225_1 rfl hp_5 rfl (sp3) K) ?_
      refine EvP.s (fun _ _ K => Ev.go 3 rfl K) ?_
      refine EvP.req rfl rfl (fun c87 => ?_) (fun c87 => ?_)
      · have hv32 : ∀ v, o = some v → v < 2 ^ 32 := fun v hv => by
          obtain ⟨a1, b1, c1, t1, g1⟩ := hLs.1 v hv
          exact sLx_lt (c := c1 + 1) ⟨a1, b1, c1, t1, g1, Or.inr ⟨rfl, Or.inr ⟨rfl, Nat.lt_succ_self _⟩⟩⟩
        have eo := (onL_m1 hv32).mp c87
        subst eo
        refine EvP.s (fun _ _ K => Ev.go 2 rfl K) ?_
        refine ih (n - 1) (by omega) (sz + 1) _ _ (by omega) (by omega) (fun s h1 h2 u hu => ?_) (by rw [nI_add])
        by_cases e : s = sz
        · subst e
          obtain ⟨v, e1, _⟩ := hLs.2 u hu
          cases e1
        · exact hno s h1 (by omega) u hu
      refine EvP.s (fun _ _ K => Ev.go 1 rfl K) ?_
      refine ⟨_, _, Ev.retl rfl rfl, ?_⟩
      refine PMl.mk q2 ?_
      cases o with
      | none => exact absurd rfl c87
      | some v => rw [spl_some hm0 k2 (by omega) hno hLs]
  refine EvP.s (fun _ _ K => Ev.go 2 rfl K) ?_
  refine EvP.s (fun _ _ K => Ev.cv (E' := me_M_isBook) rfl mk_M_isBook lv_1_131_1 rfl hp_5 rfl (e_M_isBook (d + 2) x t q _) K) ?_
  refine EvP.zb rfl rfl (fun c5 => ?_) (fun c5 => ?_)
  · refine EvP.s (fun _ _ K => Ev.go 1 rfl K) ?_
    refine ⟨_, _, Ev.retl rfl rfl, ?_⟩
    refine PMl.mk q ?_
    unfold an_spoil; rw [if_pos (fun z => ofn c5 z.1)]
  refine EvP.s (fun _ _ K => Ev.go 1 rfl K) ?_
  refine EvP.s (fun _ _ K => Ev.cs (E' := me_M_isKey) rfl mk_M_isKey ls_1_93 rfl rfl (e_M_isKey (d + 2) _ _) K) ?_
  refine EvP.zn rfl rfl (fun c12 => ?_) (fun c12 => ?_)
  · obtain ⟨k, hk1, hk2, rfl⟩ := rg_ex (ofd c5)
    obtain ⟨y, hy, hy2, rfl⟩ := rg_ex (n := 32) (ofd c12)
    have h5 := (q.1.2.2 k hk1).1
    refine EvP.s (fun _ _ K => Ev.go 1 rfl K) ?_
    refine EvP.s (fun _ _ K => Ev.gf rfl lf_1_16_1 hp_5 rfl K) ?_
    refine EvP.s (fun _ _ K => Ev.go 1 rfl K) ?_
    refine EvP.s (fun _ _ K => Ev.iln rfl hp_8 rfl (by have := (q.mk hk1).2.2.2.2; omega) (by omega) K) ?_
    rw [(q.mk hk1).2.2.2.1.1]
    refine EvP.s (fun _ _ K => Ev.go 1 rfl K) ?_
    refine EvP.ile rfl rfl rfl (by omega) (by omega) (fun c26 => ?_) (fun c26 => ?_)
    · obtain ⟨r2, h2, sp2, er, B2, eh, hP, h14⟩ := e_M_layPlaces d x t q (rfl : nI k = nI k) hk1
      subst er
      subst eh
      have q2 := q.b14 h14
      have hmiss := andn_lt (b := fil (sbk μ k)) (pls_lt (w := sw μ) (q.1.2.2 k hk1) y)
      refine EvP.s (fun _ _ K => Ev.go 2 rfl K) ?_
      refine EvP.s (fun _ _ K => Ev.cv0 (E' := me_M_layPlaces) rfl mk_M_layPlaces lv_1_221_1 rfl hp_5 rfl (sp2) K) ?_
      refine EvP.s (fun _ _ K => Ev.go 1 rfl K) ?_
      refine EvP.s (fun _ _ K => Ev.gf rfl lf_1_50_1 hp_5 rfl K) ?_
      refine EvP.s (fun _ _ K => Ev.go 1 rfl K) ?_
      refine EvP.s (fun _ _ K => Ev.lln rfl hp_19 rfl (by omega) (by omega) K) ?_
      rw [hP y hy]
      refine EvP.s (fun _ _ K => Ev.go 2 rfl K) ?_
      refine EvP.s (fun _ _ K => Ev.cv (E' := me_M_filled) rfl mk_M_filled lv_1_176_1 rfl hp_5 rfl (e_M_filled (d + 3) x t (q2.mk hk1) rfl) K) ?_
      refine EvP.s (fun _ _ K => Ev.go 3 rfl K) ?_
      rw [lN_andn]
      refine EvP.s (fun _ _ K => Ev.go 3 rfl K) ?_
      refine EvP.lne rfl rfl rfl rfl (by omega) (by omega) (fun c57 => ?_) (fun c57 => ?_)
      · refine EvP.s (fun _ _ K => Ev.go 2 rfl K) ?_
        have hu : an_spoil μ (nI k) (nI y) = onL (spl (uN (pls (sw μ) (sbk μ k)) y 0) (andn (pls (sw μ) (sbk μ k) y) (fil (sbk μ k)))) := by
          unfold an_spoil; rw [tn_nI hk2, tn_nI hy2, if_neg (fun z => z ⟨ofd c5, ofd c12⟩), if_neg (by omega), if_neg c57]
        rw [hu]
        exact L k y B2 hk1 hy q2 hP c57 3 1 _ _ (by omega) (by omega) (fun s h1 h2 => absurd h2 (by omega)) rfl
      refine EvP.s (fun _ _ K => Ev.go 1 rfl K) ?_
      refine ⟨_, _, Ev.retl rfl rfl, ?_⟩
      refine PMl.mk q2 ?_
      unfold an_spoil; rw [tn_nI hk2, tn_nI hy2, if_neg (fun z => z ⟨ofd c5, ofd c12⟩), if_neg (by omega), if_pos c57]
      rfl
    refine EvP.s (fun _ _ K => Ev.go 1 rfl K) ?_
    refine ⟨_, _, Ev.retl rfl rfl, ?_⟩
    refine PMl.mk q ?_
    unfold an_spoil; rw [tn_nI hk2, tn_nI hy2, if_neg (fun z => z ⟨ofd c5, ofd c12⟩), if_pos (by omega)]
  refine EvP.s (fun _ _ K => Ev.go 1 rfl K) ?_
  refine ⟨_, _, Ev.retl rfl rfl, ?_⟩
  refine PMl.mk q ?_
  unfold an_spoil; rw [if_pos (fun z => ofn c12 z.2)]
