/-! THE REFERENCE: made -/
theorem fb_orI (a b : Nat) : nI a ||| nI b = nI (a ||| b) := by
  apply Int32.toBitVec_inj.1
  show BitVec.ofNat 32 a ||| BitVec.ofNat 32 b = BitVec.ofNat 32 (a ||| b)
  apply BitVec.eq_of_getLsbD_eq
  intro i hi
  simp [hi]
theorem fb_andI (a b : Nat) : nI a &&& nI b = nI (a &&& b) := by
  apply Int32.toBitVec_inj.1
  show BitVec.ofNat 32 a &&& BitVec.ofNat 32 b = BitVec.ofNat 32 (a &&& b)
  apply BitVec.eq_of_getLsbD_eq
  intro i hi
  simp [hi]
theorem shI31 : ∀ n, n < 31 → nI 1 <<< (nI n &&& 31) = nI (2 ^ n) := by decide +kernel
theorem by8 : ∀ v, v < 100 → (nI v).toInt8.toInt32 = nI v := by decide +kernel
theorem dec1 {m : Nat} : nI (m + 1) - nI 1 = nI m := by
  rw [← nI_add]
  apply Int32.toBitVec_inj.1
  rw [Int32.toBitVec_sub, Int32.toBitVec_add]
  exact BitVec.add_sub_cancel _ _
theorem m1_lt : nI 0 - nI 1 < (0 : Int32) := by decide +kernel
theorem nI_nl0 {m : Nat} (h : m < 2 ^ 31) : ¬ nI m < (0 : Int32) := by
  rw [← nI_0]
  exact nI_nlt (Nat.zero_le m) h
theorem hi_w {n t q : Nat} (hn : n < 2 ^ 32) (e : n = 2 ^ (t + 1) * q + 2 ^ t) : ((n - 1) ^^^ (2 ^ 32 - 1)) &&& n = 2 ^ t := by
  apply Nat.eq_of_testBit_eq
  intro j
  rw [Nat.testBit_and, Nat.testBit_xor, Nat.testBit_two_pow_sub_one, Nat.testBit_two_pow]
  by_cases hj : j < 32
  · rw [decide_eq_true hj]
    subst e
    rw [low_tb, low_tb1]
    by_cases h1 : j < t + 1
    · rw [if_pos h1, if_pos h1]
      by_cases h2 : t = j
      · subst h2; simp
      · rw [decide_eq_false h2]; simp
    · rw [if_neg h1, if_neg h1, decide_eq_false (by omega)]
      simp
  · have h1 : n.testBit j = false := tb_big hn (by omega)
    have h2 : t < 32 := low_lt hn e
    rw [h1, decide_eq_false (show ¬ t = j by omega)]
    simp
theorem hi_I {m t q : Nat} (hn : m + 1 < 2 ^ 32) (e : m + 1 = 2 ^ (t + 1) * q + 2 ^ t) : (nI m ^^^ - nI 1) &&& (nI m + nI 1) = nI (2 ^ t) := by
  have h1 : (- nI 1 : Int32) = nI (2 ^ 32 - 1) := by decide +kernel
  have h2 := hi_w hn e
  rw [Nat.add_sub_cancel] at h2
  rw [h1, nI_add, fb_xorI, fb_andI, h2]
theorem sqF_n {p S i : Nat} (h : S.testBit i = false) : sqF p S (i + 1) = sqF p S i := by
  show (if S.testBit i then _ else _) = _
  rw [h, if_neg (by decide)]
theorem sqF_t {p S i : Nat} (h : S.testBit i = true) (h2 : p.testBit i = true) : sqF p S (i + 1) = ((sqF p S i).1 ||| 2 ^ (sqF p S i).2, (sqF p S i).2 + 1) := by
  show (if S.testBit i then _ else _) = _
  rw [if_pos h, if_pos h2]
theorem sqF_f {p S i : Nat} (h : S.testBit i = true) (h2 : p.testBit i = false) : sqF p S (i + 1) = ((sqF p S i).1 ||| 0, (sqF p S i).2 + 1) := by
  show (if S.testBit i then _ else _) = _
  rw [if_pos h, h2, if_neg (by decide)]
theorem and_p2 {a t : Nat} : a &&& 2 ^ t = 0 ↔ a.testBit t = false := by
  rw [and_0]
  constructor
  · intro h
    cases hb : a.testBit t with
    | false => rfl
    | true => have := h t hb; rw [Nat.testBit_two_pow_self] at this; cases this
  · intro h i hi
    rw [Nat.testBit_two_pow]
    refine decide_eq_false (fun e => ?_)
    subst e
    rw [h] at hi; cases hi
theorem e_M_unionOf (d : Nat) (x : sn_X5) {A : sn_A2} {B : sn_B2} (t : sn_H) {P : Nat → Nat} (hP : ∀ y, y < 32 → B 19 y = lN (P y)) {F : Nat} {z : Int} {fv : Int64} {zv : Int32} (e1 : fv = lN F) (hF : F < 2 ^ 32) (hz : ∀ i, i < 32 → (nI i = zv ↔ (i : Int) = z)) : Sp (d + 1) me_M_unionOf [.ref 5, .long fv, .int zv] (hp x A B t) (some (.long (lN (uno P F z 32)))) (hp x A B t) := by
  subst e1
  refine Sp.of ok_M_unionOf trivial rfl ?_
  have L : ∀ (n : Nat) (i : Nat) (av : Int64) (iv : Int32), (i + n = 32) → (av = lN (uno P F z i)) → (iv = nI i) → Ev o0 (d + 1) me_M_unionOf 6 [.ref 5, .long (lN F), .retAddr 0, .int zv, .long av, .retAddr 0, .int iv] [] (hp x A B t) (some (.long (lN (uno P F z 32)))) (hp x A B t) := by
    intro n
    induction n using Nat.strongRecOn with
    | _ n ih =>
      intro i av iv h1 e2 e3
      subst e2
      subst e3
      refine Ev.go 2 rfl ?_
      refine Ev.ige rfl rfl rfl (by omega) (by omega) (fun c10 => ?_) (fun c10 => ?_)
      · refine Ev.go 1 rfl ?_
        exact Ev.retl rfl (by rw [show i = 32 by omega])
      refine Ev.go 3 rfl ?_
      refine Ev.cs (E' := me_M_has) rfl mk_M_has ls_1_100 rfl rfl (e_M_has d _ rfl rfl (by omega) (by omega)) ?_
      refine Ev.zb rfl rfl (fun c21 => ?_) (fun c21 => ?_)
      · refine Ev.go 5 rfl ?_
        refine ih (n - 1) (by omega) (i + 1) _ _ (by omega) ?_ (by rw [nI_add])
        show _ = lN (uno P F z i ||| (if F.testBit i = true ∧ ¬ (i : Int) = z then P i else 0))
        rw [if_neg (fun w => by rw [c21] at w; cases w.1)]
        exact fb_orL _ 0
      refine Ev.go 2 rfl ?_
      refine Ev.br rfl rfl (fun c27 => ?_) (fun c27 => ?_)
      · refine Ev.go 5 rfl ?_
        refine ih (n - 1) (by omega) (i + 1) _ _ (by omega) ?_ (by rw [nI_add])
        show _ = lN (uno P F z i ||| (if F.testBit i = true ∧ ¬ (i : Int) = z then P i else 0))
        rw [if_neg (fun w => w.2 ((hz i (by omega)).mp c27))]
        exact fb_orL _ 0
      refine Ev.go 1 rfl ?_
      refine Ev.gf rfl lf_1_50_1 hp_5 rfl ?_
      refine Ev.go 1 rfl ?_
      refine Ev.lln rfl hp_19 rfl (by omega) (by omega) ?_
      rw [hP i (by omega)]
      refine Ev.go 1 rfl ?_
      refine Ev.go 4 rfl ?_
      refine ih (n - 1) (by omega) (i + 1) _ _ (by omega) ?_ (by rw [nI_add])
      show _ = lN (uno P F z i ||| (if F.testBit i = true ∧ ¬ (i : Int) = z then P i else 0))
      rw [if_pos ⟨c21, fun w => c27 ((hz i (by omega)).mpr w)⟩]
      exact fb_orL _ _
  refine Ev.go 4 rfl ?_
  exact L 32 0 _ _ (by omega) rfl rfl
theorem hz_m {i : Nat} (h : i < 32) : nI i = - nI 1 ↔ (i : Int) = -1 := by
  refine ⟨fun e => ?_, fun e => by omega⟩
  have h1 : ∀ i, i < 32 → ¬ nI i = - nI 1 := by decide +kernel
  exact absurd e (h1 i h)
theorem hz_k {k i : Nat} (hk : k < 32) (h : i < 32) : nI i = nI k ↔ (i : Int) = (k : Int) := by
  rw [nI_eq (by omega) (by omega)]
  omega
theorem e_M_folded (d : Nat) (h : sn_H) {P S : Nat} {pv sv : Int64} (e1 : pv = lN P) (e2 : sv = lN S) (hp : P < 2 ^ 32) (hS : S < 2 ^ 32) (h12 : pcnt S ≤ 12) : Sp (d + 1) me_M_folded [.long pv, .long sv] h (some (.int (nI (sq P S)))) h := by
  subst e1; subst e2
  refine Sp.of ok_M_folded trivial rfl ?_
  have L : ∀ (n : Nat) (i : Nat) (av : Int32) (cv : Int32) (iv : Int32), (i + n = 32) → (av = nI (sqF P S i).1) → (cv = nI (sqF P S i).2) → (iv = nI i) → Ev o0 (d + 1) me_M_folded 9 [.long (lN P), .retAddr 0, .long (lN S), .retAddr 0, .int av, .int cv, .int iv] [] h (some (.int (nI (sq P S)))) h := by
    intro n
    induction n using Nat.strongRecOn with
    | _ n ih =>
      intro i av cv iv h1 e1 e2 e3
      subst e1
      subst e2
      subst e3
      have hct : (sqF P S i).2 ≤ pcnt S := by
        rw [sqF_ct, pcnt_ct hS]
        exact ctf_mn _ (by omega)
      refine Ev.go 2 rfl ?_
      refine Ev.ige rfl rfl rfl (by omega) (by omega) (fun c13 => ?_) (fun c13 => ?_)
      · refine Ev.go 1 rfl ?_
        exact Ev.reti rfl (by rw [show i = 32 by omega]; rfl)
      refine Ev.go 2 rfl ?_
      refine Ev.cs (E' := me_M_has) rfl mk_M_has ls_1_100 rfl rfl (e_M_has d _ rfl rfl (by omega) (by omega)) ?_
      refine Ev.zb rfl rfl (fun c22 => ?_) (fun c22 => ?_)
      · refine Ev.go 2 rfl ?_
        refine ih (n - 1) (by omega) (i + 1) _ _ _ (by omega) ?_ ?_ (by rw [nI_add])
        · rw [sqF_n c22]
        · rw [sqF_n c22]
      refine Ev.go 3 rfl ?_
      refine Ev.cs (E' := me_M_has) rfl mk_M_has ls_1_100 rfl rfl (e_M_has d _ rfl rfl (by omega) (by omega)) ?_
      refine Ev.zb rfl rfl (fun c33 => ?_) (fun c33 => ?_)
      · refine Ev.go 6 rfl ?_
        refine ih (n - 1) (by omega) (i + 1) _ _ _ (by omega) ?_ ?_ (by rw [nI_add])
        · rw [sqF_f c22 c33]; exact fb_orI _ 0
        · rw [sqF_f c22 c33, nI_add]
      refine Ev.go 4 rfl ?_
      refine Ev.go 5 rfl ?_
      refine ih (n - 1) (by omega) (i + 1) _ _ _ (by omega) ?_ ?_ (by rw [nI_add])
      · rw [sqF_t c22 c33, shI31 _ (by omega)]; exact fb_orI _ _
      · rw [sqF_t c22 c33, nI_add]
  refine Ev.go 6 rfl ?_
  exact L 32 0 _ _ _ (by omega) rfl rfl rfl
/-- a place of the reference's table -/
def tbk (a : Nat → Int32) (b : Nat → Int64) (i v : Nat) : Prop := (v = sNO → a i = nI 99) ∧ (v ≠ sNO → a i = nI (v / 2 ^ 32) ∧ b i = lN (v % 2 ^ 32))
theorem tbk.oth {a : Nat → Int32} {b : Nat → Int64} {i v j : Nat} {x : Int32} {y : Int64} (h : tbk a b i v) (hij : i ≠ j) : tbk (upd a j x) (vp_updL b j y) i v := by
  unfold tbk
  rw [pk_un hij, pk_uLn hij]
  exact h
theorem tbk.oth1 {a : Nat → Int32} {b : Nat → Int64} {i v j : Nat} {x : Int32} (h : tbk a b i v) (hij : i ≠ j) : tbk (upd a j x) b i v := by
  unfold tbk
  rw [pk_un hij]
  exact h
def PCo (x : sn_X5) (t : sn_H) (μ : sn_S) (v : Nat) (r : Option Value) (h' : sn_H) : Prop := r = none ∧ ∃ A' B', h' = hp x A' B' t ∧ MS A' B' μ ∧ tbk (A' 20) (B' 21) 0 v
theorem PCo.rc {x : sn_X5} {t : sn_H} {μ : sn_S} {v : Nat} {r : Option Value} {h' : sn_H} (q : PCo x t μ v r h') : sn_rc none r := by
  obtain ⟨rfl, _⟩ := q; trivial
theorem andn_s (a : Nat) : andn a a = 0 := andn_0.mpr (fun _ h => h)
theorem andn_z (a : Nat) : andn a 0 = a := by unfold andn; rw [Nat.and_zero, Nat.xor_zero]
theorem andn_or (a b c : Nat) : andn a (b ||| c) = andn (andn a b) c := by
  apply Nat.eq_of_testBit_eq
  intro i
  rw [andn_tb, andn_tb, andn_tb, Nat.testBit_or]
  cases a.testBit i <;> cases b.testBit i <;> cases c.testBit i <;> rfl
theorem vlu_eq (u : Nat) : vlu u = pcnt u * 2 ^ 32 + u := rfl
set_option maxHeartbeats 4000000 in
theorem e_M_cover (d : Nat) (x : sn_X5) {A : sn_A2} {B : sn_B2} (t : sn_H) {μ : sn_S} (q : MS A B μ) {P : Nat → Nat} (hP : ∀ y, y < 32 → B 19 y = lN (P y)) (hPl : ∀ y, P y < 2 ^ 32) {F S : Nat} {fv sv : Int64} (e1 : fv = lN F) (e2 : sv = lN S) (hF : F < 2 ^ 32) (hS : S < 2 ^ 32) (h12 : pcnt S ≤ 12) : SpP (d + 2) me_M_cover [.ref 5, .long fv, .long sv] (hp x A B t) (PCo x t μ (dp (fun y => sq (P y) S) F 32 (2 ^ pcnt S - 1))) := by
  subst e1; subst e2
  have h13 : 2 ^ pcnt S ≤ 2 ^ 12 := Nat.pow_le_pow_right (by omega) h12
  have h13b := Nat.two_pow_pos (pcnt S)
  refine SpP.of ok_M_cover (fun r h' z => z.rc) rfl ?_
  have Lo : ∀ (mm : Nat) (A2 : sn_A2) (B2 : sn_B2) (iv : Int32) (v7 : Value) (v8 : Value) (v9 : Value) (v10 : Value) (v11 : Value) (v12 : Value), (mm ≤ (2 ^ pcnt S - 1)) → (MS A2 B2 μ) → (∀ y, y < 32 → A2 22 y = nI (if F.testBit y then sq (P y) S else 0)) → (∀ a, mm ≤ a → a ≤ (2 ^ pcnt S - 1) → tbk (A2 20) (B2 21) a (dp (fun y => sq (P y) S) F 32 (andn (2 ^ pcnt S - 1) a))) → (iv = nI mm - nI 1) → EvP o0 (d + 2) me_M_cover 79 [.ref 5, .long (lN F), .retAddr 0, .long (lN S), .retAddr 0, .int (nI (2 ^ pcnt S - 1)), .int iv, v7, v8, v9, v10, v11, v12] [] (hp x A2 B2 t) (PCo x t μ (dp (fun y => sq (P y) S) F 32 (2 ^ pcnt S - 1))) := by
    intro mm
    induction mm using Nat.strongRecOn with
    | _ mm iho =>
      intro A2 B2 iv v7 v8 v9 v10 v11 v12 k0 q2 h22 hU e3
      subst e3
      rcases Nat.eq_zero_or_pos mm with e | e
      · subst e
        refine EvP.s (fun _ _ K => Ev.go 1 rfl K) ?_
        refine EvP.s (fun _ _ K => Ev.bt rfl rfl m1_lt K) ?_
        refine ⟨_, _, Ev.retv rfl, ?_⟩
        refine ⟨rfl, A2, B2, rfl, q2, ?_⟩
        have := hU 0 (Nat.le_refl _) (Nat.zero_le _)
        rw [andn_z] at this
        exact this
      · obtain ⟨m, rfl⟩ : ∃ m, mm = m + 1 := ⟨mm - 1, by omega⟩
        rw [dec1]
        obtain ⟨t0, q0, he⟩ := low_ex (n := m + 1) (by omega)
        have ht0 : t0 < pcnt S := low_lt (show m + 1 < 2 ^ pcnt S by omega) he
        have htp : 2 ^ t0 < 2 ^ pcnt S := wb_lt2 ht0
        have hmt : m.testBit t0 = false := by
          have := low_tb1 (t := t0) (q := q0) t0
          rw [← he, if_pos (by omega), Nat.add_sub_cancel] at this
          rw [this]; exact decide_eq_false (by omega)
        have hct : (andn (2 ^ pcnt S - 1) m).testBit t0 = true := andn_tt.mpr ⟨mask_tb.mpr ht0, by rw [hmt]; decide⟩
        have Li : ∀ (n : Nat) (A2 : sn_A2) (B2 : sn_B2) (y : Nat) (yv : Int32) (v9 : Value) (v10 : Value) (v11 : Value) (v12 : Value), (y + n = 32) → (MS A2 B2 μ) → (∀ y, y < 32 → A2 22 y = nI (if F.testBit y then sq (P y) S else 0)) → (∀ a, m < a → a ≤ (2 ^ pcnt S - 1) → tbk (A2 20) (B2 21) a (dp (fun y => sq (P y) S) F 32 (andn (2 ^ pcnt S - 1) a))) → (tbk (A2 20) (B2 21) m (rmn (fun y => sq (P y) S) F (andn (2 ^ pcnt S - 1) m) t0 y)) → (yv = nI y) → EvP o0 (d + 2) me_M_cover 107 [.ref 5, .long (lN F), .retAddr 0, .long (lN S), .retAddr 0, .int (nI (2 ^ pcnt S - 1)), .int (nI m), .int (nI (2 ^ t0)), .int yv, v9, v10, v11, v12] [] (hp x A2 B2 t) (PCo x t μ (dp (fun y => sq (P y) S) F 32 (2 ^ pcnt S - 1))) := by
          intro n
          induction n using Nat.strongRecOn with
          | _ n ih =>
            intro A2 B2 y yv v9 v10 v11 v12 k1 q2 h22 hU hT e3
            subst e3
            refine EvP.s (fun _ _ K => Ev.go 2 rfl K) ?_
            refine EvP.ige rfl rfl rfl (by omega) (by omega) (fun c111 => ?_) (fun c111 => ?_)
            · refine EvP.s (fun _ _ K => Ev.go 2 rfl K) ?_
              have ey : y = 32 := by omega
              subst ey
              rw [← dp_rmn hF hct] at hT
              refine iho m (by omega) A2 B2 _ _ _ _ _ _ _ (by omega) q2 h22 (fun a h1 h2 => ?_) rfl
              by_cases e : a = m
              · subst e; exact hT
              · exact hU a (by omega) h2
            have hy : y < 32 := by omega
            refine EvP.s (fun _ _ K => Ev.go 2 rfl K) ?_
            refine EvP.s (fun _ _ K => Ev.gf rfl lf_1_60_1 hp_5 rfl K) ?_
            refine EvP.s (fun _ _ K => Ev.go 1 rfl K) ?_
            refine EvP.s (fun _ _ K => Ev.iln rfl hp_22 rfl (by omega) (by omega) K) ?_
            rw [h22 y (by omega)]
            refine EvP.s (fun _ _ K => Ev.go 2 rfl K) ?_
            rw [fb_orI]
            refine EvP.s (fun _ _ K => Ev.go 1 rfl K) ?_
            refine EvP.s (fun _ _ K => Ev.gf rfl lf_1_60_1 hp_5 rfl K) ?_
            refine EvP.s (fun _ _ K => Ev.go 1 rfl K) ?_
            refine EvP.s (fun _ _ K => Ev.iln rfl hp_22 rfl (by omega) (by omega) K) ?_
            rw [h22 y (by omega)]
            refine EvP.s (fun _ _ K => Ev.go 2 rfl K) ?_
            refine EvP.zeq rfl (fb_andI _ _) (by have := Nat.and_le_right (n := (if F.testBit y then sq (P y) S else 0)) (m := 2 ^ t0); omega) (fun c136 => ?_) (fun c136 => ?_)
            · refine EvP.s (fun _ _ K => Ev.go 2 rfl K) ?_
              refine ih (n - 1) (by omega) A2 B2 (y + 1) _ _ _ _ _ (by omega) q2 h22 hU ?_ (by rw [nI_add])
              rw [show rmn (fun y => sq (P y) S) F (andn (2 ^ pcnt S - 1) m) t0 (y + 1) = rmn (fun y => sq (P y) S) F (andn (2 ^ pcnt S - 1) m) t0 y from ?_]
              · exact hT
              · show (if _ then _ else _) = _
                refine if_neg (fun w => ?_)
                rw [Bool.and_eq_true] at w
                rw [if_pos w.1, and_p2, w.2] at c136
                cases c136
            have hFy : F.testBit y = true := by
              cases hb : F.testBit y with
              | true => rfl
              | false => rw [hb, if_neg (by decide), Nat.zero_and] at c136; omega
            rw [if_pos hFy] at c136 ⊢
            have hty : (sq (P y) S).testBit t0 = true := by
              cases hb : (sq (P y) S).testBit t0 with
              | true => rfl
              | false => rw [and_p2.mpr hb] at c136; omega
            have hsl := sq_lt (p := P y) hS
            have hor : m ||| sq (P y) S < 2 ^ pcnt S := Nat.or_lt_two_pow (by omega) hsl
            have hgt : m < m ||| sq (P y) S := Nat.lt_of_le_of_ne Nat.left_le_or (fun e => by
              have := or_tb.mpr (Or.inr hty : m.testBit t0 = true ∨ _)
              rw [← e, hmt] at this; cases this)
            have hU2 := hU (m ||| sq (P y) S) hgt (by omega)
            by_cases hD : dp (fun y => sq (P y) S) F 32 (andn (2 ^ pcnt S - 1) (m ||| sq (P y) S)) = sNO
            · refine EvP.s (fun _ _ K => Ev.go 1 rfl K) ?_
              refine EvP.s (fun _ _ K => Ev.gf rfl lf_1_53_1 hp_5 rfl K) ?_
              refine EvP.s (fun _ _ K => Ev.go 1 rfl K) ?_
              refine EvP.s (fun _ _ K => Ev.bln rfl hp_20 rfl (by omega) (by omega) K) ?_
              rw [hU2.1 hD]
              refine EvP.s (fun _ _ K => Ev.go 1 rfl K) ?_
              refine EvP.s (fun _ _ K => Ev.bt rfl rfl (by decide +kernel) K) ?_
              refine EvP.s (fun _ _ K => Ev.go 2 rfl K) ?_
              refine ih (n - 1) (by omega) A2 B2 (y + 1) _ _ _ _ _ (by omega) q2 h22 hU ?_ (by rw [nI_add])
              rw [show rmn (fun y => sq (P y) S) F (andn (2 ^ pcnt S - 1) m) t0 (y + 1) = rmn (fun y => sq (P y) S) F (andn (2 ^ pcnt S - 1) m) t0 y from ?_]
              · exact hT
              · show (if _ then _ else _) = _
                rw [if_pos (by rw [hFy, hty]; rfl), ← andn_or, hD]
                exact Nat.min_eq_left (by have := rmn_le (fun y => sq (P y) S) F (andn (2 ^ pcnt S - 1) m) t0 y; have := Nat.two_pow_pos y; omega)
            · obtain ⟨u, hu, hcu⟩ := dp_val hD
              have hul0 : u < 2 ^ 32 := hcu.1
              have hp0 := pcnt_le hul0
              refine EvP.s (fun _ _ K => Ev.go 1 rfl K) ?_
              refine EvP.s (fun _ _ K => Ev.gf rfl lf_1_53_1 hp_5 rfl K) ?_
              refine EvP.s (fun _ _ K => Ev.go 1 rfl K) ?_
              refine EvP.s (fun _ _ K => Ev.bln rfl hp_20 rfl (by omega) (by omega) K) ?_
              rw [(hU2.2 hD).1, hu, (vl_div hul0).1]
              refine EvP.s (fun _ _ K => Ev.go 1 rfl K) ?_
              refine EvP.s (fun _ _ K => Ev.bf rfl rfl (Int32.not_le.mpr (nI_lt (by omega) (by omega))) K) ?_
              have hnb : u.testBit y = false := dp_no hu hcu (fun r hr => by
                have := (andn_tt.mp hr).2
                cases hb : (sq (P y) S).testBit r with
                | false => rfl
                | true => exact absurd (or_tb.mpr (Or.inr hb)) this)
              have hcv : cov (fun y => sq (P y) S) F 32 (andn (2 ^ pcnt S - 1) m) (u + 2 ^ y) := cov.add (by rw [← andn_or]; exact hcu) hy hFy hnb
              have hu2 := hcv.1
              have hpc := (bit_add y u hnb).2
              have hp32 := pcnt_le hu2
              have hul : u < 2 ^ 32 := hcu.1
              have hD2 : dp (fun y => sq (P y) S) F 32 (andn (andn (2 ^ pcnt S - 1) m) (sq (P y) S)) = vlu u := by rw [← andn_or]; exact hu
              have hve := vlu_eq (u + 2 ^ y)
              refine EvP.s (fun _ _ K => Ev.go 1 rfl K) ?_
              refine EvP.s (fun _ _ K => Ev.gf rfl lf_1_53_1 hp_5 rfl K) ?_
              refine EvP.s (fun _ _ K => Ev.go 1 rfl K) ?_
              refine EvP.s (fun _ _ K => Ev.bln rfl hp_20 rfl (by omega) (by omega) K) ?_
              rw [(hU2.2 hD).1, hu, (vl_div hul).1]
              refine EvP.s (fun _ _ K => Ev.go 4 rfl K) ?_
              refine EvP.s (fun _ _ K => Ev.gf rfl lf_1_57_1 hp_5 rfl K) ?_
              refine EvP.s (fun _ _ K => Ev.go 1 rfl K) ?_
              refine EvP.s (fun _ _ K => Ev.lln rfl hp_21 rfl (by omega) (by omega) K) ?_
              rw [(hU2.2 hD).2, hu, (vl_div hul).2]
              refine EvP.s (fun _ _ K => Ev.go 3 rfl K) ?_
              skip
              refine EvP.s (fun _ _ K => Ev.go 2 rfl K) ?_
              rw [sh1 (by omega), fb_orL, bit_or hnb, nI_add]
              by_cases hR : rmn (fun y => sq (P y) S) F (andn (2 ^ pcnt S - 1) m) t0 y = sNO
              · refine EvP.s (fun _ _ K => Ev.go 2 rfl K) ?_
                refine EvP.s (fun _ _ K => Ev.gf rfl lf_1_53_1 hp_5 rfl K) ?_
                refine EvP.s (fun _ _ K => Ev.go 1 rfl K) ?_
                refine EvP.s (fun _ _ K => Ev.bln rfl hp_20 rfl (by omega) (by omega) K) ?_
                rw [(hT.1 hR)]
                refine EvP.s (fun _ _ K => Ev.bt rfl rfl (nI_lt (by omega) (by omega)) K) ?_
                refine EvP.s (fun _ _ K => Ev.go 1 rfl K) ?_
                refine EvP.s (fun _ _ K => Ev.gf rfl lf_1_53_1 hp_5 rfl K) ?_
                refine EvP.s (fun _ _ K => Ev.go 3 rfl K) ?_
                refine EvP.s (fun _ _ K => Ev.bsn rfl hp_20 rfl (by omega) (by omega) K) ?_
                rw [hps_20]
                skip
                refine EvP.s (fun _ _ K => Ev.go 1 rfl K) ?_
                refine EvP.s (fun _ _ K => Ev.gf rfl lf_1_57_1 hp_5 rfl K) ?_
                refine EvP.s (fun _ _ K => Ev.go 2 rfl K) ?_
                refine EvP.s (fun _ _ K => Ev.lsn rfl hp_21 rfl (by omega) (by omega) K) ?_
                rw [hps_21]
                refine EvP.s (fun _ _ K => Ev.go 2 rfl K) ?_
                refine ih (n - 1) (by omega) _ _ (y + 1) _ _ _ _ _ (by omega) ((q2.scr _ rfl).scrB _ rfl) h22 (fun a h1 h2 => (hU a h1 h2).oth (by omega)) ?_ (by rw [nI_add])
                show tbk (upd (A2 20) m _) (vp_updL (B2 21) m _) m _
                rw [show rmn (fun y => sq (P y) S) F (andn (2 ^ pcnt S - 1) m) t0 (y + 1) = vlu (u + 2 ^ y) from ?_]
                · refine ⟨fun e => absurd e (by have := hcv.le32 (Nat.le_refl _); unfold sNO; omega), fun _ => ?_⟩
                  rw [pk_us, pk_uLs, (vl_div hu2).1, (vl_div hu2).2, hpc, by8 _ (by omega), by8 _ (by omega)]
                  exact ⟨rfl, rfl⟩
                · show (if _ then _ else _) = _
                  rw [if_pos (by rw [hFy, hty]; rfl), hD2, ← vl_add hnb]
                  exact Nat.min_eq_right (by rw [hR]; exact Nat.le_of_lt (hcv.le32 (Nat.le_refl _)))
              · have hRl : rmn (fun y => sq (P y) S) F (andn (2 ^ pcnt S - 1) m) t0 y < 33 * 2 ^ 32 := Nat.lt_of_le_of_ne (rmn_le ..) hR
                refine EvP.s (fun _ _ K => Ev.go 2 rfl K) ?_
                refine EvP.s (fun _ _ K => Ev.gf rfl lf_1_53_1 hp_5 rfl K) ?_
                refine EvP.s (fun _ _ K => Ev.go 1 rfl K) ?_
                refine EvP.s (fun _ _ K => Ev.bln rfl hp_20 rfl (by omega) (by omega) K) ?_
                rw [(hT.2 hR).1]
                refine EvP.ilt rfl rfl rfl (by omega) (by omega) (fun c185 => ?_) (fun c185 => ?_)
                · refine EvP.s (fun _ _ K => Ev.go 1 rfl K) ?_
                  refine EvP.s (fun _ _ K => Ev.gf rfl lf_1_53_1 hp_5 rfl K) ?_
                  refine EvP.s (fun _ _ K => Ev.go 3 rfl K) ?_
                  refine EvP.s (fun _ _ K => Ev.bsn rfl hp_20 rfl (by omega) (by omega) K) ?_
                  rw [hps_20]
                  skip
                  refine EvP.s (fun _ _ K => Ev.go 1 rfl K) ?_
                  refine EvP.s (fun _ _ K => Ev.gf rfl lf_1_57_1 hp_5 rfl K) ?_
                  refine EvP.s (fun _ _ K => Ev.go 2 rfl K) ?_
                  refine EvP.s (fun _ _ K => Ev.lsn rfl hp_21 rfl (by omega) (by omega) K) ?_
                  rw [hps_21]
                  refine EvP.s (fun _ _ K => Ev.go 2 rfl K) ?_
                  refine ih (n - 1) (by omega) _ _ (y + 1) _ _ _ _ _ (by omega) ((q2.scr _ rfl).scrB _ rfl) h22 (fun a h1 h2 => (hU a h1 h2).oth (by omega)) ?_ (by rw [nI_add])
                  show tbk (upd (A2 20) m _) (vp_updL (B2 21) m _) m _
                  rw [show rmn (fun y => sq (P y) S) F (andn (2 ^ pcnt S - 1) m) t0 (y + 1) = vlu (u + 2 ^ y) from ?_]
                  · refine ⟨fun e => absurd e (by have := hcv.le32 (Nat.le_refl _); unfold sNO; omega), fun _ => ?_⟩
                    rw [pk_us, pk_uLs, (vl_div hu2).1, (vl_div hu2).2, hpc, by8 _ (by omega), by8 _ (by omega)]
                    exact ⟨rfl, rfl⟩
                  · show (if _ then _ else _) = _
                    rw [if_pos (by rw [hFy, hty]; rfl), hD2, ← vl_add hnb]
                    exact Nat.min_eq_right (by have := vlu_eq (u + 2 ^ y); have := Nat.two_pow_pos y; omega)
                refine EvP.s (fun _ _ K => Ev.go 2 rfl K) ?_
                refine EvP.s (fun _ _ K => Ev.gf rfl lf_1_53_1 hp_5 rfl K) ?_
                refine EvP.s (fun _ _ K => Ev.go 1 rfl K) ?_
                refine EvP.s (fun _ _ K => Ev.bln rfl hp_20 rfl (by omega) (by omega) K) ?_
                rw [(hT.2 hR).1]
                refine EvP.ine rfl rfl rfl (by omega) (by omega) (fun c197 => ?_) (fun c197 => ?_)
                · refine EvP.s (fun _ _ K => Ev.go 2 rfl K) ?_
                  refine ih (n - 1) (by omega) A2 B2 (y + 1) _ _ _ _ _ (by omega) q2 h22 hU ?_ (by rw [nI_add])
                  rw [show rmn (fun y => sq (P y) S) F (andn (2 ^ pcnt S - 1) m) t0 (y + 1) = rmn (fun y => sq (P y) S) F (andn (2 ^ pcnt S - 1) m) t0 y from ?_]
                  · exact hT
                  · show (if _ then _ else _) = _
                    rw [if_pos (by rw [hFy, hty]; rfl), hD2, ← vl_add hnb]
                    exact Nat.min_eq_left (by have := vlu_eq (u + 2 ^ y); have := Nat.two_pow_pos y; omega)
                refine EvP.s (fun _ _ K => Ev.go 2 rfl K) ?_
                refine EvP.s (fun _ _ K => Ev.gf rfl lf_1_57_1 hp_5 rfl K) ?_
                refine EvP.s (fun _ _ K => Ev.go 1 rfl K) ?_
                refine EvP.s (fun _ _ K => Ev.lln rfl hp_21 rfl (by omega) (by omega) K) ?_
                rw [(hT.2 hR).2]
                refine EvP.lge rfl rfl rfl rfl (by omega) (by omega) (fun c209 => ?_) (fun c209 => ?_)
                · refine EvP.s (fun _ _ K => Ev.go 2 rfl K) ?_
                  refine ih (n - 1) (by omega) A2 B2 (y + 1) _ _ _ _ _ (by omega) q2 h22 hU ?_ (by rw [nI_add])
                  rw [show rmn (fun y => sq (P y) S) F (andn (2 ^ pcnt S - 1) m) t0 (y + 1) = rmn (fun y => sq (P y) S) F (andn (2 ^ pcnt S - 1) m) t0 y from ?_]
                  · exact hT
                  · show (if _ then _ else _) = _
                    rw [if_pos (by rw [hFy, hty]; rfl), hD2, ← vl_add hnb]
                    exact Nat.min_eq_left (by have := vlu_eq (u + 2 ^ y); have := Nat.two_pow_pos y; omega)
                refine EvP.s (fun _ _ K => Ev.go 1 rfl K) ?_
                refine EvP.s (fun _ _ K => Ev.gf rfl lf_1_53_1 hp_5 rfl K) ?_
                refine EvP.s (fun _ _ K => Ev.go 3 rfl K) ?_
                refine EvP.s (fun _ _ K => Ev.bsn rfl hp_20 rfl (by omega) (by omega) K) ?_
                rw [hps_20]
                skip
                refine EvP.s (fun _ _ K => Ev.go 1 rfl K) ?_
                refine EvP.s (fun _ _ K => Ev.gf rfl lf_1_57_1 hp_5 rfl K) ?_
                refine EvP.s (fun _ _ K => Ev.go 2 rfl K) ?_
                refine EvP.s (fun _ _ K => Ev.lsn rfl hp_21 rfl (by omega) (by omega) K) ?_
                rw [hps_21]
                refine EvP.s (fun _ _ K => Ev.go 2 rfl K) ?_
                refine ih (n - 1) (by omega) _ _ (y + 1) _ _ _ _ _ (by omega) ((q2.scr _ rfl).scrB _ rfl) h22 (fun a h1 h2 => (hU a h1 h2).oth (by omega)) ?_ (by rw [nI_add])
                show tbk (upd (A2 20) m _) (vp_updL (B2 21) m _) m _
                rw [show rmn (fun y => sq (P y) S) F (andn (2 ^ pcnt S - 1) m) t0 (y + 1) = vlu (u + 2 ^ y) from ?_]
                · refine ⟨fun e => absurd e (by have := hcv.le32 (Nat.le_refl _); unfold sNO; omega), fun _ => ?_⟩
                  rw [pk_us, pk_uLs, (vl_div hu2).1, (vl_div hu2).2, hpc, by8 _ (by omega), by8 _ (by omega)]
                  exact ⟨rfl, rfl⟩
                · show (if _ then _ else _) = _
                  rw [if_pos (by rw [hFy, hty]; rfl), hD2, ← vl_add hnb]
                  exact Nat.min_eq_right (by have := vlu_eq (u + 2 ^ y); have := Nat.two_pow_pos y; omega)
        refine EvP.s (fun _ _ K => Ev.go 1 rfl K) ?_
        refine EvP.s (fun _ _ K => Ev.bf rfl rfl (nI_nl0 (by omega)) K) ?_
        refine EvP.s (fun _ _ K => Ev.go 1 rfl K) ?_
        refine EvP.s (fun _ _ K => Ev.gf rfl lf_1_53_1 hp_5 rfl K) ?_
        refine EvP.s (fun _ _ K => Ev.go 2 rfl K) ?_
        refine EvP.s (fun _ _ K => Ev.bsn rfl hp_20 rfl (by omega) (by omega) K) ?_
        rw [hps_20]
        refine EvP.s (fun _ _ K => Ev.go 10 rfl K) ?_
        rw [hi_I (by omega) he]
        refine Li 32 _ _ 0 _ _ _ _ _ (by omega) (q2.scr _ rfl) h22 (fun a h1 h2 => (hU a (by omega) h2).oth1 (by omega)) ?_ rfl
        refine ⟨fun _ => ?_, fun e => absurd rfl e⟩
        show upd (A2 20) m _ m = _
        rw [pk_us, by8 _ (by omega)]
  have L1 : ∀ (n : Nat) (A2 : sn_A2) (i : Nat) (iv : Int32) (v7 : Value) (v8 : Value) (v9 : Value) (v10 : Value) (v11 : Value) (v12 : Value), (i + n = 32) → (MS A2 B μ) → (∀ y, y < i → A2 22 y = nI (if F.testBit y then sq (P y) S else 0)) → (iv = nI i) → EvP o0 (d + 2) me_M_cover 13 [.ref 5, .long (lN F), .retAddr 0, .long (lN S), .retAddr 0, .int (nI (2 ^ pcnt S - 1)), .int iv, v7, v8, v9, v10, v11, v12] [] (hp x A2 B t) (PCo x t μ (dp (fun y => sq (P y) S) F 32 (2 ^ pcnt S - 1))) := by
    intro n
    induction n using Nat.strongRecOn with
    | _ n ih =>
      intro A2 i iv v7 v8 v9 v10 v11 v12 k1 q2 h22 e3
      subst e3
      refine EvP.s (fun _ _ K => Ev.go 2 rfl K) ?_
      refine EvP.ige rfl rfl rfl (by omega) (by omega) (fun c17 => ?_) (fun c17 => ?_)
      · refine EvP.s (fun _ _ K => Ev.go 1 rfl K) ?_
        refine EvP.s (fun _ _ K => Ev.gf rfl lf_1_53_1 hp_5 rfl K) ?_
        refine EvP.s (fun _ _ K => Ev.go 2 rfl K) ?_
        refine EvP.s (fun _ _ K => Ev.bsn rfl hp_20 rfl (by omega) (by omega) K) ?_
        rw [hps_20]
        skip
        refine EvP.s (fun _ _ K => Ev.go 1 rfl K) ?_
        refine EvP.s (fun _ _ K => Ev.gf rfl lf_1_57_1 hp_5 rfl K) ?_
        refine EvP.s (fun _ _ K => Ev.go 2 rfl K) ?_
        refine EvP.s (fun _ _ K => Ev.lsn rfl hp_21 rfl (by omega) (by omega) K) ?_
        rw [hps_21]
        refine EvP.s (fun _ _ K => Ev.go 4 rfl K) ?_
        refine Lo (2 ^ pcnt S - 1) _ _ _ _ _ _ _ _ _ (Nat.le_refl _) ((q2.scr _ rfl).scrB _ rfl) (fun y hy => h22 y (by omega)) (fun a h1 h2 => ?_) rfl
        have ea : a = (2 ^ pcnt S - 1) := by omega
        subst ea
        rw [andn_s, dp_0]
        refine ⟨fun e => absurd e (by decide), fun _ => ?_⟩
        show upd (A2 20) (2 ^ pcnt S - 1) _ (2 ^ pcnt S - 1) = _ ∧ vp_updL (B 21) (2 ^ pcnt S - 1) _ (2 ^ pcnt S - 1) = _
        rw [pk_us, pk_uLs, by8 _ (by omega)]
        exact ⟨rfl, rfl⟩
      refine EvP.s (fun _ _ K => Ev.go 1 rfl K) ?_
      refine EvP.s (fun _ _ K => Ev.gf rfl lf_1_60_1 hp_5 rfl K) ?_
      refine EvP.s (fun _ _ K => Ev.go 3 rfl K) ?_
      refine EvP.s (fun _ _ K => Ev.cs (E' := me_M_has) rfl mk_M_has ls_1_100 rfl rfl (e_M_has (d + 1) _ rfl rfl (by omega) (by omega)) K) ?_
      refine EvP.zb rfl rfl (fun c32 => ?_) (fun c32 => ?_)
      · refine EvP.s (fun _ _ K => Ev.go 1 rfl K) ?_
        refine EvP.s (fun _ _ K => Ev.isn rfl hp_22 rfl (by omega) (by omega) K) ?_
        rw [hps_22]
        refine EvP.s (fun _ _ K => Ev.go 2 rfl K) ?_
        refine ih (n - 1) (by omega) _ (i + 1) _ _ _ _ _ _ _ (by omega) (q2.scr _ rfl) (fun y hy => ?_) (by rw [nI_add])
        show upd (A2 22) i _ y = _
        by_cases e : y = i
        · subst e; rw [pk_us, c32, if_neg (by decide)]
        · rw [pk_un e]; exact h22 y (by omega)
      refine EvP.s (fun _ _ K => Ev.go 1 rfl K) ?_
      refine EvP.s (fun _ _ K => Ev.gf rfl lf_1_50_1 hp_5 rfl K) ?_
      refine EvP.s (fun _ _ K => Ev.go 1 rfl K) ?_
      refine EvP.s (fun _ _ K => Ev.lln rfl hp_19 rfl (by omega) (by omega) K) ?_
      rw [hP i (by omega)]
      refine EvP.s (fun _ _ K => Ev.go 1 rfl K) ?_
      refine EvP.s (fun _ _ K => Ev.cs (E' := me_M_folded) rfl mk_M_folded ls_1_229 rfl rfl (e_M_folded d _ rfl rfl (hPl i) hS h12) K) ?_
      refine EvP.s (fun _ _ K => Ev.go 1 rfl K) ?_
      refine EvP.s (fun _ _ K => Ev.isn rfl hp_22 rfl (by omega) (by omega) K) ?_
      rw [hps_22]
      refine EvP.s (fun _ _ K => Ev.go 2 rfl K) ?_
      refine ih (n - 1) (by omega) _ (i + 1) _ _ _ _ _ _ _ (by omega) (q2.scr _ rfl) (fun y hy => ?_) (by rw [nI_add])
      show upd (A2 22) i _ y = _
      by_cases e : y = i
      · subst e; rw [pk_us, if_pos c32]
      · rw [pk_un e]; exact h22 y (by omega)
  refine EvP.s (fun _ _ K => Ev.go 2 rfl K) ?_
  refine EvP.s (fun _ _ K => Ev.cs (E' := me_M_ones) rfl mk_M_ones ls_1_127 rfl rfl (e_M_ones (d + 1) _ rfl hS) K) ?_
  refine EvP.s (fun _ _ K => Ev.go 6 rfl K) ?_
  rw [shI31 _ (by omega), show nI (2 ^ pcnt S) - nI 1 = nI (2 ^ pcnt S - 1) by
    obtain ⟨z, ez⟩ : ∃ z, 2 ^ pcnt S = z + 1 := ⟨2 ^ pcnt S - 1, by omega⟩
    rw [ez, dec1, Nat.add_sub_cancel]]
  exact L1 32 A 0 _ _ _ _ _ _ _ (by omega) q (fun y hy => absurd hy (Nat.not_lt_zero y)) rfl
set_option maxHeartbeats 4000000 in
theorem p_M_made (d : Nat) (x : sn_X5) {A : sn_A2} {B : sn_B2} (t : sn_H) {μ : sn_S} (q : MS A B μ) (kv wv : Int32) : SpP (d + 4) me_M_made [.ref 5, .int kv, .int wv] (hp x A B t) (PMl x t (an_made μ kv wv, μ)) := by
  refine SpP.of ok_M_made (fun r h' z => z.rc) rfl ?_
  refine EvP.s (fun _ _ K => Ev.go 2 rfl K) ?_
  refine EvP.s (fun _ _ K => Ev.cv (E' := me_M_isBook) rfl mk_M_isBook lv_1_131_1 rfl hp_5 rfl (e_M_isBook (d + 2) x t q _) K) ?_
  refine EvP.zn rfl rfl (fun c5 => ?_) (fun c5 => ?_)
  · refine EvP.s (fun _ _ K => Ev.go 4 rfl K) ?_
    refine EvP.s (fun _ _ K => Ev.cs (E' := me_M_within) rfl mk_M_within ls_1_77 rfl rfl (e_M_within0 (d + 3) _ _ (n := 4) rfl) K) ?_
    refine EvP.zn rfl rfl (fun c21 => ?_) (fun c21 => ?_)
    · obtain ⟨k, hk1, hk2, rfl⟩ := rg_ex (ofd c5)
      obtain ⟨w, hw, hw2, rfl⟩ := rg_ex (n := 4) (ofd c21)
      have h5 := (q.1.2.2 k hk1).1
      have K51 : (bk (sbk μ k) = 0 ∨ bk (sbk μ k) = 2) → EvP o0 (d + 4) me_M_made 51 [.ref 5, .int (nI k), .int (nI w), .retAddr 0, .retAddr 0, .retAddr 0, .retAddr 0, .retAddr 0, .retAddr 0, .retAddr 0, .retAddr 0] [] (hp x A B t) (PMl x t (an_made μ (nI k) (nI w), μ)) := by
        intro hkd
        have hu : an_made μ (nI k) (nI w) = mda (pls (sw μ) (sbk μ k)) (fil (sbk μ k)) w := by
          unfold an_made; rw [tn_nI hk2, tn_nI hw2, if_neg (fun z => z (ofd c5)), if_neg (fun z => z (ofd c21)), if_neg (fun z => z hkd)]
        obtain ⟨r2, h2, sp2, er, B2, eh, hP, h14⟩ := e_M_layPlaces d x t q (rfl : nI k = nI k) hk1
        subst er
        subst eh
        have q2 := q.b14 h14
        have hPl : ∀ y, (pls (sw μ) (sbk μ k)) y < 2 ^ 32 := fun y => pls_lt (q.1.2.2 k hk1) y
        have hSl := fil_lt (q.1.2.2 k hk1)
        have hFl := fits_lt (pls (sw μ) (sbk μ k)) (fil (sbk μ k)) (Nat.le_refl 32)
        have T : EvP o0 (d + 4) me_M_made 129 [.ref 5, .int (nI k), .int (nI w), .long (lN (fil (sbk μ k))), .retAddr 0, .long (lN (fits (pls (sw μ) (sbk μ k)) (fil (sbk μ k)) 32)), .retAddr 0, .int (nI 32), .retAddr 0, .retAddr 0, .retAddr 0] [.int (b2i (decide (uno (pls (sw μ) (sbk μ k)) (fits (pls (sw μ) (sbk μ k)) (fil (sbk μ k)) 32) (-1) 32 = (fil (sbk μ k)))))] (hp x A B2 t) (PMl x t (an_made μ (nI k) (nI w), μ)) := by
          refine EvP.s (fun _ _ K => Ev.go 3 rfl K) ?_
          refine EvP.ige rfl rfl rfl (by omega) (by omega) (fun c133 => ?_) (fun c133 => ?_)
          · have L2 : ∀ (n : Nat) (i : Nat) (sv : Int64) (iv : Int32), (i + n = 32) → (sv = lN (sure (pls (sw μ) (sbk μ k)) (fits (pls (sw μ) (sbk μ k)) (fil (sbk μ k)) 32) (fil (sbk μ k)) i)) → (iv = nI i) → EvP o0 (d + 4) me_M_made 192 [.ref 5, .int (nI k), .int (nI w), .long (lN (fil (sbk μ k))), .retAddr 0, .long (lN (fits (pls (sw μ) (sbk μ k)) (fil (sbk μ k)) 32)), .retAddr 0, .int (b2i (decide (uno (pls (sw μ) (sbk μ k)) (fits (pls (sw μ) (sbk μ k)) (fil (sbk μ k)) 32) (-1) 32 = (fil (sbk μ k))))), .long sv, .retAddr 0, .int iv] [] (hp x A B2 t) (PMl x t (an_made μ (nI k) (nI w), μ)) := by
              intro n
              induction n using Nat.strongRecOn with
              | _ n ih =>
                intro i sv iv k1 e2 e3
                subst e2
                subst e3
                refine EvP.s (fun _ _ K => Ev.go 2 rfl K) ?_
                refine EvP.ige rfl rfl rfl (by omega) (by omega) (fun c196 => ?_) (fun c196 => ?_)
                · refine EvP.s (fun _ _ K => Ev.go 1 rfl K) ?_
                  refine EvP.zn rfl rfl (fun c243 => ?_) (fun c243 => ?_)
                  · refine EvP.s (fun _ _ K => Ev.go 2 rfl K) ?_
                    refine EvP.ine rfl rfl rfl (by omega) (by omega) (fun c252 => ?_) (fun c252 => ?_)
                    · refine EvP.s (fun _ _ K => Ev.go 1 rfl K) ?_
                      refine ⟨_, _, Ev.retl rfl rfl, ?_⟩
                      refine PMl.mk q2 ?_
                      rw [hu]; unfold mda; rw [if_neg (by omega), if_neg (fun z => z (ofd c243)), if_neg c252]
                    refine EvP.s (fun _ _ K => Ev.go 2 rfl K) ?_
                    refine ⟨_, _, Ev.retl rfl rfl, ?_⟩
                    refine PMl.mk q2 ?_
                    rw [hu]; unfold mda; rw [if_neg (by omega), if_neg (fun z => z (ofd c243)), if_pos c252, show i = 32 by omega]
                  refine EvP.s (fun _ _ K => Ev.go 2 rfl K) ?_
                  refine ⟨_, _, Ev.retl rfl rfl, ?_⟩
                  refine PMl.mk q2 ?_
                  rw [hu]; unfold mda; rw [if_neg (by omega), if_pos (ofn c243)]
                  rfl
                refine EvP.s (fun _ _ K => Ev.go 3 rfl K) ?_
                refine EvP.s (fun _ _ K => Ev.cs (E' := me_M_has) rfl mk_M_has ls_1_100 rfl rfl (e_M_has (d + 3) _ rfl rfl (by omega) (by omega)) K) ?_
                refine EvP.zb rfl rfl (fun c208 => ?_) (fun c208 => ?_)
                · refine EvP.s (fun _ _ K => Ev.go 5 rfl K) ?_
                  refine ih (n - 1) (by omega) (i + 1) _ _ (by omega) ?_ (by rw [nI_add])
                  show _ = lN (sure (pls (sw μ) (sbk μ k)) (fits (pls (sw μ) (sbk μ k)) (fil (sbk μ k)) 32) (fil (sbk μ k)) i ||| (if (fits (pls (sw μ) (sbk μ k)) (fil (sbk μ k)) 32).testBit i = true ∧ ¬ uno (pls (sw μ) (sbk μ k)) (fits (pls (sw μ) (sbk μ k)) (fil (sbk μ k)) 32) i 32 = (fil (sbk μ k)) then 2 ^ i else 0))
                  rw [if_neg (fun w => by rw [c208] at w; cases w.1)]
                  exact fb_orL _ 0
                refine EvP.s (fun _ _ K => Ev.go 3 rfl K) ?_
                refine EvP.s (fun _ _ K => Ev.cv (E' := me_M_unionOf) rfl mk_M_unionOf lv_1_233_1 rfl hp_5 rfl (e_M_unionOf (d + 2) x t hP rfl hFl (fun j hj => hz_k (by omega) hj)) K) ?_
                refine EvP.s (fun _ _ K => Ev.go 1 rfl K) ?_
                refine EvP.leq rfl rfl rfl rfl (by have := uno_lt (F := (fits (pls (sw μ) (sbk μ k)) (fil (sbk μ k)) 32)) (n := 32) (z := (i : Int)) hPl; omega) (by omega) (fun c220 => ?_) (fun c220 => ?_)
                · refine EvP.s (fun _ _ K => Ev.go 5 rfl K) ?_
                  refine ih (n - 1) (by omega) (i + 1) _ _ (by omega) ?_ (by rw [nI_add])
                  show _ = lN (sure (pls (sw μ) (sbk μ k)) (fits (pls (sw μ) (sbk μ k)) (fil (sbk μ k)) 32) (fil (sbk μ k)) i ||| (if (fits (pls (sw μ) (sbk μ k)) (fil (sbk μ k)) 32).testBit i = true ∧ ¬ uno (pls (sw μ) (sbk μ k)) (fits (pls (sw μ) (sbk μ k)) (fil (sbk μ k)) 32) i 32 = (fil (sbk μ k)) then 2 ^ i else 0))
                  rw [if_neg (fun w => w.2 c220)]
                  exact fb_orL _ 0
                refine EvP.s (fun _ _ K => Ev.go 4 rfl K) ?_
                refine EvP.s (fun _ _ K => Ev.go 4 rfl K) ?_
                refine ih (n - 1) (by omega) (i + 1) _ _ (by omega) ?_ (by rw [nI_add])
                show _ = lN (sure (pls (sw μ) (sbk μ k)) (fits (pls (sw μ) (sbk μ k)) (fil (sbk μ k)) 32) (fil (sbk μ k)) i ||| (if (fits (pls (sw μ) (sbk μ k)) (fil (sbk μ k)) 32).testBit i = true ∧ ¬ uno (pls (sw μ) (sbk μ k)) (fits (pls (sw μ) (sbk μ k)) (fil (sbk μ k)) 32) i 32 = (fil (sbk μ k)) then 2 ^ i else 0))
                rw [if_pos ⟨c208, c220⟩, sh1 (by omega)]
                exact fb_orL _ _
            refine EvP.s (fun _ _ K => Ev.go 4 rfl K) ?_
            exact L2 32 0 _ _ (by omega) rfl rfl
          have hp32 := pcnt_le hSl
          refine EvP.s (fun _ _ K => Ev.go 1 rfl K) ?_
          refine EvP.s (fun _ _ K => Ev.cs (E' := me_M_ones) rfl mk_M_ones ls_1_127 rfl rfl (e_M_ones (d + 3) _ rfl hSl) K) ?_
          refine EvP.s (fun _ _ K => Ev.go 1 rfl K) ?_
          refine EvP.ile rfl rfl rfl (by omega) (by omega) (fun c142 => ?_) (fun c142 => ?_)
          · refine EvP.s (fun _ _ K => Ev.go 1 rfl K) ?_
            refine EvP.zn rfl rfl (fun c151 => ?_) (fun c151 => ?_)
            · obtain ⟨r3, h3, sp3, er3, A3, B3, eh3, q3, hT3⟩ := e_M_cover (d + 1) x t q2 hP hPl (rfl : lN (fits (pls (sw μ) (sbk μ k)) (fil (sbk μ k)) 32) = _) (rfl : lN (fil (sbk μ k)) = _) hFl hSl (by omega)
              subst er3
              subst eh3
              have hne := (can_iff hSl).mp (ofd c151)
              have hv32 : mdv (pls (sw μ) (sbk μ k)) (fil (sbk μ k)) / 2 ^ 32 < 2 ^ 31 := by
                obtain ⟨u, h1, h2⟩ := dp_val hne
                have h3 := pcnt_le h2.1
                unfold mdv
                rw [h1, (vl_div h2.1).1]
                omega
              refine EvP.s (fun _ _ K => Ev.go 3 rfl K) ?_
              refine EvP.s (fun _ _ K => Ev.cv0 (E' := me_M_cover) rfl mk_M_cover lv_1_239_1 rfl hp_5 rfl (sp3) K) ?_
              refine EvP.s (fun _ _ K => Ev.go 1 rfl K) ?_
              refine EvP.zne rfl rfl (by omega) (fun c166 => ?_) (fun c166 => ?_)
              · refine EvP.s (fun _ _ K => Ev.go 1 rfl K) ?_
                refine EvP.s (fun _ _ K => Ev.gf rfl lf_1_57_1 hp_5 rfl K) ?_
                refine EvP.s (fun _ _ K => Ev.go 1 rfl K) ?_
                refine EvP.s (fun _ _ K => Ev.lln rfl hp_21 rfl (by omega) (by omega) K) ?_
                rw [(hT3.2 hne).2]
                refine ⟨_, _, Ev.retl rfl rfl, ?_⟩
                refine PMl.mk q3 ?_
                rw [hu]; unfold mda; rw [if_pos c133, if_neg (by omega), if_neg (fun z => z (ofd c151)), if_neg (by omega)]
                rfl
              refine EvP.s (fun _ _ K => Ev.go 1 rfl K) ?_
              refine EvP.s (fun _ _ K => Ev.gf rfl lf_1_53_1 hp_5 rfl K) ?_
              refine EvP.s (fun _ _ K => Ev.go 1 rfl K) ?_
              refine EvP.s (fun _ _ K => Ev.bln rfl hp_20 rfl (by omega) (by omega) K) ?_
              rw [(hT3.2 hne).1]
              refine EvP.s (fun _ _ K => Ev.go 2 rfl K) ?_
              refine ⟨_, _, Ev.retl rfl rfl, ?_⟩
              refine PMl.mk q3 ?_
              rw [hu]; unfold mda; rw [if_pos c133, if_neg (by omega), if_neg (fun z => z (ofd c151)), if_pos c166]
              exact congrArg (fun z : Int64 => (z, μ)) (nI_l hv32)
            refine EvP.s (fun _ _ K => Ev.go 1 rfl K) ?_
            refine ⟨_, _, Ev.retl rfl rfl, ?_⟩
            refine PMl.mk q2 ?_
            rw [hu]; unfold mda; rw [if_pos c133, if_neg (by omega), if_pos (ofn c151)]
          refine EvP.s (fun _ _ K => Ev.go 1 rfl K) ?_
          refine ⟨_, _, Ev.retl rfl rfl, ?_⟩
          refine PMl.mk q2 ?_
          rw [hu]; unfold mda; rw [if_pos c133, if_pos (by omega)]
        have L1 : ∀ (n : Nat) (i : Nat) (fv : Int64) (iv : Int32), (i + n = 32) → (fv = lN (fits (pls (sw μ) (sbk μ k)) (fil (sbk μ k)) i)) → (iv = nI i) → EvP o0 (d + 4) me_M_made 68 [.ref 5, .int (nI k), .int (nI w), .long (lN (fil (sbk μ k))), .retAddr 0, .long fv, .retAddr 0, .int iv, .retAddr 0, .retAddr 0, .retAddr 0] [] (hp x A B2 t) (PMl x t (an_made μ (nI k) (nI w), μ)) := by
          intro n
          induction n using Nat.strongRecOn with
          | _ n ih =>
            intro i fv iv k1 e2 e3
            subst e2
            subst e3
            refine EvP.s (fun _ _ K => Ev.go 2 rfl K) ?_
            refine EvP.ige rfl rfl rfl (by omega) (by omega) (fun c72 => ?_) (fun c72 => ?_)
            · have ei : i = 32 := by omega
              subst ei
              refine EvP.s (fun _ _ K => Ev.go 3 rfl K) ?_
              refine EvP.s (fun _ _ K => Ev.cv (E' := me_M_unionOf) rfl mk_M_unionOf lv_1_233_1 rfl hp_5 rfl (e_M_unionOf (d + 2) x t hP rfl hFl (fun j hj => hz_m hj)) K) ?_
              refine EvP.s (fun _ _ K => Ev.go 1 rfl K) ?_
              refine EvP.lne rfl rfl rfl rfl (by have := uno_lt (F := (fits (pls (sw μ) (sbk μ k)) (fil (sbk μ k)) 32)) (n := 32) (z := -1) hPl; omega) (by omega) (fun c120 => ?_) (fun c120 => ?_)
              · refine EvP.s (fun _ _ K => Ev.go 1 rfl K) ?_
                rw [b2i_df c120]
                exact T
              refine EvP.s (fun _ _ K => Ev.go 2 rfl K) ?_
              rw [b2i_dt c120]
              exact T
            refine EvP.s (fun _ _ K => Ev.go 2 rfl K) ?_
            refine EvP.s (fun _ _ K => Ev.gf rfl lf_1_50_1 hp_5 rfl K) ?_
            refine EvP.s (fun _ _ K => Ev.go 1 rfl K) ?_
            refine EvP.s (fun _ _ K => Ev.lln rfl hp_19 rfl (by omega) (by omega) K) ?_
            rw [hP i (by omega)]
            refine EvP.s (fun _ _ K => Ev.go 4 rfl K) ?_
            rw [lN_andn]
            refine EvP.s (fun _ _ K => Ev.go 1 rfl K) ?_
            refine EvP.lne rfl rfl rfl rfl (by have := andn_lt (b := (fil (sbk μ k))) (hPl i); omega) (by omega) (fun c91 => ?_) (fun c91 => ?_)
            · refine EvP.s (fun _ _ K => Ev.go 5 rfl K) ?_
              refine ih (n - 1) (by omega) (i + 1) _ _ (by omega) ?_ (by rw [nI_add])
              show _ = lN (fits (pls (sw μ) (sbk μ k)) (fil (sbk μ k)) i ||| (if andn ((pls (sw μ) (sbk μ k)) i) (fil (sbk μ k)) = 0 then 2 ^ i else 0))
              rw [if_neg c91]
              exact fb_orL _ 0
            refine EvP.s (fun _ _ K => Ev.go 4 rfl K) ?_
            refine EvP.s (fun _ _ K => Ev.go 4 rfl K) ?_
            refine ih (n - 1) (by omega) (i + 1) _ _ (by omega) ?_ (by rw [nI_add])
            show _ = lN (fits (pls (sw μ) (sbk μ k)) (fil (sbk μ k)) i ||| (if andn ((pls (sw μ) (sbk μ k)) i) (fil (sbk μ k)) = 0 then 2 ^ i else 0))
            rw [if_pos c91, sh1 (by omega)]
            exact fb_orL _ _
        refine EvP.s (fun _ _ K => Ev.go 2 rfl K) ?_
        refine EvP.s (fun _ _ K => Ev.cv0 (E' := me_M_layPlaces) rfl mk_M_layPlaces lv_1_221_1 rfl hp_5 rfl (sp2) K) ?_
        refine EvP.s (fun _ _ K => Ev.go 2 rfl K) ?_
        refine EvP.s (fun _ _ K => Ev.cv (E' := me_M_filled) rfl mk_M_filled lv_1_176_1 rfl hp_5 rfl (e_M_filled (d + 3) x t (q2.mk hk1) rfl) K) ?_
        refine EvP.s (fun _ _ K => Ev.go 5 rfl K) ?_
        exact L1 32 0 _ _ (by omega) rfl rfl
      refine EvP.s (fun _ _ K => Ev.go 1 rfl K) ?_
      refine EvP.s (fun _ _ K => Ev.gf rfl lf_1_16_1 hp_5 rfl K) ?_
      refine EvP.s (fun _ _ K => Ev.go 1 rfl K) ?_
      refine EvP.s (fun _ _ K => Ev.iln rfl hp_8 rfl (by have := (q.mk hk1).2.2.2.2; omega) (by omega) K) ?_
      rw [(q.mk hk1).2.2.2.1.1]
      refine EvP.zeq rfl rfl (by omega) (fun c34 => ?_) (fun c34 => ?_)
      · exact K51 (Or.inl c34)
      refine EvP.s (fun _ _ K => Ev.go 1 rfl K) ?_
      refine EvP.s (fun _ _ K => Ev.gf rfl lf_1_16_1 hp_5 rfl K) ?_
      refine EvP.s (fun _ _ K => Ev.go 1 rfl K) ?_
      refine EvP.s (fun _ _ K => Ev.iln rfl hp_8 rfl (by have := (q.mk hk1).2.2.2.2; omega) (by omega) K) ?_
      rw [(q.mk hk1).2.2.2.1.1]
      refine EvP.s (fun _ _ K => Ev.go 1 rfl K) ?_
      refine EvP.ieq rfl rfl rfl (by omega) (by omega) (fun c44 => ?_) (fun c44 => ?_)
      · exact K51 (Or.inr c44)
      refine EvP.s (fun _ _ K => Ev.go 1 rfl K) ?_
      refine ⟨_, _, Ev.retl rfl rfl, ?_⟩
      refine PMl.mk q ?_
      unfold an_made; rw [tn_nI hk2, if_neg (fun z => z (ofd c5)), if_neg (fun z => z (ofd c21)), if_pos (by omega)]
    refine EvP.s (fun _ _ K => Ev.go 1 rfl K) ?_
    refine ⟨_, _, Ev.retl rfl rfl, ?_⟩
    refine PMl.mk q ?_
    unfold an_made; rw [if_neg (fun z => z (ofd c5)), if_pos (ofn c21)]
  refine EvP.s (fun _ _ K => Ev.go 1 rfl K) ?_
  refine ⟨_, _, Ev.retl rfl rfl, ?_⟩
  refine PMl.mk q ?_
  unfold an_made; rw [if_pos (ofn c5)]
