/-! SPOILING, AS NUMBERS -/
def sLs (S : Nat → Prop) (o : Option Nat) : Prop := (∀ v, o = some v → S v) ∧ ∀ u, S u → ∃ v, o = some v ∧ v ≤ u
theorem sLs.uniq {S : Nat → Prop} {o o' : Option Nat} (h : sLs S o) (h' : sLs S o') : o = o' := by
  cases o with
  | none =>
    cases o' with
    | none => rfl
    | some v' =>
      obtain ⟨v, e, _⟩ := h.2 v' (h'.1 v' rfl)
      cases e
  | some v =>
    obtain ⟨v', e, hv⟩ := h'.2 v (h.1 v rfl)
    subst e
    obtain ⟨v2, e2, hv2⟩ := h.2 v' (h'.1 v' rfl)
    cases e2
    rw [Nat.le_antisymm hv2 hv]
theorem sLs.cong {S S' : Nat → Prop} {o : Option Nat} (e : ∀ u, S u ↔ S' u) (h : sLs S o) : sLs S' o :=
  ⟨fun v hv => (e v).mp (h.1 v hv), fun u hu => h.2 u ((e u).mpr hu)⟩
theorem sLs.add {S S' : Nat → Prop} {o : Option Nat} {v : Nat} (h : sLs S o) (e : ∀ u, S' u ↔ (S u ∨ u = v)) (hv : ∀ w, o = some w → v < w) : sLs S' (some v) := by
  refine ⟨fun w hw => ?_, fun u hu => ?_⟩
  · cases hw; exact (e v).mpr (Or.inr rfl)
  · rcases (e u).mp hu with q | q
    · obtain ⟨w, hw, hle⟩ := h.2 u q
      exact ⟨v, rfl, by have := hv w hw; omega⟩
    · exact ⟨v, rfl, by omega⟩
theorem sLs.old {S S' : Nat → Prop} {o : Option Nat} {v w : Nat} (h : sLs S o) (e : ∀ u, S' u ↔ (S u ∨ u = v)) (ho : o = some w) (hv : w ≤ v) : sLs S' o := by
  refine ⟨fun x hx => (e x).mpr (Or.inl (h.1 x hx)), fun u hu => ?_⟩
  rcases (e u).mp hu with q | q
  · exact h.2 u q
  · exact ⟨w, ho, by omega⟩
/-- the least set of so many keys below a bound, the greatest key first -/
def lfF (g : Nat → Nat → Option Nat) (P : Nat → Nat) (miss : Nat) : Nat → Nat → Option Nat
  | 0, _ => none
  | f + 1, k => if P k &&& miss = 0 then lfF g P miss f (k + 1) else match g (andn miss (P k)) k with
    | some lo => some (lo ||| 2 ^ k)
    | none => lfF g P miss f (k + 1)
def lf (P : Nat → Nat) : Nat → Nat → Nat → Option Nat
  | 0 => fun miss _ => if miss = 0 then some 0 else none
  | n + 1 => fun miss bd => lfF (lf P n) P miss (bd - n) n
def sCv (P : Nat → Nat) : Nat → Nat → Nat → Nat → Prop
  | 0, miss, _, u => miss = 0 ∧ u = 0
  | n + 1, miss, bd, u => ∃ k lo, n ≤ k ∧ k < bd ∧ P k &&& miss ≠ 0 ∧ sCv P n (andn miss (P k)) k lo ∧ u = lo ||| 2 ^ k
theorem sCv_lt {P : Nat → Nat} : ∀ {n miss bd u : Nat}, sCv P n miss bd u → u < 2 ^ bd
  | 0, miss, bd, u, h => by rw [h.2]; exact Nat.two_pow_pos bd
  | n + 1, miss, bd, u, h => by
    obtain ⟨k, lo, h1, h2, h3, h4, rfl⟩ := h
    have h5 := sCv_lt h4
    refine Nat.or_lt_two_pow (Nat.lt_of_lt_of_le h5 (Nat.pow_le_pow_right (by omega) (by omega))) (Nat.pow_lt_pow_right (by omega) h2)
theorem or_pow {lo k : Nat} (h : lo < 2 ^ k) : lo ||| 2 ^ k = 2 ^ k + lo := by
  have e := Nat.two_pow_add_eq_or_of_lt h 1
  rw [Nat.mul_one] at e
  rw [e, Nat.or_comm]
theorem lfF_least {P : Nat → Nat} {n miss : Nat} (ih : ∀ m bd, sLs (sCv P n m bd) (lf P n m bd)) : ∀ f k, sLs (fun u => ∃ k' lo, k ≤ k' ∧ k' < k + f ∧ P k' &&& miss ≠ 0 ∧ sCv P n (andn miss (P k')) k' lo ∧ u = lo ||| 2 ^ k') (lfF (lf P n) P miss f k)
  | 0, k => ⟨fun v hv => (by cases hv), fun u hu => by obtain ⟨k', _, h1, h2, _⟩ := hu; omega⟩
  | f + 1, k => by
    have hr := lfF_least (miss := miss) ih f (k + 1)
    have skip : (¬ ∃ lo, P k &&& miss ≠ 0 ∧ sCv P n (andn miss (P k)) k lo) → ∀ u, (∃ k' lo, k + 1 ≤ k' ∧ k' < k + 1 + f ∧ P k' &&& miss ≠ 0 ∧ sCv P n (andn miss (P k')) k' lo ∧ u = lo ||| 2 ^ k') ↔ ∃ k' lo, k ≤ k' ∧ k' < k + (f + 1) ∧ P k' &&& miss ≠ 0 ∧ sCv P n (andn miss (P k')) k' lo ∧ u = lo ||| 2 ^ k' := by
      intro hn u
      constructor
      · rintro ⟨k', lo, h1, h2, h3⟩
        exact ⟨k', lo, by omega, by omega, h3⟩
      · rintro ⟨k', lo, h1, h2, h3, h4, h5⟩
        by_cases e : k' = k
        · subst e; exact absurd ⟨lo, h3, h4⟩ hn
        · exact ⟨k', lo, by omega, by omega, h3, h4, h5⟩
    unfold lfF
    by_cases h0 : P k &&& miss = 0
    · rw [if_pos h0]
      exact hr.cong (skip (fun ⟨lo, h1, _⟩ => h1 h0))
    · rw [if_neg h0]
      have hk := ih (andn miss (P k)) k
      cases hg : lf P n (andn miss (P k)) k with
      | none =>
        refine hr.cong (skip (fun ⟨lo, _, h2⟩ => ?_))
        obtain ⟨v, e, _⟩ := hk.2 lo h2
        rw [hg] at e; cases e
      | some lo =>
        have hlo := hk.1 lo hg
        have hlt := sCv_lt hlo
        refine ⟨fun v hv => ?_, fun u hu => ?_⟩
        · cases hv
          exact ⟨k, lo, Nat.le_refl _, by omega, h0, hlo, rfl⟩
        · obtain ⟨k', lo', h1, h2, h3, h4, rfl⟩ := hu
          refine ⟨_, rfl, ?_⟩
          rw [or_pow hlt, or_pow (sCv_lt h4)]
          by_cases e : k' = k
          · subst e
            obtain ⟨v, e1, e2⟩ := hk.2 lo' h4
            rw [hg] at e1
            cases e1
            omega
          · have h6 : 2 ^ (k + 1) ≤ 2 ^ k' := Nat.pow_le_pow_right (by omega) (by omega)
            rw [Nat.pow_succ] at h6
            omega
theorem lf_least (P : Nat → Nat) : ∀ n miss bd, sLs (sCv P n miss bd) (lf P n miss bd)
  | 0, miss, bd => by
    show sLs _ (if miss = 0 then some 0 else none)
    by_cases h : miss = 0
    · rw [if_pos h]
      exact ⟨fun v hv => by cases hv; exact ⟨h, rfl⟩, fun u hu => ⟨0, rfl, Nat.zero_le _⟩⟩
    · rw [if_neg h]
      exact ⟨fun v hv => (by cases hv), fun u hu => absurd hu.1 h⟩
  | n + 1, miss, bd => by
    refine (lfF_least (lf_least P n) (bd - n) n).cong (fun u => ?_)
    constructor
    · rintro ⟨k', lo, h1, h2, h3⟩
      exact ⟨k', lo, h1, by omega, h3⟩
    · rintro ⟨k', lo, h1, h2, h3⟩
      exact ⟨k', lo, h1, by omega, h3⟩
/-- sets of size keys, as the reference goes through them -/
def sTr (sz a b c : Nat) : Prop := a < 32 ∧ b < 32 ∧ c < 32 ∧ (1 < sz → a < b) ∧ (sz ≤ 1 → b = a) ∧ (2 < sz → b < c) ∧ (sz ≤ 2 → c = b)
def sGd (P : Nat → Nat) (miss key a b c u : Nat) : Prop := andn miss (P a ||| P b ||| P c) = 0 ∧ u = 2 ^ a ||| 2 ^ b ||| 2 ^ c ∧ u.testBit key = false
def sRv (P : Nat → Nat) (miss key sz u : Nat) : Prop := ∃ a b c, sTr sz a b c ∧ sGd P miss key a b c u
theorem andn_0 {a b : Nat} : andn a b = 0 ↔ ∀ i, a.testBit i = true → b.testBit i = true := by
  constructor
  · intro h i hi
    have e := andn_tb a b i
    rw [h, Nat.zero_testBit, hi] at e
    cases hb : b.testBit i with
    | true => rfl
    | false => rw [hb] at e; cases e
  · intro h
    apply Nat.eq_of_testBit_eq
    intro i
    rw [andn_tb, Nat.zero_testBit]
    cases ha : a.testBit i with
    | false => rfl
    | true => rw [h i ha]; rfl
theorem and_0 {a b : Nat} : a &&& b = 0 ↔ ∀ i, a.testBit i = true → b.testBit i = false := by
  constructor
  · intro h i hi
    have e := Nat.testBit_and a b i
    rw [h, Nat.zero_testBit, hi, Bool.true_and] at e
    exact e.symm
  · intro h
    apply Nat.eq_of_testBit_eq
    intro i
    rw [Nat.testBit_and, Nat.zero_testBit]
    cases ha : a.testBit i with
    | false => rfl
    | true => rw [h i ha]; rfl
theorem or_tb {a b i : Nat} : (a ||| b).testBit i = true ↔ a.testBit i = true ∨ b.testBit i = true := by rw [Nat.testBit_or, Bool.or_eq_true]
theorem andn_tt {a b i : Nat} : (andn a b).testBit i = true ↔ a.testBit i = true ∧ ¬ b.testBit i = true := by
  rw [andn_tb, Bool.and_eq_true]
  cases b.testBit i <;> simp
theorem pw_key {a key : Nat} : (2 ^ a).testBit key = true ↔ a = key := by rw [Nat.testBit_two_pow]; simp
theorem rv_key {P : Nat → Nat} {miss key a b c u : Nat} (h : sGd P miss key a b c u) : a ≠ key ∧ b ≠ key ∧ c ≠ key := by
  obtain ⟨_, h2, h3⟩ := h
  have hn : ¬ u.testBit key = true := by rw [h3]; decide
  rw [h2] at hn
  refine ⟨fun e => hn ?_, fun e => hn ?_, fun e => hn ?_⟩
  · exact or_tb.mpr (Or.inl (or_tb.mpr (Or.inl (pw_key.mpr e))))
  · exact or_tb.mpr (Or.inl (or_tb.mpr (Or.inr (pw_key.mpr e))))
  · exact or_tb.mpr (Or.inr (pw_key.mpr e))
theorem gd_mk {P : Nat → Nat} {miss key a b c : Nat} (h1 : ∀ i, miss.testBit i = true → (P a).testBit i = true ∨ (P b).testBit i = true ∨ (P c).testBit i = true) (ha : a ≠ key) (hb : b ≠ key) (hc : c ≠ key) : sGd P miss key a b c (2 ^ a ||| 2 ^ b ||| 2 ^ c) := by
  refine ⟨andn_0.mpr (fun i hi => ?_), rfl, ?_⟩
  · rcases h1 i hi with q | q | q
    · exact or_tb.mpr (Or.inl (or_tb.mpr (Or.inl q)))
    · exact or_tb.mpr (Or.inl (or_tb.mpr (Or.inr q)))
    · exact or_tb.mpr (Or.inr q)
  · cases h : (2 ^ a ||| 2 ^ b ||| 2 ^ c).testBit key with
    | false => rfl
    | true =>
      rcases or_tb.mp h with q | q
      · rcases or_tb.mp q with q | q
        · exact absurd (pw_key.mp q) ha
        · exact absurd (pw_key.mp q) hb
      · exact absurd (pw_key.mp q) hc
theorem gd_cv {P : Nat → Nat} {miss key a b c u : Nat} (h : sGd P miss key a b c u) {i : Nat} (hi : miss.testBit i = true) : (P a).testBit i = true ∨ (P b).testBit i = true ∨ (P c).testBit i = true := by
  rcases or_tb.mp (andn_0.mp h.1 i hi) with q | q
  · rcases or_tb.mp q with q | q
    · exact Or.inl q
    · exact Or.inr (Or.inl q)
  · exact Or.inr (Or.inr q)
section SP
variable {P : Nat → Nat} {miss key : Nat}
theorem un_ne {a : Nat} (h : a ≠ key) : uN P key 0 a = P a := if_neg h
theorem un_key : uN P key 0 key = 0 := if_pos rfl
theorem ne_key {k m : Nat} (h : uN P key 0 k &&& m ≠ 0) : k ≠ key := by
  intro e
  subst e
  rw [un_key, Nat.zero_and] at h
  exact h rfl
theorem bit_1 {k m : Nat} (h : P k &&& m ≠ 0) : ∃ i, (P k).testBit i = true ∧ m.testBit i = true := by
  apply Classical.byContradiction
  intro hn
  refine h (and_0.mpr (fun i hi => ?_))
  cases hm : m.testBit i with
  | false => rfl
  | true => exact absurd ⟨i, hi, hm⟩ hn
/-- one key -/
theorem rc1 (hm : miss ≠ 0) (u : Nat) : sRv P miss key 1 u ↔ sCv (uN P key 0) 1 miss 32 u := by
  constructor
  · rintro ⟨a, b, c, ⟨ha, _, _, _, hb, _, hc⟩, hg⟩
    have eb := hb (by omega)
    have ec := hc (by omega)
    subst eb
    subst ec
    have hk := (rv_key hg).1
    have hcv : andn miss (P c) = 0 := andn_0.mpr (fun i hi => by rcases gd_cv hg hi with q | q | q <;> exact q)
    refine ⟨c, 0, Nat.zero_le _, ha, ?_, ⟨by rw [un_ne hk]; exact hcv, rfl⟩, ?_⟩
    · rw [un_ne hk]
      intro h0
      refine hm (Nat.eq_of_testBit_eq (fun i => ?_))
      rw [Nat.zero_testBit]
      cases hi : miss.testBit i with
      | false => rfl
      | true =>
        have := and_0.mp h0 i (andn_0.mp hcv i hi)
        rw [hi] at this; cases this
    · rw [hg.2.1, Nat.or_self, Nat.or_self, Nat.zero_or]
  · rintro ⟨k, lo, _, hk, h1, ⟨h2, rfl⟩, rfl⟩
    have hne := ne_key h1
    rw [un_ne hne] at h2
    refine ⟨k, k, k, ⟨hk, hk, hk, fun h => absurd h (by omega), fun _ => rfl, fun h => absurd h (by omega), fun _ => rfl⟩, ?_⟩
    have := gd_mk (P := P) (miss := miss) (key := key) (a := k) (b := k) (c := k) (fun i hi => Or.inl (andn_0.mp h2 i hi)) hne hne hne
    rw [Nat.or_self, Nat.or_self] at this
    rw [Nat.zero_or]
    exact this
/-- two keys, where one is not enough -/
theorem rc2 (h1 : ∀ u, ¬ sRv P miss key 1 u) (u : Nat) : sRv P miss key 2 u ↔ sCv (uN P key 0) 2 miss 32 u := by
  have one : ∀ a, a < 32 → a ≠ key → (∀ i, miss.testBit i = true → (P a).testBit i = true) → False := fun a ha hk hc =>
    h1 _ ⟨a, a, a, ⟨ha, ha, ha, fun h => absurd h (by omega), fun _ => rfl, fun h => absurd h (by omega), fun _ => rfl⟩, gd_mk (fun i hi => Or.inl (hc i hi)) hk hk hk⟩
  constructor
  · rintro ⟨a, b, c, ⟨ha, hb, _, hab, _, _, hc⟩, hg⟩
    have ec := hc (by omega)
    subst ec
    have hab := hab (by omega)
    obtain ⟨ka, kb, _⟩ := rv_key hg
    have cov : ∀ i, miss.testBit i = true → (P a).testBit i = true ∨ (P c).testBit i = true := fun i hi => by
      rcases gd_cv hg hi with q | q | q
      · exact Or.inl q
      · exact Or.inr q
      · exact Or.inr q
    refine ⟨c, 2 ^ a, (show (1 : Nat) ≤ c by omega), hb, ?_, ⟨a, 0, Nat.zero_le _, hab, ?_, ⟨?_, rfl⟩, by rw [Nat.zero_or]⟩, ?_⟩
    · rw [un_ne kb]
      intro h0
      refine one a ha ka (fun i hi => ?_)
      rcases cov i hi with q | q
      · exact q
      · have := and_0.mp h0 i q; rw [hi] at this; cases this
    · rw [un_ne ka, un_ne kb]
      intro h0
      refine one c hb kb (fun i hi => ?_)
      rcases cov i hi with q | q
      · cases hcb : (P c).testBit i with
        | true => rfl
        | false =>
          have := and_0.mp h0 i q
          rw [andn_tb, hi, hcb] at this; cases this
      · exact q
    · rw [un_ne ka, un_ne kb]
      refine andn_0.mpr (fun i hi => ?_)
      obtain ⟨q1, q2⟩ := andn_tt.mp hi
      rcases cov i q1 with q | q
      · exact q
      · exact absurd q q2
    · rw [hg.2.1, Nat.or_assoc, Nat.or_self]
  · rintro ⟨k, lo, _, hk, g1, ⟨k2, lo2, _, hk2, g2, ⟨g3, rfl⟩, rfl⟩, rfl⟩
    have n1 := ne_key g1
    have n2 := ne_key g2
    rw [un_ne n1, un_ne n2] at g3
    refine ⟨k2, k, k, ⟨by omega, hk, hk, fun _ => hk2, fun h => absurd h (by omega), fun h => absurd h (by omega), fun _ => rfl⟩, ?_⟩
    have := gd_mk (P := P) (miss := miss) (key := key) (a := k2) (b := k) (c := k) (fun i hi => by
      cases hb : (P k).testBit i with
      | true => exact Or.inr (Or.inl rfl)
      | false => exact Or.inl (andn_0.mp g3 i (andn_tt.mpr ⟨hi, by rw [hb]; decide⟩))) n2 n1 n1
    rw [Nat.or_assoc, Nat.or_self] at this
    rw [Nat.zero_or]
    exact this
/-- three keys, where two are not enough -/
theorem rc3 (h2 : ∀ u, ¬ sRv P miss key 2 u) (u : Nat) : sRv P miss key 3 u ↔ sCv (uN P key 0) 3 miss 32 u := by
  have two : ∀ a b, a < b → b < 32 → a ≠ key → b ≠ key → (∀ i, miss.testBit i = true → (P a).testBit i = true ∨ (P b).testBit i = true) → False := fun a b hab hb ka kb hc =>
    h2 _ ⟨a, b, b, ⟨by omega, hb, hb, fun _ => hab, fun h => absurd h (by omega), fun h => absurd h (by omega), fun _ => rfl⟩, gd_mk (fun i hi => by rcases hc i hi with q | q; exact Or.inl q; exact Or.inr (Or.inl q)) ka kb kb⟩
  constructor
  · rintro ⟨a, b, c, ⟨ha, hb, hc, hab, _, hbc, _⟩, hg⟩
    have hab := hab (by omega)
    have hbc := hbc (by omega)
    obtain ⟨ka, kb, kc⟩ := rv_key hg
    have cov : ∀ i, miss.testBit i = true → (P a).testBit i = true ∨ (P b).testBit i = true ∨ (P c).testBit i = true := fun i hi => gd_cv hg hi
    refine ⟨c, 2 ^ a ||| 2 ^ b, (show (2 : Nat) ≤ c by omega), hc, ?_, ⟨b, 2 ^ a, (show (1 : Nat) ≤ b by omega), hbc, ?_, ⟨a, 0, Nat.zero_le _, hab, ?_, ⟨?_, rfl⟩, by rw [Nat.zero_or]⟩, rfl⟩, hg.2.1⟩
    · rw [un_ne kc]
      intro h0
      refine two a b hab hb ka kb (fun i hi => ?_)
      rcases cov i hi with q | q | q
      · exact Or.inl q
      · exact Or.inr q
      · have := and_0.mp h0 i q; rw [hi] at this; cases this
    · rw [un_ne kb, un_ne kc]
      intro h0
      refine two a c (by omega) hc ka kc (fun i hi => ?_)
      rcases cov i hi with q | q | q
      · exact Or.inl q
      · cases hcb : (P c).testBit i with
        | true => exact Or.inr rfl
        | false =>
          have := and_0.mp h0 i q
          rw [andn_tb, hi, hcb] at this; cases this
      · exact Or.inr q
    · rw [un_ne ka, un_ne kb, un_ne kc]
      intro h0
      refine two b c hbc hc kb kc (fun i hi => ?_)
      rcases cov i hi with q | q | q
      · cases hcb : (P c).testBit i with
        | true => exact Or.inr rfl
        | false =>
          cases hbb : (P b).testBit i with
          | true => exact Or.inl rfl
          | false =>
            have := and_0.mp h0 i q
            rw [andn_tb, andn_tb, hi, hcb, hbb] at this; cases this
      · exact Or.inl q
      · exact Or.inr q
    · rw [un_ne ka, un_ne kb, un_ne kc]
      refine andn_0.mpr (fun i hi => ?_)
      obtain ⟨q1, q2⟩ := andn_tt.mp hi
      obtain ⟨q3, q4⟩ := andn_tt.mp q1
      rcases cov i q3 with q | q | q
      · exact q
      · exact absurd q q2
      · exact absurd q q4
  · rintro ⟨k, lo, _, hk, g1, ⟨k2, lo2, _, hk2, g2, ⟨k3, lo3, _, hk3, g3, ⟨g4, rfl⟩, rfl⟩, rfl⟩, rfl⟩
    have n1 := ne_key g1
    have n2 := ne_key g2
    have n3 := ne_key g3
    rw [un_ne n1, un_ne n2, un_ne n3] at g4
    refine ⟨k3, k2, k, ⟨by omega, by omega, hk, fun _ => hk3, fun h => absurd h (by omega), fun _ => hk2, fun h => absurd h (by omega)⟩, ?_⟩
    have := gd_mk (P := P) (miss := miss) (key := key) (a := k3) (b := k2) (c := k) (fun i hi => by
      cases hb : (P k).testBit i with
      | true => exact Or.inr (Or.inr rfl)
      | false =>
        cases hb2 : (P k2).testBit i with
        | true => exact Or.inr (Or.inl rfl)
        | false => exact Or.inl (andn_0.mp g4 i (andn_tt.mpr ⟨andn_tt.mpr ⟨hi, by rw [hb]; decide⟩, by rw [hb2]; decide⟩))) n3 n2 n1
    rw [Nat.zero_or]
    exact this
end SP
def onL (o : Option Nat) : Int64 := match o with
  | none => -1
  | some v => lN v
def spl (P : Nat → Nat) (miss : Nat) : Option Nat := match lf P 1 miss 32 with
  | some v => some v
  | none => match lf P 2 miss 32 with
    | some v => some v
    | none => lf P 3 miss 32
section SP2
variable {P : Nat → Nat} {miss key : Nat}
theorem lf_no {n : Nat} (e : ∀ u, sRv P miss key n u ↔ sCv (uN P key 0) n miss 32 u) (h : ∀ u, ¬ sRv P miss key n u) : lf (uN P key 0) n miss 32 = none := by
  have hl := lf_least (uN P key 0) n miss 32
  cases hq : lf (uN P key 0) n miss 32 with
  | none => rfl
  | some v => exact absurd ((e v).mpr (hl.1 v hq)) (h v)
theorem lf_so {n v : Nat} (e : ∀ u, sRv P miss key n u ↔ sCv (uN P key 0) n miss 32 u) (h : sLs (sRv P miss key n) (some v)) : lf (uN P key 0) n miss 32 = some v := (lf_least (uN P key 0) n miss 32).uniq (h.cong e)
theorem spl_some (hm : miss ≠ 0) {sz v : Nat} (h1 : 1 ≤ sz) (h3 : sz ≤ 3) (hno : ∀ s, 1 ≤ s → s < sz → ∀ u, ¬ sRv P miss key s u) (h : sLs (sRv P miss key sz) (some v)) : spl (uN P key 0) miss = some v := by
  have hs : sz = 1 ∨ sz = 2 ∨ sz = 3 := by omega
  unfold spl
  rcases hs with rfl | rfl | rfl
  · rw [lf_so (rc1 hm) h]
  · rw [lf_no (rc1 hm) (hno 1 (by omega) (by omega)), lf_so (rc2 (hno 1 (by omega) (by omega))) h]
  · rw [lf_no (rc1 hm) (hno 1 (by omega) (by omega)), lf_no (rc2 (hno 1 (by omega) (by omega))) (hno 2 (by omega) (by omega)), lf_so (rc3 (hno 2 (by omega) (by omega))) h]
theorem spl_none (hm : miss ≠ 0) (hno : ∀ s, 1 ≤ s → s < 4 → ∀ u, ¬ sRv P miss key s u) : spl (uN P key 0) miss = none := by
  unfold spl
  rw [lf_no (rc1 hm) (hno 1 (by omega) (by omega)), lf_no (rc2 (hno 1 (by omega) (by omega))) (hno 2 (by omega) (by omega)), lf_no (rc3 (hno 2 (by omega) (by omega))) (hno 3 (by omega) (by omega))]
end SP2
def an_spoil (μ : sn_S) (k y : Int32) : Int64 :=
  if ¬ (rg k (snb μ) ∧ rg y 32) then -101
  else if 2 < bk (sbk μ (tn k)) then -103
  else if andn (pls (sw μ) (sbk μ (tn k)) (tn y)) (fil (sbk μ (tn k))) = 0 then 0
  else onL (spl (uN (pls (sw μ) (sbk μ (tn k))) (tn y) 0) (andn (pls (sw μ) (sbk μ (tn k)) (tn y)) (fil (sbk μ (tn k)))))
