/-! FOLDING AND LAYERING, AS NUMBERS -/
/-- of all places which just one of the keys left has, the least -/
def lnF (w : sn_Lw) (b : sn_Bk) (c : Nat) : Nat → Nat → Option Nat
  | 0, _ => none
  | n + 1, i => if ctf (fun x => c.testBit x && (pls w b x).testBit i) 32 = 1 then some i else lnF w b c n (i + 1)
def lone (w : sn_Lw) (b : sn_Bk) (c : Nat) : Option Nat := lnF w b c (bm b) 0
/-- the first from x on -/
def fst_ (P : Nat → Bool) : Nat → Nat → Nat
  | 0, x => x
  | n + 1, x => if P x then x else fst_ P n (x + 1)
theorem fst_ok (P : Nat → Bool) : ∀ (n x : Nat), (∃ j, x ≤ j ∧ j < x + n ∧ P j = true) → fst_ P n x < x + n ∧ P (fst_ P n x) = true ∧ x ≤ fst_ P n x
  | 0, x, h => by obtain ⟨j, h1, h2, _⟩ := h; omega
  | n + 1, x, h => by
    unfold fst_
    by_cases e : P x = true
    · rw [if_pos e]; exact ⟨by omega, e, Nat.le_refl _⟩
    · rw [if_neg e]
      obtain ⟨j, h1, h2, h3⟩ := h
      have hj : j ≠ x := fun q => e (q ▸ h3)
      obtain ⟨a, b, c⟩ := fst_ok P n (x + 1) ⟨j, by omega, by omega, h3⟩
      exact ⟨by omega, b, by omega⟩
def kyo (w : sn_Lw) (b : sn_Bk) (c p : Nat) : Nat := fst_ (fun x => c.testBit x && (pls w b x).testBit p) 32 0
/-- keys with their places, in the order in which they are taken away -/
def pel (w : sn_Lw) (b : sn_Bk) : Nat → Nat → Option (List (Nat × Nat))
  | 0, c => if c = 0 then some [] else none
  | n + 1, c => if c = 0 then some [] else match lone w b c with
    | none => none
    | some p => (pel w b n (andn c (2 ^ kyo w b c p))).map fun T => (kyo w b c p, p) :: T
def fnu (w : sn_Lw) (b : sn_Bk) : List (Nat × Nat) → Nat → Nat
  | [] => fun _ => 0
  | e :: T => uN (fnu w b T) e.2 (tog w (bnu b (fnu w b T)) e.1 ^^^ mrk w b 0 e.1)
theorem ctf_one {f : Nat → Bool} : ∀ {n : Nat}, 0 < ctf f n → ∃ i, i < n ∧ f i = true
  | 0, h => absurd h (by simp [ctf])
  | n + 1, h => by
    by_cases e : f n = true
    · exact ⟨n, by omega, e⟩
    · simp only [ctf, e] at h
      obtain ⟨i, h1, h2⟩ := ctf_one (n := n) (by simpa using h)
      exact ⟨i, by omega, h2⟩
theorem lnF_ok {w : sn_Lw} {b : sn_Bk} {c : Nat} : ∀ {n i p : Nat}, lnF w b c n i = some p → p < i + n ∧ ctf (fun x => c.testBit x && (pls w b x).testBit p) 32 = 1
  | 0, i, p, h => by cases h
  | n + 1, i, p, h => by
    unfold lnF at h
    split at h
    · rename_i e; cases h; exact ⟨by omega, e⟩
    · have := lnF_ok h; exact ⟨by omega, this.2⟩
theorem kyo_ok {w : sn_Lw} {b : sn_Bk} {c p : Nat} (h : lone w b c = some p) : p < bm b ∧ kyo w b c p < 32 ∧ c.testBit (kyo w b c p) = true ∧ (pls w b (kyo w b c p)).testBit p = true := by
  obtain ⟨h1, h2⟩ := lnF_ok h
  obtain ⟨i, h3, h4⟩ := ctf_one (f := fun x => c.testBit x && (pls w b x).testBit p) (n := 32) (by omega)
  obtain ⟨a, b1, _⟩ := fst_ok (fun x => c.testBit x && (pls w b x).testBit p) 32 0 ⟨i, by omega, by omega, h4⟩
  simp only [Bool.and_eq_true] at b1
  exact ⟨by omega, by unfold kyo; omega, b1.1, b1.2⟩
theorem pcnt_andn {c k n : Nat} (hc : c < 2 ^ n) (hk : k < n) (h : c.testBit k = true) : pcnt (andn c (2 ^ k)) + 1 = pcnt c := by
  have h1 : andn c (2 ^ k) < 2 ^ n := andn_lt hc
  rw [pcnt_ct hc, pcnt_ct h1]
  have aux : ∀ m, ctf (fun i => (andn c (2 ^ k)).testBit i) m + (if k < m then 1 else 0) = ctf (fun i => c.testBit i) m := by
    intro m
    induction m with
    | zero => simp [ctf]
    | succ m ih =>
      simp only [ctf]
      rw [← ih]
      have e1 : (andn c (2 ^ k)).testBit m = (c.testBit m && !decide (k = m)) := by rw [andn_tb, Nat.testBit_two_pow]
      generalize ctf (fun i => (andn c (2 ^ k)).testBit i) m = X
      by_cases e : k = m
      · subst e
        have e2 : (andn c (2 ^ k)).testBit k = false := by rw [e1]; simp
        simp [e2, h]
      · have e2 : (andn c (2 ^ k)).testBit m = c.testBit m := by rw [e1, decide_eq_false e]; simp
        simp only [e2]
        by_cases e3 : k < m
        · rw [if_pos e3, if_pos (show k < m + 1 by omega)]; omega
        · rw [if_neg e3, if_neg (show ¬ k < m + 1 by omega)]; omega
  have := aux n
  rw [if_pos hk] at this
  exact this
theorem tog_lt {w : sn_Lw} {b : sn_Bk} {n : Nat} (hb : WB n b) (y : Nat) : tog w b y < 2 ^ 3 := by rw [← tgf_3]; exact tgf_lt hb y 3
theorem fnu_le {w : sn_Lw} {b : sn_Bk} {n : Nat} (hb : WB n b) : ∀ (T : List (Nat × Nat)), (∀ e ∈ T, e.2 < bm b) → (∀ i, fnu w b T i ≤ 7) ∧ ∀ i, bm b ≤ i → fnu w b T i = 0
  | [], _ => ⟨fun _ => Nat.zero_le _, fun _ _ => rfl⟩
  | e :: T, h => by
    obtain ⟨h1, h2⟩ := fnu_le hb T (fun z hz => h z (List.mem_cons_of_mem _ hz))
    have h3 := tog_lt (w := w) (hb.bnu h1 h2) e.1
    have h4 := mrk_le (w := w) (b := b) 0 e.1
    have h5 : tog w (bnu b (fnu w b T)) e.1 ^^^ mrk w b 0 e.1 < 2 ^ 3 := Nat.xor_lt_two_pow h3 (by omega)
    have h6 := h e List.mem_cons_self
    refine ⟨fun i => ?_, fun i hi => ?_⟩
    · unfold fnu uN; split
      · omega
      · exact h1 i
    · unfold fnu uN; rw [if_neg (by omega)]; exact h2 i hi
/-- layering -/
def prow (w : sn_Lw) (b : sn_Bk) (r s : Nat) : Nat := orf (fun x => if s.testBit x then 2 ^ lpl w b r x else 0) 32
def tin (w : sn_Lw) (b : sn_Bk) (r row s : Nat) : Nat := orf (fun x => if s.testBit x && row.testBit (lpl w b r x) then 2 ^ x else 0) 32
def lay (w : sn_Lw) (b : sn_Bk) : Nat → Nat → Nat → Nat → Option (List Nat)
  | 0, _, s, _ => if s = 0 then some [] else none
  | n + 1, r, s, o => if s = 0 then some [] else (lay w b n (r + 1) (tin w b r (prow w b r s) o) s).map fun T => prow w b r s :: T
theorem prow_lt {w : sn_Lw} {b : sn_Bk} {n : Nat} (hb : WB n b) (r s : Nat) : prow w b r s < 2 ^ 32 := orf_lt (fun x => by split; exact p2_lt (lpl_lt hb r x) hb.2.1.2; omega) 32
theorem tin_lt (w : sn_Lw) (b : sn_Bk) (r row s : Nat) : tin w b r row s < 2 ^ 32 := orf_lt' 32 (fun x hx => by split; exact p2_lt hx (Nat.le_refl _); omega)
theorem orf_bits {P : Nat → Bool} (k : Nat) : ∀ n, (orf (fun x => if P x then 2 ^ x else 0) n).testBit k = (decide (k < n) && P k)
  | 0 => by simp [orf]
  | n + 1 => by
    rw [orf, Nat.testBit_or, orf_bits k n]
    by_cases e : k = n
    · subst e
      have : decide (k < k) = false := decide_eq_false (by omega)
      rw [this, Bool.false_and, Bool.false_or, decide_eq_true (by omega : k < k + 1), Bool.true_and]
      split
      · rename_i q; rw [Nat.testBit_two_pow, q]; simp
      · rename_i q; rw [Nat.zero_testBit]; cases h : P k; rfl; exact absurd h q
    · have h2 : (if P n then 2 ^ n else 0).testBit k = false := by
        split
        · rw [Nat.testBit_two_pow]; exact decide_eq_false (fun q => e q.symm)
        · exact Nat.zero_testBit k
      rw [h2, Bool.or_false]
      congr 1
      apply decide_eq_decide.mpr
      omega
theorem eq_bits {a b : Nat} (ha : a < 2 ^ 32) (hb : b < 2 ^ 32) (h : ∀ i, i < 32 → a.testBit i = b.testBit i) : a = b := by
  apply Nat.eq_of_testBit_eq
  intro i
  by_cases e : i < 32
  · exact h i e
  · rw [Nat.testBit_lt_two_pow (Nat.lt_of_lt_of_le ha (Nat.pow_le_pow_right (by omega) (by omega))), Nat.testBit_lt_two_pow (Nat.lt_of_lt_of_le hb (Nat.pow_le_pow_right (by omega) (by omega)))]
/-- those of a set that its own row has: all -/
theorem tin_own {w : sn_Lw} {b : sn_Bk} (r : Nat) {s : Nat} (hs : s < 2 ^ 32) : tin w b r (prow w b r s) s = s := by
  refine eq_bits (tin_lt w b r _ s) hs (fun i hi => ?_)
  unfold tin
  rw [orf_bits, decide_eq_true hi, Bool.true_and]
  cases h : s.testBit i with
  | false => rfl
  | true =>
    rw [Bool.true_and]
    exact (orf_tb _ _ _).mpr ⟨i, hi, by rw [if_pos h, Nat.testBit_two_pow]; simp⟩
theorem tin_sub {w : sn_Lw} {b : sn_Bk} {r row s i : Nat} (h : (tin w b r row s).testBit i = true) : s.testBit i = true := by
  unfold tin at h
  rw [orf_bits] at h
  simp only [Bool.and_eq_true] at h
  exact h.2.1
/-- build -/
def bld (w : sn_Lw) (b : sn_Bk) (s o : Nat) : Option sn_Bk :=
  if bk b = 4 then (pel w b 32 s).map fun T => bnu b (fnu w b T)
  else if bk b = 5 then (lay w b 6 0 s o).map fun T => bru b T.length (fun i => T.getD i 0)
  else none
def an_build (μ : sn_S) (k : Int32) (s o : Int64) : Int32 × sn_S :=
  if ¬ rg k (snb μ) then (- nI 101, μ)
  else if ¬ (sg s ∧ sg o ∧ ts s &&& ts o = 0 ∧ (bk (sbk μ (tn k)) = 4 → ts o = 0)) then (- nI 102, μ)
  else match bld (sw μ) (sbk μ (tn k)) (ts s) (ts o) with
    | none => (- nI 103, μ)
    | some b => (nI (pcnt (ts s)), setB μ (tn k) (btu b (fun x => if (ts s).testBit x then 1 else 0)))
theorem MS.many {A : sn_A2} {B : sn_B2} {μ : sn_S} (h : MS A B μ) (v : Int32) : MS (uA A 0 (upd (A 0) 2 v)) B μ := by
  refine ⟨h.1, ⟨?_, h.2.1.2⟩, ?_, h.2.2.2⟩
  · show upd (A 0) 2 v 0 = _
    rw [pk_un (by omega)]; exact h.2.1.1
  · show upd (A 0) 2 v 1 = _
    rw [pk_un (by omega)]; exact h.2.2.1
theorem MS.congN {A : sn_A2} {B : sn_B2} {μ : sn_S} {k : Nat} {b : sn_Bk} {g g' : Nat → Nat} (h : MS A B (setB μ k (bnu b g))) (hk : k < snb μ) (hm : bm b ≤ 32) (e : ∀ i, i < 32 → g i = g' i) (h0 : ∀ i, bm b ≤ i → g' i = 0) : MS A B (setB μ k (bnu b g')) := by
  have : g = g' := by
    funext i
    by_cases q : i < 32
    · exact e i q
    · rw [h0 i (by omega)]
      have := (h.1.2.2 k hk)
      rw [setB_k] at this
      exact this.2.2.2.2.2.2.2.2.1 i (by show bm b ≤ i; omega)
  rw [← this]; exact h
theorem MS.congT {A : sn_A2} {B : sn_B2} {μ : sn_S} {k : Nat} {b : sn_Bk} {g g' : Nat → Nat} (h : MS A B (setB μ k (btu b g))) (e : ∀ i, i < 32 → g i = g' i) (h9 : ∀ i, g' i ≤ 99) : MS A B (setB μ k (btu b g')) := by
  refine ⟨⟨h.1.1, h.1.2.1, fun j hj => ?_⟩, h.2.1, h.2.2.1, fun j hj => ?_⟩
  · have h1 := h.1.2.2 j hj
    by_cases q : j = k
    · subst q
      rw [setB_k] at h1 ⊢
      exact ⟨h1.1, h1.2.1, h1.2.2.1, h1.2.2.2.1, h1.2.2.2.2.1, h1.2.2.2.2.2.1, h1.2.2.2.2.2.2.1, h1.2.2.2.2.2.2.2.1, h1.2.2.2.2.2.2.2.2.1, h9, h1.2.2.2.2.2.2.2.2.2.2.1, h1.2.2.2.2.2.2.2.2.2.2.2⟩
    · rw [setB_n μ _ q] at h1 ⊢; exact h1
  · have h1 := h.2.2.2 j hj
    by_cases q : j = k
    · subst q
      rw [setB_k] at h1 ⊢
      obtain ⟨a1, a2, a3, a4, a5, a6, a7⟩ := h1
      exact ⟨a1, a2, a3, a4, fun i hi => by rw [a5 i hi]; exact congrArg nI (e i hi), a6, a7⟩
    · rw [setB_n μ _ q] at h1 ⊢; exact h1
