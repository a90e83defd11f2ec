/-! THE WORLD: laws and books as numbers -/
theorem pcnt_ct {n : Nat} : ∀ {k : Nat}, n < 2 ^ k → pcnt n = ctf (fun i => n.testBit i) k := by
  have aux : ∀ (k n : Nat), n < 2 ^ k → ∀ m, ctf (fun i => n.testBit i) (m + 1) = n % 2 + ctf (fun i => (n / 2).testBit i) m := by
    intro k n _ m
    induction m with
    | zero =>
      simp only [ctf, Nat.testBit_zero]
      rcases Nat.mod_two_eq_zero_or_one n with e | e <;> simp [e]
    | succ m ih =>
      rw [ctf, ih, ctf, Nat.testBit_succ]
      omega
  intro k
  induction k generalizing n with
  | zero =>
    intro h
    have : n = 0 := by omega
    subst this
    rw [pcnt_0]; rfl
  | succ k ih =>
    intro h
    rw [pcnt_eq, aux (k + 1) n h k, ih (n := n / 2) (by rw [Nat.pow_succ] at h; omega)]
/-- the number of the j-th law of bits -/
def nthF (b : Nat) : Nat → Nat → Nat → Nat
  | 0, l, _ => l
  | n + 1, l, s => if b.testBit l = false ∨ 0 < s then nthF b n (l + 1) (s - (b.testBit l).toNat) else l
def nth (b j : Nat) : Nat := nthF b 8 0 j
theorem nth_ok0 : ∀ b, b < 256 → ∀ j, j < 3 → j < ctf (fun i => b.testBit i) 8 → nth b j < 8 ∧ b.testBit (nth b j) = true ∧ ctf (fun i => b.testBit i) (nth b j) = j := by decide +kernel
theorem nth_ok {b j : Nat} (hb : b < 256) (hj : j < pcnt b) (hp : pcnt b ≤ 3) : nth b j < 8 ∧ b.testBit (nth b j) = true ∧ ctf (fun i => b.testBit i) (nth b j) = j :=
  nth_ok0 b hb j (by omega) (by rw [← pcnt_ct (k := 8) hb]; exact hj)
/-- a book: kind, places, laws as bits, numbers, how often a key is really there, how many rows, rows -/
abbrev sn_Bk : Type := Nat × Nat × Nat × (Nat → Nat) × (Nat → Nat) × Nat × (Nat → Nat)
def bk (b : sn_Bk) : Nat := b.1
def bm (b : sn_Bk) : Nat := b.2.1
def bl (b : sn_Bk) : Nat := b.2.2.1
def bn (b : sn_Bk) : Nat → Nat := b.2.2.2.1
def bt (b : sn_Bk) : Nat → Nat := b.2.2.2.2.1
def bc (b : sn_Bk) : Nat := b.2.2.2.2.2.1
def br (b : sn_Bk) : Nat → Nat := b.2.2.2.2.2.2
/-- laws: how many, A, B -/
abbrev sn_Lw : Type := Nat × (Nat → Nat) × (Nat → Nat)
abbrev sn_S : Type := sn_Lw × Nat × (Nat → sn_Bk)
def WL (w : sn_Lw) : Prop := w.1 ≤ 8 ∧ ∀ l, l < w.1 → 1 ≤ w.2.1 l ∧ w.2.1 l ≤ 36 ∧ w.2.2 l ≤ 36
def WB (n : Nat) (b : sn_Bk) : Prop := bk b ≤ 5 ∧ (2 ≤ bm b ∧ bm b ≤ 32) ∧ (bk b = 4 → 3 ≤ bm b) ∧ bl b < 2 ^ n ∧ (1 ≤ pcnt (bl b) ∧ pcnt (bl b) ≤ 3) ∧ (bk b = 3 → pcnt (bl b) = 2) ∧ (bk b = 4 → pcnt (bl b) = 3) ∧ (∀ i, bn b i ≤ 7) ∧ (∀ i, bm b ≤ i → bn b i = 0) ∧ (∀ x, bt b x ≤ 99) ∧ bc b ≤ 6 ∧ (∀ i, br b i < 2 ^ 32)
/-- the value of key x by the j-th law of a book -/
def vl (w : sn_Lw) (b : sn_Bk) (j x : Nat) : Nat := val (w.2.1 (nth (bl b) j)) (w.2.2 (nth (bl b) j)) x
def prt (b : sn_Bk) : Nat := max 1 (bm b / pcnt (bl b))
def plc (w : sn_Lw) (b : sn_Bk) (j x : Nat) : Nat := if bk b = 2 ∨ bk b = 4 then (j * prt b + vl w b j x % prt b) % bm b else vl w b j x % bm b
def frs (w : sn_Lw) (b : sn_Bk) (x : Nat) : Nat := vl w b 0 x % bm b
def mrk (w : sn_Lw) (b : sn_Bk) (j x : Nat) : Nat := vl w b j x % 7 + 1
def oth (m p f : Nat) : Nat := (5 * f + m - p) % m
def pls (w : sn_Lw) (b : sn_Bk) (x : Nat) : Nat := if bk b = 3 then 2 ^ frs w b x ||| 2 ^ oth (bm b) (frs w b x) (mrk w b 1 x) else orf (fun j => 2 ^ plc w b j x) (pcnt (bl b))
def fil (b : sn_Bk) : Nat := orf (fun i => if 0 < bn b i then 2 ^ i else 0) (bm b)
def rin (b : sn_Bk) : Nat := orf (fun x => if 0 < bt b x then 2 ^ x else 0) 32
def nab (b : sn_Bk) : Nat := ctf (fun i => decide (0 < bn b i)) (bm b)
def tog (w : sn_Lw) (b : sn_Bk) (x : Nat) : Nat := bn b (plc w b 0 x) ^^^ bn b (plc w b 1 x) ^^^ bn b (plc w b 2 x)
def lpl (w : sn_Lw) (b : sn_Bk) (r x : Nat) : Nat := vl w b (r % pcnt (bl b)) x % bm b
/-- the first row, from i on, that has the key's place not -/
def lyr (w : sn_Lw) (b : sn_Bk) (x : Nat) : Nat → Nat → Nat
  | 0, i => i
  | n + 1, i => if (br b i).testBit (lpl w b i x) then lyr w b x n (i + 1) else i
def isin (w : sn_Lw) (b : sn_Bk) (x : Nat) : Bool :=
  if bk b = 3 then decide (bn b (frs w b x) = mrk w b 1 x) || decide (bn b (oth (bm b) (frs w b x) (mrk w b 1 x)) = mrk w b 1 x)
  else if bk b = 4 then decide (tog w b x = mrk w b 0 x)
  else if bk b = 5 then decide (lyr w b x (bc b) 0 % 2 = 1)
  else decide (andn (pls w b x) (fil b) = 0)
def ain (w : sn_Lw) (b : sn_Bk) : Nat := orf (fun x => if isin w b x then 2 ^ x else 0) 32
section W
variable {w : sn_Lw} {b : sn_Bk} {n : Nat}
theorem WB.bl256 (h : WB n b) (hn : n ≤ 8) : bl b < 256 := Nat.lt_of_lt_of_le h.2.2.2.1 (Nat.pow_le_pow_right (by omega) hn)
theorem WB.nt (hw : WL w) (h : WB w.1 b) {j : Nat} (hj : j < pcnt (bl b)) : nth (bl b) j < w.1 ∧ w.2.1 (nth (bl b) j) ≤ 36 ∧ w.2.2 (nth (bl b) j) ≤ 36 := by
  obtain ⟨h1, h2, h3⟩ := nth_ok (h.bl256 hw.1) hj h.2.2.2.2.1.2
  have h4 : nth (bl b) j < w.1 := by
    by_cases q : nth (bl b) j < w.1
    · exact q
    · have : bl b < 2 ^ nth (bl b) j := Nat.lt_of_lt_of_le h.2.2.2.1 (Nat.pow_le_pow_right (by omega) (by omega))
      rw [Nat.testBit_lt_two_pow this] at h2
      cases h2
  exact ⟨h4, (hw.2 _ h4).2⟩
theorem vl_lt (j x : Nat) : vl w b j x < 37 := val_lt _ _ _
theorem mrk_le (j x : Nat) : 1 ≤ mrk w b j x ∧ mrk w b j x ≤ 7 := by unfold mrk; omega
theorem plc_lt (h : WB n b) (j x : Nat) : plc w b j x < bm b := by
  have := h.2.1
  unfold plc; split <;> exact Nat.mod_lt _ (by omega)
theorem frs_lt (h : WB n b) (x : Nat) : frs w b x < bm b := Nat.mod_lt _ (by have := h.2.1; omega)
theorem lpl_lt (h : WB n b) (r x : Nat) : lpl w b r x < bm b := Nat.mod_lt _ (by have := h.2.1; omega)
theorem oth_lt {m : Nat} (p f : Nat) (h : 0 < m) : oth m p f < m := Nat.mod_lt _ h
theorem prt_pos : 1 ≤ prt b := Nat.le_max_left _ _
theorem prt_le (h : WB n b) : prt b ≤ 32 := by
  have h1 : bm b / pcnt (bl b) ≤ bm b := Nat.div_le_self _ _
  have := h.2.1
  unfold prt; omega
theorem p2_lt {p m : Nat} (h : p < m) (hm : m ≤ 32) : 2 ^ p < 2 ^ 32 := wb_lt2 (by omega)
theorem pls_lt (h : WB n b) (x : Nat) : pls w b x < 2 ^ 32 := by
  have hm := h.2.1
  unfold pls
  split
  · exact Nat.or_lt_two_pow (p2_lt (frs_lt h x) hm.2) (p2_lt (oth_lt _ _ (by omega)) hm.2)
  · exact orf_lt (fun j => p2_lt (plc_lt h j x) hm.2) _
theorem fil_lt (h : WB n b) : fil b < 2 ^ 32 := by
  have hm := h.2.1
  exact orf_lt' _ (fun i hi => by split; exact p2_lt hi hm.2; omega)
theorem rin_lt (b : sn_Bk) : rin b < 2 ^ 32 := orf_lt' _ (fun i hi => by split; exact p2_lt hi (Nat.le_refl _); omega)
theorem ain_lt (w : sn_Lw) (b : sn_Bk) : ain w b < 2 ^ 32 := orf_lt' _ (fun i hi => by split; exact p2_lt hi (Nat.le_refl _); omega)
theorem nab_le (b : sn_Bk) : nab b ≤ bm b := ctf_le _ _
end W
/-- the reference holds these laws, this book at k -/
def ML (A : sn_A2) (w : sn_Lw) : Prop := A 0 0 = nI w.1 ∧ ∀ l, l < w.1 → A 6 l = nI (w.2.1 l) ∧ A 7 l = nI (w.2.2 l)
def MB (A : sn_A2) (B : sn_B2) (k : Nat) (b : sn_Bk) : Prop := A 8 k = nI (bk b) ∧ A 9 k = nI (bm b) ∧ A 10 k = nI (bl b) ∧ (∀ i, i < 32 → A 11 (32 * k + i) = nI (bn b i)) ∧ (∀ x, x < 32 → A 12 (32 * k + x) = nI (bt b x)) ∧ A 13 k = nI (bc b) ∧ ∀ i, i < bc b → B 14 (6 * k + i) = lN (br b i)
