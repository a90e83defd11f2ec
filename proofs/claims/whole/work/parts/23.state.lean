/-! HOW A STATE CHANGES -/
def uN (f : Nat → Nat) (i v : Nat) : Nat → Nat := fun j => if j = i then v else f j
def setB (μ : sn_S) (k : Nat) (b : sn_Bk) : sn_S := (μ.1, μ.2.1, fun j => if j = k then b else μ.2.2 j)
def bnu (b : sn_Bk) (g : Nat → Nat) : sn_Bk := (b.1, b.2.1, b.2.2.1, g, b.2.2.2.2)
def btu (b : sn_Bk) (g : Nat → Nat) : sn_Bk := (b.1, b.2.1, b.2.2.1, b.2.2.2.1, g, b.2.2.2.2.2)
def bru (b : sn_Bk) (c : Nat) (g : Nat → Nat) : sn_Bk := (b.1, b.2.1, b.2.2.1, b.2.2.2.1, b.2.2.2.2.1, c, g)
theorem setB_k (μ : sn_S) (k : Nat) (b : sn_Bk) : sbk (setB μ k b) k = b := if_pos rfl
theorem setB_n (μ : sn_S) {k j : Nat} (b : sn_Bk) (h : j ≠ k) : sbk (setB μ k b) j = sbk μ j := if_neg h
theorem setB_u (μ : sn_S) (k : Nat) (b c : sn_Bk) : setB (setB μ k b) k c = setB μ k c := by
  unfold setB
  congr 2
  funext j
  by_cases h : j = k <;> simp [h]
theorem setB_id (μ : sn_S) (k : Nat) : setB μ k (sbk μ k) = μ := by
  unfold setB
  obtain ⟨w, n, f⟩ := μ
  congr 2
  funext j
  by_cases h : j = k
  · subst h; simp
  · simp [h]
theorem WB.bnu {n : Nat} {b : sn_Bk} (h : WB n b) {g : Nat → Nat} (h7 : ∀ i, g i ≤ 7) (h0 : ∀ i, bm b ≤ i → g i = 0) : WB n (bnu b g) :=
  ⟨h.1, h.2.1, h.2.2.1, h.2.2.2.1, h.2.2.2.2.1, h.2.2.2.2.2.1, h.2.2.2.2.2.2.1, h7, h0, h.2.2.2.2.2.2.2.2.2.1, h.2.2.2.2.2.2.2.2.2.2.1, h.2.2.2.2.2.2.2.2.2.2.2⟩
theorem WB.btu {n : Nat} {b : sn_Bk} (h : WB n b) {g : Nat → Nat} (h9 : ∀ i, g i ≤ 99) : WB n (btu b g) :=
  ⟨h.1, h.2.1, h.2.2.1, h.2.2.2.1, h.2.2.2.2.1, h.2.2.2.2.2.1, h.2.2.2.2.2.2.1, h.2.2.2.2.2.2.2.1, h.2.2.2.2.2.2.2.2.1, h9, h.2.2.2.2.2.2.2.2.2.2.1, h.2.2.2.2.2.2.2.2.2.2.2⟩
theorem WB.bru {n : Nat} {b : sn_Bk} (h : WB n b) {c : Nat} {g : Nat → Nat} (h6 : c ≤ 6) (h2 : ∀ i, g i < 2 ^ 32) : WB n (bru b c g) :=
  ⟨h.1, h.2.1, h.2.2.1, h.2.2.2.1, h.2.2.2.2.1, h.2.2.2.2.2.1, h.2.2.2.2.2.2.1, h.2.2.2.2.2.2.2.1, h.2.2.2.2.2.2.2.2.1, h.2.2.2.2.2.2.2.2.2.1, h6, h2⟩
theorem WS.setB {μ : sn_S} (h : WS μ) {k : Nat} {b : sn_Bk} (hb : WB (sw μ).1 b) : WS (setB μ k b) := by
  refine ⟨h.1, h.2.1, fun j hj => ?_⟩
  by_cases e : j = k
  · subst e; rw [setB_k]; exact hb
  · rw [setB_n μ b e]; exact h.2.2 j hj
theorem upd_n {f : Nat → Int32} {k j : Nat} {x : Int32} (h : j ≠ k) : upd f k x j = f j := pk_un h
/-- a number of book k changes -/
theorem MS.num {A : sn_A2} {B : sn_B2} {μ : sn_S} (h : MS A B μ) {k i v : Nat} {j : Nat} (hj : j = 32 * k + i) (hk : k < snb μ) (hi : i < 32) (hv : v ≤ 7) (hz : bm (sbk μ k) ≤ i → v = 0) : MS (uA A 11 (upd (A 11) j (nI v))) B (setB μ k (bnu (sbk μ k) (uN (bn (sbk μ k)) i v))) := by
  subst hj
  have hb := h.1.2.2 k hk
  refine ⟨h.1.setB (hb.bnu (fun z => ?_) (fun z hz2 => ?_)), ?_, ?_, fun j hj => ?_⟩
  · unfold uN; split
    · exact hv
    · exact hb.2.2.2.2.2.2.2.1 z
  · unfold uN; split
    · rename_i e; exact hz (by omega)
    · exact hb.2.2.2.2.2.2.2.2.1 z hz2
  · exact ⟨h.2.1.1, h.2.1.2⟩
  · exact h.2.2.1
  · by_cases e : j = k
    · subst e
      obtain ⟨a1, a2, a3, a4, a5, a6, a7⟩ := h.2.2.2 j hj
      rw [setB_k]
      refine ⟨a1, a2, a3, fun z hz => ?_, a5, a6, a7⟩
      show upd (A 11) (32 * j + i) (nI v) (32 * j + z) = nI (uN (bn (sbk μ j)) i v z)
      by_cases e2 : z = i
      · subst e2; rw [pk_us]; unfold uN; rw [if_pos rfl]
      · rw [upd_n (by omega), a4 z hz]; unfold uN; rw [if_neg e2]
    · obtain ⟨a1, a2, a3, a4, a5, a6, a7⟩ := h.2.2.2 j hj
      rw [setB_n μ _ e]
      refine ⟨a1, a2, a3, fun z hz => ?_, a5, a6, a7⟩
      show upd (A 11) (32 * k + i) (nI v) (32 * j + z) = _
      rw [upd_n (by omega), a4 z hz]
/-- how often a key is really in book k changes -/
theorem MS.tim {A : sn_A2} {B : sn_B2} {μ : sn_S} (h : MS A B μ) {k i v : Nat} {j : Nat} (hj : j = 32 * k + i) (hk : k < snb μ) (hi : i < 32) (hv : v ≤ 99) : MS (uA A 12 (upd (A 12) j (nI v))) B (setB μ k (btu (sbk μ k) (uN (bt (sbk μ k)) i v))) := by
  subst hj
  have hb := h.1.2.2 k hk
  refine ⟨h.1.setB (hb.btu (fun z => ?_)), ?_, ?_, fun j hj => ?_⟩
  · unfold uN; split
    · exact hv
    · exact hb.2.2.2.2.2.2.2.2.2.1 z
  · exact ⟨h.2.1.1, h.2.1.2⟩
  · exact h.2.2.1
  · by_cases e : j = k
    · subst e
      obtain ⟨a1, a2, a3, a4, a5, a6, a7⟩ := h.2.2.2 j hj
      rw [setB_k]
      refine ⟨a1, a2, a3, a4, fun z hz => ?_, a6, a7⟩
      show upd (A 12) (32 * j + i) (nI v) (32 * j + z) = nI (uN (bt (sbk μ j)) i v z)
      by_cases e2 : z = i
      · subst e2; rw [pk_us]; unfold uN; rw [if_pos rfl]
      · rw [upd_n (by omega), a5 z hz]; unfold uN; rw [if_neg e2]
    · obtain ⟨a1, a2, a3, a4, a5, a6, a7⟩ := h.2.2.2 j hj
      rw [setB_n μ _ e]
      refine ⟨a1, a2, a3, a4, fun z hz => ?_, a6, a7⟩
      show upd (A 12) (32 * k + i) (nI v) (32 * j + z) = _
      rw [upd_n (by omega), a5 z hz]
/-- rows that hold nothing of the state: scratch, and what lies behind the last book -/
def sn_scr (a : Nat) : Bool := Nat.ble 15 a
theorem MS.scr {A : sn_A2} {B : sn_B2} {μ : sn_S} (h : MS A B μ) {a : Nat} (f : Nat → Int32) (ha : sn_scr a = true) : MS (uA A a f) B μ := by
  have h1 : ∀ c, c < 15 → uA A a f c = A c := fun c hc => uA_n A f (by
    cases hq : Nat.beq c a with
    | false => rfl
    | true => have := Nat.eq_of_beq_eq_true hq; have := Nat.le_of_ble_eq_true ha; omega)
  unfold MS ML MB
  rw [h1 0 (by omega), h1 6 (by omega), h1 7 (by omega), h1 8 (by omega), h1 9 (by omega), h1 10 (by omega), h1 11 (by omega), h1 12 (by omega), h1 13 (by omega)]
  exact h
theorem MS.scrB {A : sn_A2} {B : sn_B2} {μ : sn_S} (h : MS A B μ) {a : Nat} (f : Nat → Int64) (ha : Nat.beq 14 a = false) : MS A (uB B a f) μ := by
  have h1 : uB B a f 14 = B 14 := uB_n B f ha
  unfold MS MB
  rw [h1]
  exact h
/-- pushing -/
def pshF (m : Nat) : Nat → (Nat → Nat) → Nat → Nat → Option (Nat → Nat)
  | 0, _, _, _ => none
  | n + 1, g, p, f => if uN g p f (oth m p (g p)) = 0 then some (uN (uN g p f) (oth m p (g p)) (g p)) else pshF m n (uN g p f) (oth m p (g p)) (g p)
def psh (m : Nat) (g : Nat → Nat) (p f : Nat) : Option (Nat → Nat) := if g p = 0 then some (uN g p f) else if g (oth m p f) = 0 then some (uN g (oth m p f) f) else pshF m 8 g p f
/-- numbers behind a put, a take -/
def gput (k m pl : Nat) (g : Nat → Nat) : Nat → Nat := fun i => if i < m ∧ pl.testBit i = true then (if k = 1 then (if g i < 7 then g i + 1 else 7) else 1) else g i
def gtak (m pl : Nat) (g : Nat → Nat) : Nat → Nat := fun i => if i < m ∧ pl.testBit i = true ∧ g i < 7 then g i - 1 else g i
def nput (w : sn_Lw) (b : sn_Bk) (y : Nat) : Option (Nat → Nat) := if bk b = 3 then psh (bm b) (bn b) (frs w b y) (mrk w b 1 y) else some (gput (bk b) (bm b) (pls w b y) (bn b))
def ntak (w : sn_Lw) (b : sn_Bk) (y : Nat) : Nat → Nat := if bk b = 3 then uN (bn b) (if bn b (frs w b y) = mrk w b 1 y then frs w b y else oth (bm b) (frs w b y) (mrk w b 1 y)) 0 else gtak (bm b) (pls w b y) (bn b)
/-- put: the answer, the state -/
def an_put (μ : sn_S) (k y : Int32) : Int32 × sn_S :=
  if ¬ (rg k (snb μ) ∧ rg y 32) then (- nI 101, μ)
  else if bk (sbk μ (tn k)) = 4 ∨ bk (sbk μ (tn k)) = 5 ∨ bt (sbk μ (tn k)) (tn y) = 99 then (- nI 103, μ)
  else match nput (sw μ) (sbk μ (tn k)) (tn y) with
    | none => (- nI 104, μ)
    | some g => (b2i (isin (sw μ) (sbk μ (tn k)) (tn y)), setB μ (tn k) (btu (bnu (sbk μ (tn k)) g) (uN (bt (sbk μ (tn k))) (tn y) (bt (sbk μ (tn k)) (tn y) + 1))))
def an_take (μ : sn_S) (k y : Int32) : Int32 × sn_S :=
  if ¬ (rg k (snb μ) ∧ rg y 32) then (- nI 101, μ)
  else if ¬ ((bk (sbk μ (tn k)) = 1 ∨ bk (sbk μ (tn k)) = 3) ∧ isin (sw μ) (sbk μ (tn k)) (tn y) = true) then (- nI 103, μ)
  else (nI (if 0 < bt (sbk μ (tn k)) (tn y) then 1 else 0), setB μ (tn k) (btu (bnu (sbk μ (tn k)) (ntak (sw μ) (sbk μ (tn k)) (tn y))) (uN (bt (sbk μ (tn k))) (tn y) (bt (sbk μ (tn k)) (tn y) - 1))))
def addL (μ : sn_S) (a b : Nat) : sn_S := (((sw μ).1 + 1, uN (sw μ).2.1 (sw μ).1 a, uN (sw μ).2.2 (sw μ).1 b), μ.2)
def addB (μ : sn_S) (b : sn_Bk) : sn_S := (μ.1, snb μ + 1, fun j => if j = snb μ then b else sbk μ j)
def an_law (μ : sn_S) (a b : Int32) : Int32 × sn_S := if ¬ ((1 ≤ a.toInt ∧ a.toInt ≤ 36) ∧ rg b 37) then (- nI 102, μ) else if (sw μ).1 = 8 then (- nI 104, μ) else (nI (sw μ).1, addL μ (tn a) (tn b))
def fits_ (kd n : Nat) : Prop := if kd = 3 then n = 2 else if kd = 4 then n = 3 else 1 ≤ n ∧ n ≤ 3
def nbk (kd m ls : Nat) : sn_Bk := (kd, m, ls, fun _ => 0, fun _ => 0, 0, fun _ => 0)
