/-! THE REFERENCE: its static rows -/
theorem lin {a b i : Nat} (ha : a ≤ 36) (hb : b ≤ 36) (hi : i < 32) : a * i + b < 2 ^ 31 := by
  have := Nat.mul_le_mul ha (Nat.le_of_lt hi)
  omega
theorem or_step {f : Nat → Nat} {i v : Nat} (h : v = f i) : lN (orf f i) ||| lN v = lN (orf f (i + 1)) := by rw [fb_orL, h]; rfl
theorem ct_step {f : Nat → Bool} {i v : Nat} (h : v = if f i then 1 else 0) : nI (ctf f i) + nI v = nI (ctf f (i + 1)) := by rw [nI_add, h]; rfl
theorem lN_lt32 {s : Nat} (h : s < 2 ^ 32) : s < 2 ^ 63 := by omega
theorem e_M_has (d : Nat) (h : sn_H) {v : Int64} {x : Int32} {s k : Nat} (hv : v = lN s) (hx : x = nI k) (hs : s < 2 ^ 63) (hk : k < 63) : Sp d me_M_has [.long v, .int x] h (some (.int (b2i (s.testBit k)))) h := by
  subst hv; subst hx
  refine Sp.of ok_M_has (b2i_rc _) rfl ?_
  refine Ev.go 6 rfl ?_
  refine Ev.lne rfl rfl (has_N hs hk) rfl (by cases s.testBit k <;> decide) (by omega) (fun c6 => ?_) (fun c6 => ?_)
  · refine Ev.go 1 rfl ?_
    exact Ev.reti rfl (by cases hb : s.testBit k <;> simp [hb, b2i_t, b2i_f] at c6 ⊢)
  refine Ev.go 2 rfl ?_
  exact Ev.reti rfl (by cases hb : s.testBit k <;> simp [hb, b2i_t, b2i_f] at c6 ⊢)
theorem e_M_within (d : Nat) (h : sn_H) (v lo hi : Int64) : Sp d me_M_within [.long v, .long lo, .long hi] h (some (.int (b2i (decide (lo ≤ v ∧ v ≤ hi))))) h := by
  refine Sp.of ok_M_within (b2i_rc _) rfl ?_
  refine Ev.go 2 rfl ?_
  refine Ev.rlt rfl rfl (fun c2 => ?_) (fun c2 => ?_)
  · refine Ev.go 1 rfl ?_
    exact Ev.reti rfl (by first | exact b2i_dt (by simp only [Int64.le_iff_toInt_le, Int64.lt_iff_toInt_lt] at *; omega) | exact b2i_df (by simp only [Int64.le_iff_toInt_le, Int64.lt_iff_toInt_lt] at *; omega))
  refine Ev.go 2 rfl ?_
  refine Ev.rgt rfl rfl (fun c9 => ?_) (fun c9 => ?_)
  · refine Ev.go 1 rfl ?_
    exact Ev.reti rfl (by first | exact b2i_dt (by simp only [Int64.le_iff_toInt_le, Int64.lt_iff_toInt_lt] at *; omega) | exact b2i_df (by simp only [Int64.le_iff_toInt_le, Int64.lt_iff_toInt_lt] at *; omega))
  refine Ev.go 2 rfl ?_
  exact Ev.reti rfl (by first | exact b2i_dt (by simp only [Int64.le_iff_toInt_le, Int64.lt_iff_toInt_lt] at *; omega) | exact b2i_df (by simp only [Int64.le_iff_toInt_le, Int64.lt_iff_toInt_lt] at *; omega))
theorem e_M_ones (d : Nat) (h : sn_H) {v : Int64} {s : Nat} (hv : v = lN s) (hs : s < 2 ^ 32) : Sp d me_M_ones [.long v] h (some (.int (nI (pcnt s)))) h := by
  subst hv
  refine Sp.of ok_M_ones trivial rfl ?_
  refine Ev.go 4 rfl ?_
  have L : ∀ (n : Nat) (c : Nat) (m : Nat) (mv : Int32) (cv : Int64), c ≤ n → c < 2 ^ 32 → m + pcnt c = pcnt s → mv = nI m → cv = lN c → Ev o0 d me_M_ones 4 [.long (lN s), .retAddr 0, .int mv, .long cv, .retAddr 0] [] h (some (.int (nI (pcnt s)))) h := by
    intro n
    induction n using Nat.strongRecOn with
    | _ n ih =>
      intro c m mv cv h1 h2 h3 h4 h5
      subst h4
      subst h5
      refine Ev.go 2 rfl ?_
      refine Ev.leq rfl rfl rfl rfl (by omega) (by omega) (fun c6 => ?_) (fun c6 => ?_)
      · refine Ev.go 1 rfl ?_
        exact Ev.reti rfl (by subst c6; rw [← h3, pcnt_0]; rfl)
      refine Ev.go 8 rfl ?_
      exact ih (c &&& (c - 1)) (by have := and_pred_lt c6; omega) _ (m + 1) _ _ (Nat.le_refl _) (by have := and_pred_lt c6; omega) (by have := pcnt_drop c6; omega) (by rw [nI_add]) (by rw [lN_sub (by omega), fb_andL])
  exact L s s 0 _ _ (Nat.le_refl _) hs (by omega) rfl rfl
theorem e_M_placesBy (d : Nat) (h : sn_H) {av bv mv : Int32} {sv : Int64} {a b m s : Nat} (e1 : av = nI a) (e2 : bv = nI b) (e3 : mv = nI m) (e4 : sv = lN s) (ha : a ≤ 36) (hb : b ≤ 36) (hm : 2 ≤ m) (hm2 : m ≤ 32) (hs : s < 2 ^ 32) : Sp (d + 1) me_M_placesBy [.int av, .int bv, .int mv, .long sv] h (some (.long (lN (plBy a b m s)))) h := by
  subst e1; subst e2; subst e3; subst e4
  refine Sp.of ok_M_placesBy trivial rfl ?_
  refine Ev.go 4 rfl ?_
  have L : ∀ (n : Nat) (i : Nat) (bv : Int64) (xv : Int32), i + n = 32 → bv = lN (orf (fun x => if s.testBit x then 2 ^ (val a b x % m) else 0) i) → xv = nI i → Ev o0 (d + 1) me_M_placesBy 6 [.int (nI a), .int (nI b), .int (nI m), .long (lN s), .retAddr 0, .long bv, .retAddr 0, .int xv] [] h (some (.long (lN (plBy a b m s)))) h := by
    intro n
    induction n using Nat.strongRecOn with
    | _ n ih =>
      intro i bv xv h1 h2 h3
      subst h2
      subst h3
      refine Ev.go 2 rfl ?_
      refine Ev.ige rfl rfl rfl (by omega) (by omega) (fun c10 => ?_) (fun c10 => ?_)
      · refine Ev.go 1 rfl ?_
        exact Ev.retl rfl (by rw [show i = 32 by omega]; rfl)
      refine Ev.go 3 rfl ?_
      refine Ev.cs (E' := me_M_has) rfl mk_M_has ls_1_100 rfl rfl (e_M_has d h rfl rfl (by omega) (by omega)) ?_
      refine Ev.zb rfl rfl (fun c21 => ?_) (fun c21 => ?_)
      · refine Ev.go 5 rfl ?_
        exact ih (n - 1) (by omega) (i + 1) _ _ (by omega) (or_step (by simp [c21])) (by rw [nI_add])
      refine Ev.go 7 rfl ?_
      refine Ev.rm rfl (by rw [pk_mul, nI_add]) rfl (lin ha hb (by omega)) (by omega) (by omega) ?_
      refine Ev.go 1 rfl ?_
      refine Ev.rm rfl rfl rfl (by omega) (by omega) (by omega) ?_
      refine Ev.go 2 rfl ?_
      refine Ev.go 4 rfl ?_
      exact ih (n - 1) (by omega) (i + 1) _ _ (by omega) (by rw [sh1 (by have := Nat.mod_lt ((a * i + b) % 37) (show 0 < m by omega); omega)]; exact or_step (by simp [c21, val])) (by rw [nI_add])
  exact L 32 0 _ _ rfl rfl rfl
theorem e_M_falseBy (d : Nat) (h : sn_H) {av bv mv : Int32} {sv : Int64} {a b m s : Nat} (e1 : av = nI a) (e2 : bv = nI b) (e3 : mv = nI m) (e4 : sv = lN s) (ha : a ≤ 36) (hb : b ≤ 36) (hm : 2 ≤ m) (hm2 : m ≤ 32) (hs : s < 2 ^ 32) : Sp (d + 2) me_M_falseBy [.int av, .int bv, .int mv, .long sv] h (some (.int (nI (flBy a b m s)))) h := by
  subst e1; subst e2; subst e3; subst e4
  refine Sp.of ok_M_falseBy trivial rfl ?_
  have hp := plBy_lt (a := a) (b := b) (s := s) (show 0 < m by omega) hm2
  refine Ev.go 4 rfl ?_
  refine Ev.cs (E' := me_M_placesBy) rfl mk_M_placesBy ls_1_104 rfl rfl (e_M_placesBy d h rfl rfl rfl rfl ha hb hm hm2 hs) ?_
  refine Ev.go 5 rfl ?_
  skip
  have L : ∀ (n : Nat) (i : Nat) (cv : Int32) (xv : Int32), i + n = 32 → cv = nI (ctf (fun x => !s.testBit x && (plBy a b m s).testBit (val a b x % m)) i) → xv = nI i → Ev o0 (d + 2) me_M_falseBy 15 [.int (nI a), .int (nI b), .int (nI m), .long (lN s), .retAddr 0, .long (lN (plBy a b m s)), .retAddr 0, .int cv, .int xv] [] h (some (.int (nI (flBy a b m s)))) h := by
    intro n
    induction n using Nat.strongRecOn with
    | _ n ih =>
      intro i cv xv h1 h2 h3
      subst h2
      subst h3
      refine Ev.go 2 rfl ?_
      refine Ev.ige rfl rfl rfl (by omega) (by omega) (fun c19 => ?_) (fun c19 => ?_)
      · refine Ev.go 1 rfl ?_
        exact Ev.reti rfl (by rw [show i = 32 by omega]; rfl)
      refine Ev.go 3 rfl ?_
      refine Ev.cs (E' := me_M_has) rfl mk_M_has ls_1_100 rfl rfl (e_M_has (d + 1) h rfl rfl (by omega) (by omega)) ?_
      refine Ev.zn rfl rfl (fun c30 => ?_) (fun c30 => ?_)
      · refine Ev.go 5 rfl ?_
        exact ih (n - 1) (by omega) (i + 1) _ _ (by omega) (ct_step (by simp [c30, val])) (by rw [nI_add])
      refine Ev.go 7 rfl ?_
      refine Ev.rm rfl (by rw [pk_mul, nI_add]) rfl (lin ha hb (by omega)) (by omega) (by omega) ?_
      refine Ev.go 1 rfl ?_
      refine Ev.rm rfl rfl rfl (by omega) (by omega) (by omega) ?_
      refine Ev.cs (E' := me_M_has) rfl mk_M_has ls_1_100 rfl rfl (e_M_has (d + 1) h rfl rfl (by omega) (by have := Nat.mod_lt ((a * i + b) % 37) (show 0 < m by omega); omega)) ?_
      refine Ev.zb rfl rfl (fun c49 => ?_) (fun c49 => ?_)
      · refine Ev.go 5 rfl ?_
        exact ih (n - 1) (by omega) (i + 1) _ _ (by omega) (ct_step (by simp [c30, c49, val])) (by rw [nI_add])
      refine Ev.go 2 rfl ?_
      refine Ev.go 4 rfl ?_
      exact ih (n - 1) (by omega) (i + 1) _ _ (by omega) (ct_step (by simp [c30, c49, val])) (by rw [nI_add])
  exact L 32 0 _ _ rfl rfl rfl
theorem e_M_markOf (d : Nat) (h : sn_H) {v : Int32} {n : Nat} (hv : v = nI n) (hn : n < 37) : Sp d me_M_markOf [.int v] h (some (.int (nI (n % 7 + 1)))) h := by
  subst hv
  refine Sp.of ok_M_markOf trivial rfl ?_
  refine Ev.go 2 rfl ?_
  refine Ev.rm rfl rfl rfl (by omega) (by omega) (by omega) ?_
  refine Ev.go 2 rfl ?_
  exact Ev.reti rfl (by rw [nI_add])
theorem e_M_chosen (d : Nat) (h : sn_H) {x y z : Int32} {a b : Nat} {l : Bool} (e1 : x = nI a) (e2 : y = nI b) (e3 : z = b2i l) (ha : a < 2 ^ 31) (hb : b < 2 ^ 31) : Sp d me_M_chosen [.int x, .int y, .int z] h (some (.int (nI (if l then min a b else max a b)))) h := by
  subst e1; subst e2; subst e3
  refine Sp.of ok_M_chosen trivial rfl ?_
  refine Ev.go 2 rfl ?_
  refine Ev.ige rfl rfl rfl (by omega) (by omega) (fun c2 => ?_) (fun c2 => ?_)
  · refine Ev.go 2 rfl ?_
    refine Ev.brn rfl rfl (fun c11 => ?_) (fun c11 => ?_)
    · refine Ev.go 1 rfl ?_
      exact Ev.reti rfl (by cases l <;> first | (exact absurd rfl c11) | (exact absurd c11 (by decide)) | (congr 1; simp; omega))
    refine Ev.go 2 rfl ?_
    exact Ev.reti rfl (by cases l <;> first | (exact absurd rfl c11) | (exact absurd c11 (by decide)) | (congr 1; simp; omega))
  refine Ev.go 2 rfl ?_
  refine Ev.go 1 rfl ?_
  refine Ev.brn rfl rfl (fun c11 => ?_) (fun c11 => ?_)
  · refine Ev.go 1 rfl ?_
    exact Ev.reti rfl (by cases l <;> first | (exact absurd rfl c11) | (exact absurd c11 (by decide)) | (congr 1; simp; omega))
  refine Ev.go 2 rfl ?_
  exact Ev.reti rfl (by cases l <;> first | (exact absurd rfl c11) | (exact absurd c11 (by decide)) | (congr 1; simp; omega))
theorem e_M_isKey (d : Nat) (h : sn_H) (x : Int32) : Sp (d + 1) me_M_isKey [.int x] h (some (.int (b2i (decide (0 ≤ x.toInt ∧ x.toInt < 32))))) h := by
  refine Sp.of ok_M_isKey (b2i_rc _) rfl ?_
  refine Ev.go 4 rfl ?_
  refine Ev.cs (E' := me_M_within) rfl mk_M_within ls_1_77 rfl rfl (e_M_within d h _ _ _) ?_
  exact Ev.reti rfl (by congr 1; apply decide_eq_decide.mpr; simp only [Int64.le_iff_toInt_le]; rw [show (31 : Int64).toInt = 31 from rfl, show (lN 0).toInt = 0 from rfl, Int32.toInt_toInt64]; omega)
theorem e_M_isSet (d : Nat) (h : sn_H) (x : Int64) : Sp (d + 1) me_M_isSet [.long x] h (some (.int (b2i (decide (0 ≤ x.toInt ∧ x.toInt < 4294967296))))) h := by
  refine Sp.of ok_M_isSet (b2i_rc _) rfl ?_
  refine Ev.go 3 rfl ?_
  refine Ev.cs (E' := me_M_within) rfl mk_M_within ls_1_77 rfl rfl (e_M_within d h _ _ _) ?_
  exact Ev.reti rfl (by congr 1; apply decide_eq_decide.mpr; simp only [Int64.le_iff_toInt_le]; rw [show (4294967295 : Int64).toInt = 4294967295 from rfl, show (lN 0).toInt = 0 from rfl]; omega)
