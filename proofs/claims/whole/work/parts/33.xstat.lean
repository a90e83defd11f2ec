/-! THE CLASS: its static rows -/
theorem mx_N {a b : Nat} (ha : a < 2 ^ 31) (hb : b < 2 ^ 31) : (if nI a < nI b then nI b else nI a) = nI (max a b) := by
  by_cases q : a < b
  · rw [if_pos ((nI_ltI ha hb).mpr q)]; congr 1; omega
  · rw [if_neg (fun z => q ((nI_ltI ha hb).mp z))]; congr 1; omega
theorem mn_N {a b : Nat} (ha : a < 2 ^ 31) (hb : b < 2 ^ 31) : (if nI b < nI a then nI b else nI a) = nI (min a b) := by
  by_cases q : b < a
  · rw [if_pos ((nI_ltI hb ha).mpr q)]; congr 1; omega
  · rw [if_neg (fun z => q ((nI_ltI hb ha).mp z))]; congr 1; omega
theorem nI_ti {n : Nat} (h : n < 2 ^ 31) : (nI n).toInt = (n : Int) := nI_toInt h
theorem lt0 (x : Int32) : x < 0 ↔ x.toInt < 0 := by rw [fa_lt]; rfl
theorem ltn (x : Int32) {n : Nat} (h : n < 2 ^ 31) : x < nI n ↔ x.toInt < n := by rw [fa_lt, nI_toInt h]
theorem len_ (x : Int32) {n : Nat} (h : n < 2 ^ 31) : nI n ≤ x ↔ (n : Int) ≤ x.toInt := by rw [fa_le, nI_toInt h]
theorem gtn (x : Int32) {n : Nat} (h : n < 2 ^ 31) : nI n < x ↔ (n : Int) < x.toInt := by rw [fa_lt, nI_toInt h]
theorem e_X_isKey (d : Nat) (h : sn_H) (x : Int32) : Sp d me_X_isKey [.int x] h (some (.int (b2i (decide (rg x 32))))) h := by
  refine Sp.of ok_X_isKey (b2i_rc _) rfl ?_
  refine Ev.go 1 rfl ?_
  refine Ev.br rfl rfl (fun c1 => ?_) (fun c1 => ?_)
  · refine Ev.go 1 rfl ?_
    exact Ev.reti rfl (by first | exact b2i_dt (by rw [lt0] at c1;  unfold rg; omega) | exact b2i_df (by rw [lt0] at c1;  unfold rg; omega))
  refine Ev.go 2 rfl ?_
  refine Ev.br rfl rfl (fun c7 => ?_) (fun c7 => ?_)
  · refine Ev.go 1 rfl ?_
    exact Ev.reti rfl (by first | exact b2i_dt (by rw [lt0] at c1; rw [len_ x (by omega)] at c7; unfold rg; omega) | exact b2i_df (by rw [lt0] at c1; rw [len_ x (by omega)] at c7; unfold rg; omega))
  refine Ev.go 2 rfl ?_
  exact Ev.reti rfl (by first | exact b2i_dt (by rw [lt0] at c1; rw [len_ x (by omega)] at c7; unfold rg; omega) | exact b2i_df (by rw [lt0] at c1; rw [len_ x (by omega)] at c7; unfold rg; omega))
theorem e_X_isKind (d : Nat) (h : sn_H) (x : Int32) : Sp d me_X_isKind [.int x] h (some (.int (b2i (decide (rg x 6))))) h := by
  refine Sp.of ok_X_isKind (b2i_rc _) rfl ?_
  refine Ev.go 1 rfl ?_
  refine Ev.br rfl rfl (fun c1 => ?_) (fun c1 => ?_)
  · refine Ev.go 1 rfl ?_
    exact Ev.reti rfl (by first | exact b2i_dt (by rw [lt0] at c1;  unfold rg; omega) | exact b2i_df (by rw [lt0] at c1;  unfold rg; omega))
  refine Ev.go 2 rfl ?_
  refine Ev.br rfl rfl (fun c6 => ?_) (fun c6 => ?_)
  · refine Ev.go 1 rfl ?_
    exact Ev.reti rfl (by first | exact b2i_dt (by rw [lt0] at c1; rw [gtn x (by omega)] at c6; unfold rg; omega) | exact b2i_df (by rw [lt0] at c1; rw [gtn x (by omega)] at c6; unfold rg; omega))
  refine Ev.go 2 rfl ?_
  exact Ev.reti rfl (by first | exact b2i_dt (by rw [lt0] at c1; rw [gtn x (by omega)] at c6; unfold rg; omega) | exact b2i_df (by rw [lt0] at c1; rw [gtn x (by omega)] at c6; unfold rg; omega))
theorem e_X_isSize (d : Nat) (h : sn_H) (x : Int32) : Sp d me_X_isSize [.int x] h (some (.int (b2i (decide (2 ≤ x.toInt ∧ x.toInt ≤ 32))))) h := by
  refine Sp.of ok_X_isSize (b2i_rc _) rfl ?_
  refine Ev.go 2 rfl ?_
  refine Ev.br rfl rfl (fun c2 => ?_) (fun c2 => ?_)
  · refine Ev.go 1 rfl ?_
    exact Ev.reti rfl (by first | exact b2i_dt (by rw [ltn x (by omega)] at c2;  omega) | exact b2i_df (by rw [ltn x (by omega)] at c2;  omega))
  refine Ev.go 2 rfl ?_
  refine Ev.br rfl rfl (fun c8 => ?_) (fun c8 => ?_)
  · refine Ev.go 1 rfl ?_
    exact Ev.reti rfl (by first | exact b2i_dt (by rw [ltn x (by omega)] at c2; rw [gtn x (by omega)] at c8; omega) | exact b2i_df (by rw [ltn x (by omega)] at c2; rw [gtn x (by omega)] at c8; omega))
  refine Ev.go 2 rfl ?_
  exact Ev.reti rfl (by first | exact b2i_dt (by rw [ltn x (by omega)] at c2; rw [gtn x (by omega)] at c8; omega) | exact b2i_df (by rw [ltn x (by omega)] at c2; rw [gtn x (by omega)] at c8; omega))
theorem e_X_isSet (d : Nat) (h : sn_H) (x : Int64) : Sp d me_X_isSet [.long x] h (some (.int (b2i (decide (sg x))))) h := by
  refine Sp.of ok_X_isSet (b2i_rc _) rfl ?_
  refine Ev.go 2 rfl ?_
  refine Ev.rlt rfl rfl (fun c2 => ?_) (fun c2 => ?_)
  · refine Ev.go 1 rfl ?_
    exact Ev.reti rfl (by first | exact b2i_dt (by rw [fa_lt64, show (lN 0).toInt = 0 from rfl] at c2;  unfold sg; omega) | exact b2i_df (by rw [fa_lt64, show (lN 0).toInt = 0 from rfl] at c2;  unfold sg; omega))
  refine Ev.go 2 rfl ?_
  refine Ev.rgt rfl rfl (fun c10 => ?_) (fun c10 => ?_)
  · refine Ev.go 1 rfl ?_
    exact Ev.reti rfl (by first | exact b2i_dt (by rw [fa_lt64, show (lN 0).toInt = 0 from rfl] at c2; rw [fa_lt64, show (4294967295 : Int64).toInt = 4294967295 from rfl] at c10; unfold sg; omega) | exact b2i_df (by rw [fa_lt64, show (lN 0).toInt = 0 from rfl] at c2; rw [fa_lt64, show (4294967295 : Int64).toInt = 4294967295 from rfl] at c10; unfold sg; omega))
  refine Ev.go 2 rfl ?_
  exact Ev.reti rfl (by first | exact b2i_dt (by rw [fa_lt64, show (lN 0).toInt = 0 from rfl] at c2; rw [fa_lt64, show (4294967295 : Int64).toInt = 4294967295 from rfl] at c10; unfold sg; omega) | exact b2i_df (by rw [fa_lt64, show (lN 0).toInt = 0 from rfl] at c2; rw [fa_lt64, show (4294967295 : Int64).toInt = 4294967295 from rfl] at c10; unfold sg; omega))
theorem e_X_has (d : Nat) (h : sn_H) {v : Int64} {x : Int32} {s k : Nat} (hv : v = lN s) (hx : x = nI k) (hs : s < 2 ^ 63) (hk : k < 63) : Sp d me_X_has [.long v, .int x] h (some (.int (b2i (s.testBit k)))) h := by
  subst hv; subst hx
  refine Sp.of ok_X_has (b2i_rc _) rfl ?_
  refine Ev.go 6 rfl ?_
  refine Ev.leq rfl rfl (has_N hs hk) rfl (by cases s.testBit k <;> decide) (by omega) (fun c6 => ?_) (fun c6 => ?_)
  · refine Ev.go 1 rfl ?_
    exact Ev.reti rfl (by cases hb : s.testBit k <;> simp [hb, b2i_t, b2i_f] at c6 ⊢)
  refine Ev.go 2 rfl ?_
  exact Ev.reti rfl (by cases hb : s.testBit k <;> simp [hb, b2i_t, b2i_f] at c6 ⊢)
theorem e_X_rest (d : Nat) (h : sn_H) {v x : Int32} {a m : Nat} (hv : v = nI a) (hx : x = nI m) (ha : a < 2 ^ 31) (hm : 0 < m) (hm2 : m < 2 ^ 31) : Sp d me_X_rest [.int v, .int x] h (some (.int (nI (a % m)))) h := by
  subst hv; subst hx
  have hr := Nat.mod_lt a hm
  refine Sp.of ok_X_rest trivial rfl ?_
  refine Ev.go 1 rfl ?_
  refine Ev.zgt rfl rfl (by omega) (fun c1 => ?_) (fun c1 => ?_)
  · refine Ev.go 2 rfl ?_
    refine Ev.rm rfl rfl rfl ha hm hm2 ?_
    refine Ev.go 2 rfl ?_
    refine Ev.br rfl rfl (fun c11 => ?_) (fun c11 => ?_)
    · refine Ev.go 1 rfl ?_
      exact Ev.reti rfl (rfl)
    refine Ev.go 4 rfl ?_
    exact absurd (nI_pos' (by omega)) c11
  refine Ev.go 1 rfl ?_
  exact absurd c1 (by omega)
theorem e_X_restO (d : Nat) (h : sn_H) {v x : Int32} {p f m : Nat} (hv : v = nI 5 * nI f - nI p) (hx : x = nI m) (hf : f < 8) (hp : p < m) (hm2 : m < 33) : Sp d me_X_rest [.int v, .int x] h (some (.int (nI (oth m p f)))) h := by
  subst hv; subst hx
  have hd := oth_dec f hf m hm2 p hp
  refine Sp.of ok_X_rest trivial rfl ?_
  refine Ev.go 1 rfl ?_
  refine Ev.zgt rfl rfl (by omega) (fun c1 => ?_) (fun c1 => ?_)
  · refine Ev.go 2 rfl ?_
    refine Ev.p rfl rfl (nI_ne0 (by omega) (by omega)) ?_
    refine Ev.go 2 rfl ?_
    refine Ev.br rfl rfl (fun c11 => ?_) (fun c11 => ?_)
    · refine Ev.go 1 rfl ?_
      exact Ev.reti rfl (by rw [← hd, if_pos c11])
    refine Ev.go 4 rfl ?_
    exact Ev.reti rfl (by rw [← hd, if_neg c11])
  refine Ev.go 1 rfl ?_
  exact absurd c1 (by omega)
theorem e_X_either (d : Nat) (h : sn_H) {x y z : Int32} {a b : Nat} {l : Bool} (e1 : x = nI a) (e2 : y = nI b) (e3 : z = b2i l) (ha : a < 2 ^ 31) (hb : b < 2 ^ 31) : Sp (d + 1) me_X_either [.int x, .int y, .int z] h (some (.int (nI (jn l a b)))) h := by
  subst e1; subst e2; subst e3
  refine Sp.of ok_X_either trivial rfl ?_
  refine Ev.go 1 rfl ?_
  refine Ev.zb rfl rfl (fun c1 => ?_) (fun c1 => ?_)
  · refine Ev.go 2 rfl ?_
    refine Ev.mx rfl lm_0_191 rfl ?_
    exact Ev.reti rfl (by unfold jn; rw [c1, mx_N ha hb]; rfl)
  refine Ev.go 2 rfl ?_
  refine Ev.mn rfl lm_0_277 rfl ?_
  refine Ev.go 1 rfl ?_
  exact Ev.reti rfl (by unfold jn; rw [c1, mn_N ha hb]; rfl)
theorem e_X_placeBy (d : Nat) (h : sn_H) {av bv xv mv : Int32} {a b y m : Nat} (e1 : av = nI a) (e2 : bv = nI b) (e3 : xv = nI y) (e4 : mv = nI m) (ha : a ≤ 36) (hb : b ≤ 36) (hy : y < 32) (hm : 0 < m) (hm2 : m ≤ 32) : Sp d me_X_placeBy [.int av, .int bv, .int xv, .int mv] h (some (.int (nI (val a b y % m)))) h := by
  subst e1; subst e2; subst e3; subst e4
  refine Sp.of ok_X_placeBy trivial rfl ?_
  refine Ev.go 1 rfl ?_
  refine Ev.zle rfl rfl (by omega) (fun c1 => ?_) (fun c1 => ?_)
  · refine Ev.go 1 rfl ?_
    exact absurd c1 (by omega)
  refine Ev.go 6 rfl ?_
  refine Ev.rm rfl (by rw [pk_mul, nI_add]) rfl (lin ha hb hy) (by omega) (by omega) ?_
  refine Ev.go 1 rfl ?_
  refine Ev.rm rfl rfl rfl (by omega) (by omega) (by omega) ?_
  refine Ev.go 1 rfl ?_
  exact Ev.reti rfl (rfl)
theorem e_X_placesOfSet (d : Nat) (h : sn_H) {av bv mv : Int32} {sv : Int64} {a b m s : Nat} (e4 : sv = lN s) (e1 : av = nI a) (e2 : bv = nI b) (e3 : mv = nI m) (ha : a ≤ 36) (hb : b ≤ 36) (hm : 2 ≤ m) (hm2 : m ≤ 32) (hs : s < 2 ^ 32) : Sp (d + 1) me_X_placesOfSet [.long sv, .int av, .int bv, .int mv] h (some (.long (lN (plBy a b m s)))) h := by
  subst e1; subst e2; subst e3; subst e4
  refine Sp.of ok_X_placesOfSet trivial rfl ?_
  have L : ∀ (n : Nat) (i : Nat) (bv : Int64) (xv : Int32), (i + n = 32) → (bv = lN (orf (fun x => if s.testBit x then 2 ^ (val a b x % m) else 0) i)) → (xv = nI i) → Ev o0 (d + 1) me_X_placesOfSet 6 [.long (lN s), .retAddr 0, .int (nI a), .int (nI b), .int (nI m), .long bv, .retAddr 0, .int xv] [] h (some (.long (lN (plBy a b m s)))) h := by
    intro n
    induction n using Nat.strongRecOn with
    | _ n ih =>
      intro i bv xv h1 h2 h3
      subst h2
      subst h3
      refine Ev.go 2 rfl ?_
      refine Ev.ige rfl rfl rfl (by omega) (by omega) (fun c10 => ?_) (fun c10 => ?_)
      · refine Ev.go 1 rfl ?_
        exact Ev.retl rfl (by rw [show i = 32 by omega]; rfl)
      refine Ev.go 2 rfl ?_
      refine Ev.cs (E' := me_X_has) rfl mk_X_has ls_0_57 rfl rfl (e_X_has d h rfl rfl (by omega) (by omega)) ?_
      refine Ev.zb rfl rfl (fun c19 => ?_) (fun c19 => ?_)
      · refine Ev.go 2 rfl ?_
        exact ih (n - 1) (by omega) (i + 1) _ _ (by omega) (by simp [orf, c19]) (by rw [nI_add])
      refine Ev.go 6 rfl ?_
      refine Ev.cs (E' := me_X_placeBy) rfl mk_X_placeBy ls_0_65 rfl rfl (e_X_placeBy d h rfl rfl rfl rfl ha hb (by omega) (by omega) hm2) ?_
      refine Ev.go 5 rfl ?_
      exact ih (n - 1) (by omega) (i + 1) _ _ (by omega) (by rw [sh1 (by have := Nat.mod_lt (val a b i) (show 0 < m by omega); omega)]; exact or_step (by simp [c19])) (by rw [nI_add])
  refine Ev.go 4 rfl ?_
  exact L 32 0 _ _ rfl rfl rfl
theorem e_X_strangersMet (d : Nat) (h : sn_H) {av bv mv : Int32} {sv : Int64} {a b m s : Nat} (e4 : sv = lN s) (e1 : av = nI a) (e2 : bv = nI b) (e3 : mv = nI m) (ha : a ≤ 36) (hb : b ≤ 36) (hm : 2 ≤ m) (hm2 : m ≤ 32) (hs : s < 2 ^ 32) : Sp (d + 2) me_X_strangersMet [.long sv, .int av, .int bv, .int mv] h (some (.int (nI (flBy a b m s)))) h := by
  subst e1; subst e2; subst e3; subst e4
  have hp := plBy_lt (a := a) (b := b) (s := s) (show 0 < m by omega) hm2
  refine Sp.of ok_X_strangersMet trivial rfl ?_
  have L : ∀ (n : Nat) (i : Nat) (cv : Int32) (xv : Int32), (i + n = 32) → (cv = nI (ctf (fun x => !s.testBit x && (plBy a b m s).testBit (val a b x % m)) i)) → (xv = nI i) → Ev o0 (d + 2) me_X_strangersMet 16 [.long (lN s), .retAddr 0, .int (nI a), .int (nI b), .int (nI m), .long (lN (plBy a b m s)), .retAddr 0, .int cv, .int xv] [] h (some (.int (nI (flBy a b m s)))) h := by
    intro n
    induction n using Nat.strongRecOn with
    | _ n ih =>
      intro i cv xv h1 h2 h3
      subst h2
      subst h3
      refine Ev.go 2 rfl ?_
      refine Ev.ige rfl rfl rfl (by omega) (by omega) (fun c20 => ?_) (fun c20 => ?_)
      · refine Ev.go 1 rfl ?_
        exact Ev.reti rfl (by rw [show i = 32 by omega]; rfl)
      refine Ev.go 2 rfl ?_
      refine Ev.cs (E' := me_X_has) rfl mk_X_has ls_0_57 rfl rfl (e_X_has (d + 1) h rfl rfl (by omega) (by omega)) ?_
      refine Ev.zn rfl rfl (fun c29 => ?_) (fun c29 => ?_)
      · refine Ev.go 2 rfl ?_
        exact ih (n - 1) (by omega) (i + 1) _ _ (by omega) (by simp [ctf, c29]) (by rw [nI_add])
      refine Ev.go 5 rfl ?_
      refine Ev.cs (E' := me_X_placeBy) rfl mk_X_placeBy ls_0_65 rfl rfl (e_X_placeBy (d + 1) h rfl rfl rfl rfl ha hb (by omega) (by omega) hm2) ?_
      refine Ev.cs (E' := me_X_has) rfl mk_X_has ls_0_57 rfl rfl (e_X_has (d + 1) h rfl rfl (by omega) (by have := Nat.mod_lt (val a b i) (show 0 < m by omega); omega)) ?_
      refine Ev.zb rfl rfl (fun c46 => ?_) (fun c46 => ?_)
      · refine Ev.go 2 rfl ?_
        exact ih (n - 1) (by omega) (i + 1) _ _ (by omega) (by simp [ctf, c29, c46]) (by rw [nI_add])
      refine Ev.go 3 rfl ?_
      exact ih (n - 1) (by omega) (i + 1) _ _ (by omega) (ct_step (by simp [c29, c46])) (by rw [nI_add])
  refine Ev.go 4 rfl ?_
  refine Ev.cs (E' := me_X_placesOfSet) rfl mk_X_placesOfSet ls_0_61 rfl rfl (e_X_placesOfSet d h rfl rfl rfl rfl ha hb hm hm2 hs) ?_
  refine Ev.go 5 rfl ?_
  exact L 32 0 _ _ rfl rfl rfl
