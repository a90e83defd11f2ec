/-! THE CLASS: put, take -/
/-- the cells of the script and of the reference stay -/
def LW (h h' : sn_H) : Prop := ∀ i, (i = 0 ∨ (5 ≤ i ∧ i < 27)) → h'[i]? = h[i]?
theorem LW.refl (h : sn_H) : LW h h := fun _ _ => rfl
theorem AG.lw {h h' : sn_H} {a n : Nat} (g : AG h h' a n) (ha : 27 ≤ a) : LW h h' := fun i hi => g.2 i (by omega)
def PXi (h : sn_H) (z : Int32 × sn_S) (r : Option Value) (h' : sn_H) : Prop := r = some (.int z.1) ∧ XR h' z.2 ∧ LW h h'
theorem PXi.rc {h : sn_H} {z : Int32 × sn_S} {r : Option Value} {h' : sn_H} (q : PXi h z r h') : sn_rc (some .int) r := by
  obtain ⟨rfl, _⟩ := q; trivial
theorem PXi.mk {h h' : sn_H} {z : Int32 × sn_S} {v : Int32} {μ : sn_S} (q : XR h' μ) (g : LW h h') (e : (v, μ) = z) : PXi h z (some (.int v)) h' := by
  subst e; exact ⟨rfl, q, g⟩
theorem v_letsPut (d : Nat) (h : sn_H) (ad : Nat) {n : Nat} {b : sn_Bk} (hb : WB n b) : Sp d (vt_letsPut (bk b + 3)) [.ref ad] h (some (.int (b2i (decide (bk b ≠ 4 ∧ bk b ≠ 5))))) h := by
  have hk : bk b = 0 ∨ bk b = 1 ∨ bk b = 2 ∨ bk b = 3 ∨ bk b = 4 ∨ bk b = 5 := by have := hb.1; omega
  rcases hk with e | e | e | e | e | e <;> rw [e]
  · exact e_P_letsPut d h ad
  · exact e_P_letsPut d h ad
  · exact e_P_letsPut d h ad
  · exact e_U_letsPut d h ad
  · exact e_F_letsPut d h ad
  · exact e_L_letsPut d h ad
theorem v_letsTake (d : Nat) (h : sn_H) (ad : Nat) {n : Nat} {b : sn_Bk} (hb : WB n b) : Sp d (vt_letsTake (bk b + 3)) [.ref ad] h (some (.int (b2i (decide (bk b = 1 ∨ bk b = 3))))) h := by
  have hk : bk b = 0 ∨ bk b = 1 ∨ bk b = 2 ∨ bk b = 3 ∨ bk b = 4 ∨ bk b = 5 := by have := hb.1; omega
  rcases hk with e | e | e | e | e | e <;> rw [e]
  · exact e_B_letsTake d h ad
  · exact e_C_letsTake d h ad
  · exact e_B_letsTake d h ad
  · exact e_U_letsTake d h ad
  · exact e_B_letsTake d h ad
  · exact e_B_letsTake d h ad
theorem v_insert (d : Nat) {h : sn_H} {w : sn_Lw} {b : sn_Bk} {ad ru : Nat} (hw : WL w) (hb : WB w.1 b) (hR : BR h w b ad ru) {y : Nat} {yv : Int32} (e1 : yv = nI y) (hy : y < 32) (hk : bk b ≠ 4 ∧ bk b ≠ 5) : SpP (d + 3) (vt_insert (bk b + 3)) [.ref ad, .int yv] h (PI h w b ad ru (nput w b y).isSome ((nput w b y).getD (bn b))) := by
  have hk : bk b = 0 ∨ bk b = 1 ∨ bk b = 2 ∨ bk b = 3 := by have := hb.1; omega
  by_cases h3 : bk b = 3
  · have e : nput w b y = psh (bm b) (bn b) (frs w b y) (mrk w b 1 y) := if_pos h3
    have z := e_U_insert d hw hb hR e1 hy h3
    rw [e, show vt_insert (bk b + 3) = me_U_insert by rw [h3]; rfl]
    exact z
  · have e : nput w b y = some (gput (bk b) (bm b) (pls w b y) (bn b)) := if_neg h3
    rw [e]
    by_cases h1 : bk b = 1
    · rw [show vt_insert (bk b + 3) = me_C_insert by rw [h1]; rfl]
      exact e_C_insert d hw hb hR e1 hy h1
    · have h02 : bk b = 0 ∨ bk b = 2 := by omega
      rw [show vt_insert (bk b + 3) = me_P_insert by rcases h02 with e | e <;> rw [e] <;> rfl]
      exact e_P_insert d hw hb hR e1 hy h02
theorem v_remove (d : Nat) {h : sn_H} {w : sn_Lw} {b : sn_Bk} {ad ru : Nat} (hw : WL w) (hb : WB w.1 b) (hR : BR h w b ad ru) {y : Nat} {yv : Int32} (e1 : yv = nI y) (hy : y < 32) (hk : bk b = 1 ∨ bk b = 3) (hin : isin w b y = true) : SpP (d + 3) (vt_remove (bk b + 3)) [.ref ad, .int yv] h (PT h w b ad ru (ntak w b y)) := by
  rcases hk with h1 | h3
  · have e : ntak w b y = gtak (bm b) (pls w b y) (bn b) := if_neg (by omega)
    rw [e, show vt_remove (bk b + 3) = me_C_remove by rw [h1]; rfl]
    exact e_C_remove d hw hb hR e1 hy h1
  · rw [show vt_remove (bk b + 3) = me_U_remove by rw [h3]; rfl]
    exact e_U_remove (d + 1) hw hb hR e1 hy h3 hin
