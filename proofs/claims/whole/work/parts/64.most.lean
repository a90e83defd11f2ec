/-! HOW MANY AT ONCE, AS NUMBERS -/
def smF (f : Nat → Nat) : Nat → Nat
  | 0 => 0
  | n + 1 => smF f n + f n
theorem smF_cong {f g : Nat → Nat} : ∀ {n : Nat}, (∀ i, i < n → f i = g i) → smF f n = smF g n
  | 0, _ => rfl
  | n + 1, h => by rw [smF, smF, smF_cong (fun i hi => h i (by omega)), h n (by omega)]
theorem smF_upd {f g : Nat → Nat} {a v : Nat} (hne : ∀ l, l ≠ a → g l = f l) (ha : g a = f a + v) : ∀ {n : Nat}, smF g n = smF f n + (if a < n then v else 0)
  | 0 => by simp [smF]
  | n + 1 => by
    rw [smF, smF, smF_upd hne ha (n := n)]
    by_cases e : n = a
    · subst e; rw [ha, if_neg (by omega), if_pos (by omega)]; omega
    · rw [hne n e]
      by_cases e2 : a < n
      · rw [if_pos e2, if_pos (by omega)]; omega
      · rw [if_neg e2, if_neg (by omega)]; omega
/-- a sum over labels, as a sum over those that are the first of their label -/
theorem smF_img {F g : Nat → Nat} {m : Nat} (hg : ∀ i, i < m → g i < m) : ∀ n, n ≤ m → smF (fun l => if 0 < ctf (fun i => decide (g i = l)) n then F l else 0) m = smF (fun i => if ctf (fun j => decide (g j = g i)) i = 0 then F (g i) else 0) n
  | 0, _ => by
    have h0 : ∀ k, smF (fun l => if 0 < ctf (fun i => decide (g i = l)) 0 then F l else 0) k = 0 := by
      intro k
      induction k with
      | zero => rfl
      | succ k ih => rw [smF, ih]; rfl
    rw [h0]; rfl
  | n + 1, h => by
    have ih := smF_img (F := F) hg n (by omega)
    rw [smF, ← ih]
    by_cases e : ctf (fun j => decide (g j = g n)) n = 0
    · rw [if_pos e]
      have hu := smF_upd (f := fun l => if 0 < ctf (fun i => decide (g i = l)) n then F l else 0) (g := fun l => if 0 < ctf (fun i => decide (g i = l)) (n + 1) then F l else 0) (a := g n) (v := F (g n)) (fun l hl => by
        have : ctf (fun i => decide (g i = l)) (n + 1) = ctf (fun i => decide (g i = l)) n := by rw [ctf, decide_eq_false (fun q => hl q.symm)]; rfl
        simp only [this]) (by
        have h1 : ctf (fun i => decide (g i = g n)) (n + 1) = 1 := by rw [ctf, e, decide_eq_true rfl]; rfl
        simp only [h1, e]
        rw [if_pos (by omega), if_neg (by omega)]; omega) (n := m)
      rw [hu, if_pos (hg n (by omega))]
    · rw [if_neg e, Nat.add_zero]
      refine smF_cong (fun l _ => ?_)
      by_cases q : g n = l
      · subst q
        have h1 : 0 < ctf (fun i => decide (g i = g n)) (n + 1) := by rw [ctf]; omega
        rw [if_pos h1, if_pos (by omega)]
      · have : ctf (fun i => decide (g i = l)) (n + 1) = ctf (fun i => decide (g i = l)) n := by rw [ctf, decide_eq_false q]; rfl
        rw [this]
def mstF (m s : Nat) (fr g : Nat → Nat) : Nat := smF (fun l => min (ctf (fun i => decide (g i = l)) m) (ctf (fun x => s.testBit x && decide (g (fr x) = l)) 32)) m
theorem mst_can {m s : Nat} {fr g : Nat → Nat} (hg : ∀ i, i < m → g i < m) : mstF m s fr g = smF (fun i => if ctf (fun j => decide (g j = g i)) i = 0 then min (ctf (fun j => decide (g j = g i)) m) (ctf (fun x => s.testBit x && decide (g (fr x) = g i)) 32) else 0) m := by
  rw [← smF_img (F := fun l => min (ctf (fun i => decide (g i = l)) m) (ctf (fun x => s.testBit x && decide (g (fr x) = l)) 32)) hg m (Nat.le_refl _)]
  refine smF_cong (fun l _ => ?_)
  by_cases e : 0 < ctf (fun i => decide (g i = l)) m
  · rw [if_pos e]
  · rw [if_neg e]; omega
theorem mst_ker {m s : Nat} {fr g r : Nat → Nat} (hg : ∀ i, i < m → g i < m) (hr : ∀ i, i < m → r i < m) (hf : ∀ x, fr x < m) (hk : ∀ i j, g i = g j ↔ r i = r j) : mstF m s fr g = mstF m s fr r := by
  rw [mst_can hg, mst_can hr]
  refine smF_cong (fun i hi => ?_)
  have e1 : ∀ n, ctf (fun j => decide (g j = g i)) n = ctf (fun j => decide (r j = r i)) n := fun n => ctf_cong (fun j _ => decide_eq_decide.mpr (hk j i))
  have e2 : ctf (fun x => s.testBit x && decide (g (fr x) = g i)) 32 = ctf (fun x => s.testBit x && decide (r (fr x) = r i)) 32 := ctf_cong (fun x _ => by rw [decide_eq_decide.mpr (hk (fr x) i)])
  rw [e1, e1, e2]
/-- the class's groups, the reference's heads -/
def grp (fr ot : Nat → Nat) (s : Nat) : Nat → Nat → Nat
  | 0 => fun i => i
  | n + 1 => fun i => if s.testBit n = true ∧ grp fr ot s n i = grp fr ot s n (ot n) then grp fr ot s n (fr n) else grp fr ot s n i
def rtp (fr ot : Nat → Nat) (s : Nat) : Nat → Nat → Nat
  | 0 => fun i => i
  | n + 1 => fun i => if s.testBit n = true ∧ rtp fr ot s n i = rtp fr ot s n (fr n) then rtp fr ot s n (ot n) else rtp fr ot s n i
theorem grp_lt {fr ot : Nat → Nat} {s m : Nat} (hf : ∀ x, fr x < m) : ∀ n i, i < m → grp fr ot s n i < m
  | 0, i, h => h
  | n + 1, i, h => by
    unfold grp
    split
    · exact grp_lt hf n _ (hf n)
    · exact grp_lt hf n i h
theorem rtp_lt {fr ot : Nat → Nat} {s m : Nat} (ho : ∀ x, ot x < m) : ∀ n i, i < m → rtp fr ot s n i < m
  | 0, i, h => h
  | n + 1, i, h => by
    unfold rtp
    split
    · exact rtp_lt ho n _ (ho n)
    · exact rtp_lt ho n i h
theorem grp_ker (fr ot : Nat → Nat) (s : Nat) : ∀ n i j, grp fr ot s n i = grp fr ot s n j ↔ rtp fr ot s n i = rtp fr ot s n j
  | 0, i, j => Iff.rfl
  | n + 1, i, j => by
    have K := grp_ker fr ot s n
    unfold grp rtp
    by_cases hs : s.testBit n = true
    · simp only [hs, true_and]
      generalize fr n = p at K
      generalize ot n = o at K
      by_cases a : grp fr ot s n i = grp fr ot s n o
      · have a' := (K i o).mp a
        rw [if_pos a]
        have ri : (if rtp fr ot s n i = rtp fr ot s n p then rtp fr ot s n o else rtp fr ot s n i) = rtp fr ot s n o := by split; rfl; exact a'
        rw [ri]
        by_cases b : grp fr ot s n j = grp fr ot s n o
        · have b' := (K j o).mp b
          rw [if_pos b]
          have rj : (if rtp fr ot s n j = rtp fr ot s n p then rtp fr ot s n o else rtp fr ot s n j) = rtp fr ot s n o := by split; rfl; exact b'
          rw [rj]
          exact ⟨fun _ => rfl, fun _ => rfl⟩
        · rw [if_neg b]
          by_cases c : rtp fr ot s n j = rtp fr ot s n p
          · rw [if_pos c]
            exact ⟨fun _ => rfl, fun _ => ((K j p).mpr c).symm⟩
          · rw [if_neg c]
            exact ⟨fun q => absurd ((K j p).mp q.symm) c, fun q => absurd ((K j o).mpr q.symm) b⟩
      · rw [if_neg a]
        by_cases b : grp fr ot s n j = grp fr ot s n o
        · have b' := (K j o).mp b
          rw [if_pos b]
          have rj : (if rtp fr ot s n j = rtp fr ot s n p then rtp fr ot s n o else rtp fr ot s n j) = rtp fr ot s n o := by split; rfl; exact b'
          rw [rj]
          by_cases c : rtp fr ot s n i = rtp fr ot s n p
          · rw [if_pos c]
            exact ⟨fun _ => rfl, fun _ => (K i p).mpr c⟩
          · rw [if_neg c]
            exact ⟨fun q => absurd ((K i p).mp q) c, fun q => absurd ((K i o).mpr q) a⟩
        · rw [if_neg b]
          by_cases c : rtp fr ot s n i = rtp fr ot s n p
          · rw [if_pos c]
            by_cases c2 : rtp fr ot s n j = rtp fr ot s n p
            · rw [if_pos c2]
              exact ⟨fun _ => rfl, fun _ => (K i j).mpr (c.trans c2.symm)⟩
            · rw [if_neg c2]
              exact ⟨fun q => absurd (((K i j).mp q).symm.trans c) c2, fun q => absurd ((K j o).mpr q.symm) b⟩
          · rw [if_neg c]
            by_cases c2 : rtp fr ot s n j = rtp fr ot s n p
            · rw [if_pos c2]
              exact ⟨fun q => absurd (((K i j).mp q).trans c2) c, fun q => absurd ((K i o).mpr q) a⟩
            · rw [if_neg c2]
              exact K i j
    · have h1 : ∀ i, ¬ (s.testBit n = true ∧ grp fr ot s n i = grp fr ot s n (ot n)) := fun _ z => hs z.1
      have h2 : ∀ i, ¬ (s.testBit n = true ∧ rtp fr ot s n i = rtp fr ot s n (fr n)) := fun _ z => hs z.1
      rw [if_neg (h1 i), if_neg (h1 j), if_neg (h2 i), if_neg (h2 j)]
      exact K i j
def otk (w : sn_Lw) (b : sn_Bk) (x : Nat) : Nat := oth (bm b) (frs w b x) (mrk w b 1 x)
def mst (w : sn_Lw) (b : sn_Bk) (s : Nat) : Nat := mstF (bm b) s (frs w b) (grp (frs w b) (otk w b) s 32)
theorem mst_r {w : sn_Lw} {b : sn_Bk} {n : Nat} (hb : WB n b) (s : Nat) : mst w b s = mstF (bm b) s (frs w b) (rtp (frs w b) (otk w b) s 32) := by
  have hm := hb.2.1
  have hf : ∀ x, frs w b x < bm b := fun x => frs_lt hb x
  have ho : ∀ x, otk w b x < bm b := fun x => oth_lt _ _ (by omega)
  exact mst_ker (fun i hi => grp_lt hf 32 i hi) (fun i hi => rtp_lt ho 32 i hi) hf (fun i j => grp_ker _ _ _ _ i j)
def an_most (μ : sn_S) (k : Int32) (s : Int64) : Int32 :=
  if ¬ rg k (snb μ) then - nI 101
  else if ¬ sg s then - nI 102
  else if bk (sbk μ (tn k)) = 3 then nI (mst (sw μ) (sbk μ (tn k)) (ts s)) else - nI 103
/-- a forest of heads, with its roots -/
def sHd (hd rt : Nat → Nat) : Prop := ∃ rk : Nat → Nat, ∀ i, i < 32 → hd i < 32 ∧ rt i < 32 ∧ hd (rt i) = rt i ∧ rt (hd i) = rt i ∧ (hd i = i → rt i = i) ∧ (hd i ≠ i → rk (hd i) < rk i)
theorem sHd.tie {hd rt : Nat → Nat} (h : sHd hd rt) {p o : Nat} (hp : p < 32) (ho : o < 32) : sHd (uN hd (rt p) (rt o)) (fun i => if rt i = rt p then rt o else rt i) := by
  obtain ⟨rk, h⟩ := h
  by_cases e : rt p = rt o
  · have e1 : uN hd (rt p) (rt o) = hd := by
      funext i; unfold uN; split
      · rename_i q; rw [q, (h p hp).2.2.1, e]
      · rfl
    have e2 : (fun i => if rt i = rt p then rt o else rt i) = rt := by
      funext i
      show (if rt i = rt p then rt o else rt i) = rt i
      split
      · rename_i q; rw [q, e]
      · rfl
    rw [e1, e2]; exact ⟨rk, h⟩
  · have root : ∀ i, i < 32 → rt (rt i) = rt i := fun i hi => (h (rt i) (h i hi).2.1).2.2.2.2.1 (h i hi).2.2.1
    refine ⟨fun i => if rt i = rt p then rk i + rk (rt o) + 1 else rk i, fun i hi => ?_⟩
    obtain ⟨a1, a2, a3, a4, a5, a6⟩ := h i hi
    obtain ⟨p1, p2, p3, p4, p5, p6⟩ := h p hp
    obtain ⟨o1, o2, o3, o4, o5, o6⟩ := h o ho
    have ro := root o ho
    have rp := root p hp
    have ri := root i hi
    have uo : uN hd (rt p) (rt o) (rt o) = rt o := (if_neg (fun q => e q.symm)).trans o3
    by_cases c : rt i = rt p
    · simp only [if_pos c]
      by_cases d : i = rt p
      · subst d
        have u : uN hd (rt p) (rt o) (rt p) = rt o := if_pos rfl
        rw [u]
        refine ⟨o2, o2, uo, ?_, fun q => q, fun _ => ?_⟩
        · rw [ro]
          rw [if_neg (fun q => e q.symm)]
        · rw [ro, if_neg (fun q => e q.symm)]; omega
      · have u : uN hd (rt p) (rt o) i = hd i := if_neg d
        rw [u]
        refine ⟨a1, o2, uo, ?_, fun q => absurd ((a5 q).symm.trans c) d, fun q => ?_⟩
        · rw [a4, if_pos c]
        · rw [a4, if_pos c]; have := a6 q; omega
    · simp only [if_neg c]
      have d : i ≠ rt p := fun q => c (by rw [q, rp])
      have u : uN hd (rt p) (rt o) i = hd i := if_neg d
      rw [u]
      refine ⟨a1, a2, (if_neg c).trans a3, ?_, a5, fun q => ?_⟩
      · rw [a4, if_neg c]
      · rw [a4, if_neg c]; exact a6 q
