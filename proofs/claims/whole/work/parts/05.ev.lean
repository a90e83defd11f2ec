/-! EV: what a method does from a point on, whatever machine stands there -/
abbrev sn_E : Type := Nat × sn_Tb × sn_Md
abbrev sn_W (κ : sn_K) (H : Heap) (locs : List Loc) (n k : Nat) (Q : State → Prop) (g : JFrame) : Prop := W κ.1 κ.2.1 κ.2.2.1 κ.2.2.2.1 κ.2.2.2.2.1 κ.2.2.2.2.2.1 κ.2.2.2.2.2.2.1 κ.2.2.2.2.2.2.2.1 κ.2.2.2.2.2.2.2.2.1 κ.2.2.2.2.2.2.2.2.2 H locs n k Q g
def sn_sl (c : va_E) : Nat := match c with
  | .inl (_, n, _) => n
  | .inr (_, fs) => fs.length
def sn_hs (h : sn_H) : Nat := (h.map sn_sl).sum
theorem sn_hs_app (h : sn_H) (c : va_E) : sn_hs (h ++ [c]) = sn_hs h + sn_sl c := by simp [sn_hs]
theorem sn_hs_set {h : sn_H} {i : Nat} {c c' : va_E} (hi : h[i]? = some c) (e : sn_sl c' = sn_sl c) : sn_hs (h.set i c') = sn_hs h := by
  induction h generalizing i with
  | nil => cases hi
  | cons a r ih =>
    cases i with
    | zero =>
      have e2 : a = c := Option.some.inj hi
      subst e2
      simp [sn_hs, e]
    | succ j =>
      have := ih (i := j) hi
      simp [sn_hs] at this ⊢
      omega
def sn_Rt (i : Instr) (r : Option Value) : Prop := match r, i with
  | none, .return_ => True
  | some (.int _), .ireturn => True
  | some (.long _), .lreturn => True
  | some (.ref _), .areturn => True
  | some .null, .areturn => True
  | _, _ => False
abbrev sn_O : Type := sn_G → sn_K → Prop
def o0 : sn_O := fun _ _ => True
def Ev (Ω : sn_O) (d : Nat) (E : sn_E) (pc : Nat) (lv st : List Value) (h : sn_H) (r : Option Value) (h' : sn_H) : Prop :=
  (h.length ≤ h'.length ∧ sn_hs h ≤ sn_hs h') ∧ ∀ (γ : sn_G) (κ : sn_K) (mc ms : Nat) (Q : State → Prop) (n k : Nat), sn_KF γ κ E.1 E.2.1 E.2.2 d mc ms → Ω γ κ → n + (h'.length - h.length) ≤ mc → k + (sn_hs h' - sn_hs h) ≤ ms →
    (∀ (pcR : Nat) (iR : Instr) (ls : Array Slot) (H : Heap) (locs : List Loc), decode E.2.2.2.1 pcR = .ok (iR, 1) → sn_Rt iR r → sn_HR γ h' H → va_S (sn_A γ) κ.2.2.2.2.1.heap H locs →
      sn_W κ H locs (n + (h'.length - h.length)) (k + (sn_hs h' - sn_hs h)) Q (F0 κ.2.2.2.2.2.1 pcR ls (r.toList.map (sn_tr γ)))) →
    sn_AW γ κ E.2.2.2.2.1 Q h pc lv st n k
theorem Ev.gen {Ω : sn_O} {d : Nat} {E : sn_E} {pc pc' : Nat} {lv st lv' st' : List Value} {h h1 h' : sn_H} {r : Option Value} (dn dk : Nat) (hl : h1.length = h.length + dn) (hk : sn_hs h1 = sn_hs h + dk)
    (S : ∀ (γ : sn_G) (κ : sn_K) (mc ms : Nat) (Q : State → Prop) (n k : Nat), sn_KF γ κ E.1 E.2.1 E.2.2 d mc ms → Ω γ κ → n + dn ≤ mc → k + dk ≤ ms → sn_AW γ κ E.2.2.2.2.1 Q h1 pc' lv' st' (n + dn) (k + dk) → sn_AW γ κ E.2.2.2.2.1 Q h pc lv st n k)
    (K : Ev Ω d E pc' lv' st' h1 r h') : Ev Ω d E pc lv st h r h' := by
  obtain ⟨⟨k1, k2⟩, K⟩ := K
  refine ⟨⟨by omega, by omega⟩, fun γ κ mc ms Q n k kf om a b R => ?_⟩
  refine S γ κ mc ms Q n k kf om (by omega) (by omega) (K γ κ mc ms Q (n + dn) (k + dk) kf om (by omega) (by omega) ?_)
  have e1 : n + dn + (h'.length - h1.length) = n + (h'.length - h.length) := by omega
  have e2 : k + dk + (sn_hs h' - sn_hs h1) = k + (sn_hs h' - sn_hs h) := by omega
  rw [e1, e2]
  exact R
theorem Ev.same {Ω : sn_O} {d : Nat} {E : sn_E} {pc pc' : Nat} {lv st lv' st' : List Value} {h h' : sn_H} {r : Option Value}
    (S : ∀ (γ : sn_G) (κ : sn_K) (mc ms : Nat) (Q : State → Prop) (n k : Nat), sn_KF γ κ E.1 E.2.1 E.2.2 d mc ms → Ω γ κ → sn_AW γ κ E.2.2.2.2.1 Q h pc' lv' st' n k → sn_AW γ κ E.2.2.2.2.1 Q h pc lv st n k)
    (K : Ev Ω d E pc' lv' st' h r h') : Ev Ω d E pc lv st h r h' :=
  Ev.gen 0 0 rfl rfl (fun γ κ mc ms Q n k kf om _ _ a => S γ κ mc ms Q n k kf om a) K
theorem Ev.pm {Ω : sn_O} {d : Nat} {E : sn_E} {pc pc' : Nat} {lv st lv' st' : List Value} {h h' : sn_H} {r : Option Value} {i : Instr} {len nx tg : Nat} {φ : Prop} (hi : (pc, i, len, nx, tg) ∈ E.2.1) (h1 : sn_ps E.1 E.2.2.2.2.1 i nx tg pc lv st = some (φ, pc', lv', st')) (hφ : φ)
    (K : Ev Ω d E pc' lv' st' h r h') : Ev Ω d E pc lv st h r h' :=
  Ev.same (fun _ _ _ _ _ _ _ kf _ a => sn_psok kf hi h1 hφ a) K
theorem Ev.p {Ω : sn_O} {d : Nat} {E : sn_E} {pc pc' : Nat} {lv st lv' st' : List Value} {h h' : sn_H} {r : Option Value} {i : Instr} {len nx tg : Nat} {φ : Prop} (hi : sn_tg E.2.1 pc = some (i, len, nx, tg)) (h1 : sn_ps E.1 E.2.2.2.2.1 i nx tg pc lv st = some (φ, pc', lv', st')) (hφ : φ)
    (K : Ev Ω d E pc' lv' st' h r h') : Ev Ω d E pc lv st h r h' := Ev.pm (sn_tg_mem hi) h1 hφ K
/-- a branch: both ways -/
theorem Ev.br {Ω : sn_O} {d : Nat} {E : sn_E} {pc p1 p2 : Nat} {lv st lv' st' : List Value} {h h' : sn_H} {r : Option Value} {i : Instr} {len nx tg : Nat} {c : Prop} [Decidable c] (hi : sn_tg E.2.1 pc = some (i, len, nx, tg)) (h1 : sn_ps E.1 E.2.2.2.2.1 i nx tg pc lv st = some (True, (if c then p1 else p2), lv', st'))
    (K1 : c → Ev Ω d E p1 lv' st' h r h') (K2 : ¬ c → Ev Ω d E p2 lv' st' h r h') : Ev Ω d E pc lv st h r h' := by
  by_cases hc : c
  · rw [if_pos hc] at h1; exact Ev.p hi h1 trivial (K1 hc)
  · rw [if_neg hc] at h1; exact Ev.p hi h1 trivial (K2 hc)
theorem Ev.bt {Ω : sn_O} {d : Nat} {E : sn_E} {pc p1 p2 : Nat} {lv st lv' st' : List Value} {h h' : sn_H} {r : Option Value} {i : Instr} {len nx tg : Nat} {c : Prop} [Decidable c] (hi : sn_tg E.2.1 pc = some (i, len, nx, tg)) (h1 : sn_ps E.1 E.2.2.2.2.1 i nx tg pc lv st = some (True, (if c then p1 else p2), lv', st'))
    (hc : c) (K1 : Ev Ω d E p1 lv' st' h r h') : Ev Ω d E pc lv st h r h' := by
  rw [if_pos hc] at h1; exact Ev.p hi h1 trivial K1
theorem Ev.bf {Ω : sn_O} {d : Nat} {E : sn_E} {pc p1 p2 : Nat} {lv st lv' st' : List Value} {h h' : sn_H} {r : Option Value} {i : Instr} {len nx tg : Nat} {c : Prop} [Decidable c] (hi : sn_tg E.2.1 pc = some (i, len, nx, tg)) (h1 : sn_ps E.1 E.2.2.2.2.1 i nx tg pc lv st = some (True, (if c then p1 else p2), lv', st'))
    (hc : ¬ c) (K2 : Ev Ω d E p2 lv' st' h r h') : Ev Ω d E pc lv st h r h' := by
  rw [if_neg hc] at h1; exact Ev.p hi h1 trivial K2
-- A RUN OF INSTRUCTIONS
def sn_np (i : Instr) : Bool := match i with
  | .idiv => false
  | .irem => false
  | .ldiv => false
  | _ => true
def sn_frc (L : List Value) (k : List Value → Option (Nat × List Value × List Value)) : Option (Nat × List Value × List Value) := match L with
  | [] => k []
  | v :: r => sn_frc r fun r' => k (v :: r')
theorem sn_frc_eq (L : List Value) (k : List Value → Option (Nat × List Value × List Value)) : sn_frc L k = k L := by
  induction L generalizing k with
  | nil => rfl
  | cons v r ih => exact ih _
def sn_from (t : sn_Tb) (pc : Nat) : sn_Tb := match t with
  | [] => []
  | q :: r => bif Nat.beq q.1 pc then q :: r else sn_from r pc
def sn_go (o nL : Nat) (n : Nat) (t : sn_Tb) (pc : Nat) (lv st : List Value) : Option (Nat × List Value × List Value) := match n with
  | 0 => sn_frc lv fun lv2 => sn_frc st fun st2 => some (pc, lv2, st2)
  | m + 1 => match t with
    | [] => none
    | (q1, i, _, nx, tg) :: r => bif Nat.beq q1 pc then (bif sn_np i then (match sn_ps o nL i nx tg q1 lv st with
      | none => none
      | some (_, pc', lv', st') => sn_go o nL m r pc' lv' st') else none) else none
theorem sn_ps_np {o nL : Nat} {i : Instr} {nx tg pc pc' : Nat} {lv st lv' st' : List Value} {φ : Prop} (hn : sn_np i = true) (h : sn_ps o nL i nx tg pc lv st = some (φ, pc', lv', st')) : φ := by
  unfold sn_ps at h
  split at h <;> first | (cases hn; done) | skip
  all_goals (repeat' split at h) <;> first | (cases h; done) | (cases h; trivial) | (simp only [cond_eq_ite] at h; (repeat' split at h) <;> first | (cases h; done) | (cases h; trivial))
theorem sn_from_sub (t : sn_Tb) (pc : Nat) : ∀ q ∈ sn_from t pc, q ∈ t := by
  induction t with
  | nil => intro q hq; exact hq
  | cons a r ih =>
    intro q hq
    unfold sn_from at hq
    cases hb : Nat.beq a.1 pc with
    | true => rw [hb] at hq; exact hq
    | false => rw [hb] at hq; exact List.mem_cons_of_mem _ (ih q hq)
theorem Ev.gos {Ω : sn_O} {d : Nat} {E : sn_E} {h h' : sn_H} {r : Option Value} (n : Nat) : ∀ {t : sn_Tb} {pc pc' : Nat} {lv st lv' st' : List Value}, (∀ q ∈ t, q ∈ E.2.1) → sn_go E.1 E.2.2.2.2.1 n t pc lv st = some (pc', lv', st') → Ev Ω d E pc' lv' st' h r h' → Ev Ω d E pc lv st h r h' := by
  induction n with
  | zero =>
    intro t pc pc' lv st lv' st' hT hg K
    simp only [sn_go, sn_frc_eq] at hg
    cases hg
    exact K
  | succ m ih =>
    intro t pc pc' lv st lv' st' hT hg K
    cases t with
    | nil => cases hg
    | cons q u =>
      obtain ⟨q1, q2, q3, q4, q5⟩ := q
      unfold sn_go at hg
      cases hb : Nat.beq q1 pc with
      | false => simp only [hb, cond_false] at hg; cases hg
      | true =>
        have e := Nat.eq_of_beq_eq_true hb
        subst e
        cases hp : sn_np q2 with
        | false => simp only [hb, hp, cond_false, cond_true] at hg; cases hg
        | true =>
          simp only [hb, hp, cond_true] at hg
          split at hg
          · cases hg
          · rename_i φ p1 l1 s1 hs
            exact Ev.pm (hT _ List.mem_cons_self) hs (sn_ps_np hp hs) (ih (fun q hq => hT q (List.mem_cons_of_mem _ hq)) hg K)
theorem Ev.go {Ω : sn_O} {d : Nat} {E : sn_E} {pc pc' : Nat} {lv st lv' st' : List Value} {h h' : sn_H} {r : Option Value} (n : Nat) (hg : sn_go E.1 E.2.2.2.2.1 n (sn_from E.2.1 pc) pc lv st = some (pc', lv', st')) (K : Ev Ω d E pc' lv' st' h r h') : Ev Ω d E pc lv st h r h' :=
  Ev.gos n (sn_from_sub _ _) hg K
