/-! THE REFERENCE'S CELLS: A its rows of ints (A 0: laws, books, takenMany), B its rows of longs (B 0: h) -/
abbrev sn_X5 : Type := va_E × va_E × va_E × va_E × va_E
abbrev sn_A2 : Type := Nat → Nat → Int32
abbrev sn_B2 : Type := Nat → Nat → Int64
def mfs (A : sn_A2) (B : sn_B2) : List Value := [.int (A 0 0), .ref 6, .ref 7, .int (A 0 1), .ref 8, .ref 9, .ref 10, .ref 11, .ref 12, .ref 13, .ref 14, .ref 15, .int (A 0 2), .ref 16, .ref 17, .ref 18, .ref 19, .ref 20, .ref 21, .ref 22, .ref 23, .ref 24, .ref 25, .ref 26, .long (B 0 0)]
def hp (x : sn_X5) (A : sn_A2) (B : sn_B2) (t : sn_H) : sn_H := x.1 :: x.2.1 :: x.2.2.1 :: x.2.2.2.1 :: x.2.2.2.2 :: .inr (1, mfs A B) :: .inl (0, 8, .inl (A 6)) :: .inl (0, 8, .inl (A 7)) :: .inl (0, 8, .inl (A 8)) :: .inl (0, 8, .inl (A 9)) :: .inl (0, 8, .inl (A 10)) :: .inl (0, 256, .inl (A 11)) :: .inl (0, 256, .inl (A 12)) :: .inl (0, 8, .inl (A 13)) :: .inl (1, 48, .inr (.inl (B 14))) :: .inl (0, 32, .inl (A 15)) :: .inl (0, 32, .inl (A 16)) :: .inl (0, 32, .inl (A 17)) :: .inl (1, 7, .inr (.inl (B 18))) :: .inl (1, 32, .inr (.inl (B 19))) :: .inl (2, 4096, .inl (A 20)) :: .inl (1, 4096, .inr (.inl (B 21))) :: .inl (0, 32, .inl (A 22)) :: .inl (0, 6, .inl (A 23)) :: .inl (0, 6, .inl (A 24)) :: .inl (0, 32, .inl (A 25)) :: .inl (0, 32, .inl (A 26)) :: t
def uA (A : sn_A2) (a : Nat) (f : Nat → Int32) : sn_A2 := fun b => bif Nat.beq b a then f else A b
def uB (B : sn_B2) (a : Nat) (f : Nat → Int64) : sn_B2 := fun b => bif Nat.beq b a then f else B b
theorem uA_s (A : sn_A2) (a : Nat) (f : Nat → Int32) : uA A a f a = f := by simp [uA]
theorem uB_s (B : sn_B2) (a : Nat) (f : Nat → Int64) : uB B a f a = f := by simp [uB]
theorem uA_n (A : sn_A2) {a b : Nat} (f : Nat → Int32) (h : Nat.beq b a = false) : uA A a f b = A b := by unfold uA; rw [h]; rfl
theorem uB_n (B : sn_B2) {a b : Nat} (f : Nat → Int64) (h : Nat.beq b a = false) : uB B a f b = B b := by unfold uB; rw [h]; rfl
theorem uA_u (A : sn_A2) (a : Nat) (f g : Nat → Int32) : uA (uA A a f) a g = uA A a g := by
  funext b; unfold uA; cases Nat.beq b a <;> rfl
theorem uB_u (B : sn_B2) (a : Nat) (f g : Nat → Int64) : uB (uB B a f) a g = uB B a g := by
  funext b; unfold uB; cases Nat.beq b a <;> rfl
theorem uA_id (A : sn_A2) (a : Nat) : uA A a (A a) = A := by
  funext b; unfold uA
  cases h : Nat.beq b a with
  | true => rw [Nat.eq_of_beq_eq_true h]; rfl
  | false => rfl
theorem uB_id (B : sn_B2) (a : Nat) : uB B a (B a) = B := by
  funext b; unfold uB
  cases h : Nat.beq b a with
  | true => rw [Nat.eq_of_beq_eq_true h]; rfl
  | false => rfl
section HP
variable {x : sn_X5} {A : sn_A2} {B : sn_B2} {t : sn_H}
theorem hp_5 : (hp x A B t)[5]? = some (.inr (1, mfs A B)) := rfl
theorem hp_6 : (hp x A B t)[6]? = some (.inl (0, 8, .inl (A 6))) := rfl
theorem hps_6 (f : Nat → Int32) : (hp x A B t).set 6 (.inl (0, 8, .inl (f))) = hp x (uA A 6 f) B t := rfl
theorem hp_7 : (hp x A B t)[7]? = some (.inl (0, 8, .inl (A 7))) := rfl
theorem hps_7 (f : Nat → Int32) : (hp x A B t).set 7 (.inl (0, 8, .inl (f))) = hp x (uA A 7 f) B t := rfl
theorem hp_8 : (hp x A B t)[8]? = some (.inl (0, 8, .inl (A 8))) := rfl
theorem hps_8 (f : Nat → Int32) : (hp x A B t).set 8 (.inl (0, 8, .inl (f))) = hp x (uA A 8 f) B t := rfl
theorem hp_9 : (hp x A B t)[9]? = some (.inl (0, 8, .inl (A 9))) := rfl
theorem hps_9 (f : Nat → Int32) : (hp x A B t).set 9 (.inl (0, 8, .inl (f))) = hp x (uA A 9 f) B t := rfl
theorem hp_10 : (hp x A B t)[10]? = some (.inl (0, 8, .inl (A 10))) := rfl
theorem hps_10 (f : Nat → Int32) : (hp x A B t).set 10 (.inl (0, 8, .inl (f))) = hp x (uA A 10 f) B t := rfl
theorem hp_11 : (hp x A B t)[11]? = some (.inl (0, 256, .inl (A 11))) := rfl
theorem hps_11 (f : Nat → Int32) : (hp x A B t).set 11 (.inl (0, 256, .inl (f))) = hp x (uA A 11 f) B t := rfl
theorem hp_12 : (hp x A B t)[12]? = some (.inl (0, 256, .inl (A 12))) := rfl
theorem hps_12 (f : Nat → Int32) : (hp x A B t).set 12 (.inl (0, 256, .inl (f))) = hp x (uA A 12 f) B t := rfl
theorem hp_13 : (hp x A B t)[13]? = some (.inl (0, 8, .inl (A 13))) := rfl
theorem hps_13 (f : Nat → Int32) : (hp x A B t).set 13 (.inl (0, 8, .inl (f))) = hp x (uA A 13 f) B t := rfl
theorem hp_14 : (hp x A B t)[14]? = some (.inl (1, 48, .inr (.inl (B 14)))) := rfl
theorem hps_14 (f : Nat → Int64) : (hp x A B t).set 14 (.inl (1, 48, .inr (.inl (f)))) = hp x A (uB B 14 f) t := rfl
theorem hp_15 : (hp x A B t)[15]? = some (.inl (0, 32, .inl (A 15))) := rfl
theorem hps_15 (f : Nat → Int32) : (hp x A B t).set 15 (.inl (0, 32, .inl (f))) = hp x (uA A 15 f) B t := rfl
theorem hp_16 : (hp x A B t)[16]? = some (.inl (0, 32, .inl (A 16))) := rfl
theorem hps_16 (f : Nat → Int32) : (hp x A B t).set 16 (.inl (0, 32, .inl (f))) = hp x (uA A 16 f) B t := rfl
theorem hp_17 : (hp x A B t)[17]? = some (.inl (0, 32, .inl (A 17))) := rfl
theorem hps_17 (f : Nat → Int32) : (hp x A B t).set 17 (.inl (0, 32, .inl (f))) = hp x (uA A 17 f) B t := rfl
theorem hp_18 : (hp x A B t)[18]? = some (.inl (1, 7, .inr (.inl (B 18)))) := rfl
theorem hps_18 (f : Nat → Int64) : (hp x A B t).set 18 (.inl (1, 7, .inr (.inl (f)))) = hp x A (uB B 18 f) t := rfl
theorem hp_19 : (hp x A B t)[19]? = some (.inl (1, 32, .inr (.inl (B 19)))) := rfl
theorem hps_19 (f : Nat → Int64) : (hp x A B t).set 19 (.inl (1, 32, .inr (.inl (f)))) = hp x A (uB B 19 f) t := rfl
theorem hp_20 : (hp x A B t)[20]? = some (.inl (2, 4096, .inl (A 20))) := rfl
theorem hps_20 (f : Nat → Int32) : (hp x A B t).set 20 (.inl (2, 4096, .inl (f))) = hp x (uA A 20 f) B t := rfl
theorem hp_21 : (hp x A B t)[21]? = some (.inl (1, 4096, .inr (.inl (B 21)))) := rfl
theorem hps_21 (f : Nat → Int64) : (hp x A B t).set 21 (.inl (1, 4096, .inr (.inl (f)))) = hp x A (uB B 21 f) t := rfl
theorem hp_22 : (hp x A B t)[22]? = some (.inl (0, 32, .inl (A 22))) := rfl
theorem hps_22 (f : Nat → Int32) : (hp x A B t).set 22 (.inl (0, 32, .inl (f))) = hp x (uA A 22 f) B t := rfl
theorem hp_23 : (hp x A B t)[23]? = some (.inl (0, 6, .inl (A 23))) := rfl
theorem hps_23 (f : Nat → Int32) : (hp x A B t).set 23 (.inl (0, 6, .inl (f))) = hp x (uA A 23 f) B t := rfl
theorem hp_24 : (hp x A B t)[24]? = some (.inl (0, 6, .inl (A 24))) := rfl
theorem hps_24 (f : Nat → Int32) : (hp x A B t).set 24 (.inl (0, 6, .inl (f))) = hp x (uA A 24 f) B t := rfl
theorem hp_25 : (hp x A B t)[25]? = some (.inl (0, 32, .inl (A 25))) := rfl
theorem hps_25 (f : Nat → Int32) : (hp x A B t).set 25 (.inl (0, 32, .inl (f))) = hp x (uA A 25 f) B t := rfl
theorem hp_26 : (hp x A B t)[26]? = some (.inl (0, 32, .inl (A 26))) := rfl
theorem hps_26 (f : Nat → Int32) : (hp x A B t).set 26 (.inl (0, 32, .inl (f))) = hp x (uA A 26 f) B t := rfl
theorem hps_laws (v : Int32) : (hp x A B t).set 5 (.inr (1, (mfs A B).set 0 (.int v))) = hp x (uA A 0 (upd (A 0) 0 v)) B t := rfl
theorem hps_books (v : Int32) : (hp x A B t).set 5 (.inr (1, (mfs A B).set 3 (.int v))) = hp x (uA A 0 (upd (A 0) 1 v)) B t := rfl
theorem hps_many (v : Int32) : (hp x A B t).set 5 (.inr (1, (mfs A B).set 12 (.int v))) = hp x (uA A 0 (upd (A 0) 2 v)) B t := rfl
theorem hps_h (v : Int64) : (hp x A B t).set 5 (.inr (1, (mfs A B).set 24 (.long v))) = hp x A (uB B 0 (vp_updL (B 0) 0 v)) t := rfl
theorem hp_len : (hp x A B t).length = t.length + 27 := rfl
end HP
