/-! the pure part: a byte against a number -/
theorem qy_0 {α : Type} (y : UInt8) (a b : α) : (if iN y.toNat = iN 0 then a else b) = if y = 0 then a else b := by
  have := q_yk y 0 (by omega)
  by_cases e : y = 0
  · rw [if_pos e, if_pos (this.symm ▸ e)]
  · rw [if_neg e, if_neg (fun q => e (this ▸ q))]
theorem qy_1 {α : Type} (y : UInt8) (a b : α) : (if iN y.toNat = iN 1 then a else b) = if y = 1 then a else b := by
  have := q_yk y 1 (by omega)
  by_cases e : y = 1
  · rw [if_pos e, if_pos (this.symm ▸ e)]
  · rw [if_neg e, if_neg (fun q => e (this ▸ q))]
theorem qy_2 {α : Type} (y : UInt8) (a b : α) : (if iN y.toNat = iN 2 then a else b) = if y = 2 then a else b := by
  have := q_yk y 2 (by omega)
  by_cases e : y = 2
  · rw [if_pos e, if_pos (this.symm ▸ e)]
  · rw [if_neg e, if_neg (fun q => e (this ▸ q))]
theorem qy_3 {α : Type} (y : UInt8) (a b : α) : (if iN y.toNat = iN 3 then a else b) = if y = 3 then a else b := by
  have := q_yk y 3 (by omega)
  by_cases e : y = 3
  · rw [if_pos e, if_pos (this.symm ▸ e)]
  · rw [if_neg e, if_neg (fun q => e (this ▸ q))]
theorem qy_4 {α : Type} (y : UInt8) (a b : α) : (if iN y.toNat = iN 4 then a else b) = if y = 4 then a else b := by
  have := q_yk y 4 (by omega)
  by_cases e : y = 4
  · rw [if_pos e, if_pos (this.symm ▸ e)]
  · rw [if_neg e, if_neg (fun q => e (this ▸ q))]
theorem qy_8 {α : Type} (y : UInt8) (a b : α) : (if iN y.toNat = iN 8 then a else b) = if y = 8 then a else b := by
  have := q_yk y 8 (by omega)
  by_cases e : y = 8
  · rw [if_pos e, if_pos (this.symm ▸ e)]
  · rw [if_neg e, if_neg (fun q => e (this ▸ q))]
theorem qy_10 {α : Type} (y : UInt8) (a b : α) : (if iN y.toNat = iN 10 then a else b) = if y = 10 then a else b := by
  have := q_yk y 10 (by omega)
  by_cases e : y = 10
  · rw [if_pos e, if_pos (this.symm ▸ e)]
  · rw [if_neg e, if_neg (fun q => e (this ▸ q))]
theorem qy_16 {α : Type} (y : UInt8) (a b : α) : (if iN y.toNat = iN 16 then a else b) = if y = 16 then a else b := by
  have := q_yk y 16 (by omega)
  by_cases e : y = 16
  · rw [if_pos e, if_pos (this.symm ▸ e)]
  · rw [if_neg e, if_neg (fun q => e (this ▸ q))]
theorem qy_18 {α : Type} (y : UInt8) (a b : α) : (if iN y.toNat = iN 18 then a else b) = if y = 18 then a else b := by
  have := q_yk y 18 (by omega)
  by_cases e : y = 18
  · rw [if_pos e, if_pos (this.symm ▸ e)]
  · rw [if_neg e, if_neg (fun q => e (this ▸ q))]
theorem qy_36 {α : Type} (y : UInt8) (a b : α) : (if iN y.toNat = iN 36 then a else b) = if y = 36 then a else b := by
  have := q_yk y 36 (by omega)
  by_cases e : y = 36
  · rw [if_pos e, if_pos (this.symm ▸ e)]
  · rw [if_neg e, if_neg (fun q => e (this ▸ q))]
theorem qy_46 {α : Type} (y : UInt8) (a b : α) : (if iN y.toNat = iN 46 then a else b) = if y = 46 then a else b := by
  have := q_yk y 46 (by omega)
  by_cases e : y = 46
  · rw [if_pos e, if_pos (this.symm ▸ e)]
  · rw [if_neg e, if_neg (fun q => e (this ▸ q))]
theorem qy_48 {α : Type} (y : UInt8) (a b : α) : (if iN y.toNat = iN 48 then a else b) = if y = 48 then a else b := by
  have := q_yk y 48 (by omega)
  by_cases e : y = 48
  · rw [if_pos e, if_pos (this.symm ▸ e)]
  · rw [if_neg e, if_neg (fun q => e (this ▸ q))]
