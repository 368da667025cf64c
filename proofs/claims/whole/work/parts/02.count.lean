-- counting below a bound, a bijection keeps a count
def dm_cnt (P : Nat → Bool) : Nat → Nat
  | 0 => 0
  | n + 1 => dm_cnt P n + (if P n = true then 1 else 0)
theorem dm_cnt_0 (P : Nat → Bool) : dm_cnt P 0 = 0 := rfl
theorem dm_cnt_s (P : Nat → Bool) (n : Nat) : dm_cnt P (n + 1) = dm_cnt P n + (if P n = true then 1 else 0) := rfl
theorem dm_cnt_t {P : Nat → Bool} {n : Nat} (h : P n = true) : dm_cnt P (n + 1) = dm_cnt P n + 1 := by
  rw [dm_cnt_s, if_pos h]
theorem dm_cnt_f {P : Nat → Bool} {n : Nat} (h : ¬ P n = true) : dm_cnt P (n + 1) = dm_cnt P n := by
  rw [dm_cnt_s, if_neg h, Nat.add_zero]
theorem dm_cnt_congr {P Q : Nat → Bool} (n : Nat) (h : ∀ i, i < n → P i = Q i) : dm_cnt P n = dm_cnt Q n := by
  induction n with
  | zero => rfl
  | succ n ih => rw [dm_cnt_s, dm_cnt_s, ih (fun i hi => h i (by omega)), h n (by omega)]
theorem dm_cnt_all {P : Nat → Bool} (n : Nat) (h : ∀ i, i < n → P i = true) : dm_cnt P n = n := by
  induction n with
  | zero => rfl
  | succ n ih => rw [dm_cnt_t (h n (by omega)), ih (fun i hi => h i (by omega))]
theorem dm_cnt_none {P : Nat → Bool} (n : Nat) (h : ∀ i, i < n → ¬ P i = true) : dm_cnt P n = 0 := by
  induction n with
  | zero => rfl
  | succ n ih => rw [dm_cnt_f (h n (by omega)), ih (fun i hi => h i (by omega))]
theorem dm_cnt_le (P : Nat → Bool) (n : Nat) : dm_cnt P n ≤ n := by
  induction n with
  | zero => exact Nat.le_refl 0
  | succ n ih =>
    rw [dm_cnt_s]
    by_cases h : P n = true
    · rw [if_pos h]; omega
    · rw [if_neg h]; omega
theorem dm_cnt_mem {P : Nat → Bool} (n i : Nat) (hi : i < n) (h : P i = true) : 0 < dm_cnt P n := by
  induction n with
  | zero => omega
  | succ n ih =>
    by_cases e : i = n
    · subst e; rw [dm_cnt_t h]; omega
    · have := ih (by omega)
      rw [dm_cnt_s]; omega
theorem dm_cnt_pos {P : Nat → Bool} (n : Nat) (h : 0 < dm_cnt P n) : ∃ i, i < n ∧ P i = true := by
  induction n with
  | zero => rw [dm_cnt_0] at h; omega
  | succ n ih =>
    by_cases e : P n = true
    · exact ⟨n, by omega, e⟩
    · rw [dm_cnt_f e] at h
      obtain ⟨i, a, b⟩ := ih h
      exact ⟨i, by omega, b⟩
theorem dm_cnt_put (Q : Nat → Bool) (m : Nat) (b : Bool) (n : Nat) (h : m < n) :
    dm_cnt (fun u => if u = m then b else Q u) n + (if Q m = true then 1 else 0) = dm_cnt Q n + (if b = true then 1 else 0) := by
  induction n with
  | zero => omega
  | succ n ih =>
    by_cases e : n = m
    · subst e
      have h1 : dm_cnt (fun u => if u = n then b else Q u) n = dm_cnt Q n :=
        dm_cnt_congr n (fun i hi => if_neg (by omega))
      have h2 : (if n = n then b else Q n) = b := if_pos rfl
      rw [dm_cnt_s, dm_cnt_s, h1, h2]
      omega
    · have h1 := ih (by omega)
      have h2 : (if n = m then b else Q n) = Q n := if_neg e
      rw [dm_cnt_s, dm_cnt_s, h2]
      omega
theorem dm_cnt_add (P : Nat → Bool) (a b : Nat) : dm_cnt P (a + b) = dm_cnt P a + dm_cnt (fun t => P (a + t)) b := by
  induction b with
  | zero => rfl
  | succ b ih =>
    rw [← Nat.add_assoc, dm_cnt_s, dm_cnt_s, ih, Nat.add_assoc]
theorem dm_if2 : ∀ b c : Bool, (if (b && c) = true then 1 else 0) + (if (b && !c) = true then 1 else 0) = (if b = true then 1 else 0 : Nat) := by decide
theorem dm_add4 {a b c x y z : Nat} (h : a + b = c) (k : x + y = z) : (a + x) + (b + y) = c + z := by omega
theorem dm_cnt_split (P Q : Nat → Bool) (n : Nat) :
    dm_cnt (fun j => P j && Q j) n + dm_cnt (fun j => P j && !Q j) n = dm_cnt P n := by
  induction n with
  | zero => rfl
  | succ n ih => exact dm_add4 ih (dm_if2 (P n) (Q n))
theorem dm_first {P : Nat → Bool} (b : Nat) (hb : 0 < b) (h : ∀ t, 0 < t → t < b → ¬ P t = true) :
    dm_cnt P b = if P 0 = true then 1 else 0 := by
  induction b with
  | zero => omega
  | succ b ih =>
    by_cases e : b = 0
    · subst e; rw [dm_cnt_s, dm_cnt_0, Nat.zero_add]
    · rw [dm_cnt_f (h b (by omega) (by omega)), ih (by omega) (fun t a c => h t a (by omega))]
theorem dm_mult (P : Nat → Bool) (e : Nat) (he : 0 < e) (h : ∀ i, P i = true → e ∣ i) (d : Nat) :
    dm_cnt P (d * e) = dm_cnt (fun j => P (e * j)) d := by
  induction d with
  | zero => rw [Nat.zero_mul]; rfl
  | succ d ih =>
    have h1 : dm_cnt (fun t => P (d * e + t)) e = if P (d * e + 0) = true then 1 else 0 :=
      dm_first (P := fun t => P (d * e + t)) e he (fun t a b c => by
        have h2 : e ∣ d * e + t := h _ c
        have h3 : e ∣ t := (Nat.dvd_add_right (Nat.dvd_mul_left e d)).mp h2
        have h4 := Nat.le_of_dvd a h3
        omega)
    rw [Nat.add_mul, Nat.one_mul, dm_cnt_add, ih, h1, dm_cnt_s, Nat.add_zero, Nat.mul_comm d e]
theorem dm_bij (n : Nat) : ∀ (f : Nat → Nat) (Q : Nat → Bool), (∀ i, i < n → f i < n) →
    (∀ i j, i < n → j < n → f i = f j → i = j) → dm_cnt Q n = dm_cnt (fun i => Q (f i)) n := by
  induction n with
  | zero => intros; rfl
  | succ n ih =>
    intro f Q hf hi
    have hm : f n < n + 1 := hf n (by omega)
    by_cases e : f n = n
    · have h1 := ih f Q (fun i hi' => by
          have a := hf i (by omega)
          have b : f i ≠ n := fun z => by
            have := hi i n (by omega) (by omega) (z.trans e.symm)
            omega
          omega) (fun i j a b c => hi i j (by omega) (by omega) c)
      have h2 : Q (f n) = Q n := by rw [e]
      rw [dm_cnt_s, dm_cnt_s, h1, h2]
    · have h1 := ih (fun i => if f i = n then f n else f i) (fun u => if u = f n then Q n else Q u)
        (fun i hi' => by
          have a := hf i (by omega)
          show (if f i = n then f n else f i) < n
          by_cases z : f i = n
          · rw [if_pos z]; omega
          · rw [if_neg z]; omega)
        (fun i j a b c => by
          have c' : (if f i = n then f n else f i) = (if f j = n then f n else f j) := c
          have ni : ∀ k, k < n → f k ≠ f n := fun k hk z => by
            have := hi k n (by omega) (by omega) z
            omega
          by_cases z : f i = n
          · by_cases w : f j = n
            · exact hi i j (by omega) (by omega) (z.trans w.symm)
            · rw [if_pos z, if_neg w] at c'
              exact absurd c'.symm (ni j b)
          · by_cases w : f j = n
            · rw [if_neg z, if_pos w] at c'
              exact absurd c' (ni i a)
            · rw [if_neg z, if_neg w] at c'
              exact hi i j (by omega) (by omega) c')
      have h2 : dm_cnt (fun i => Q (f i)) n = dm_cnt (fun i => (fun u => if u = f n then Q n else Q u) ((fun i => if f i = n then f n else f i) i)) n :=
        dm_cnt_congr n (fun i hi' => by
          show Q (f i) = if (if f i = n then f n else f i) = f n then Q n else Q (if f i = n then f n else f i)
          by_cases z : f i = n
          · rw [if_pos z, if_pos rfl, z]
          · rw [if_neg z, if_neg (fun w => by
              have := hi i n (by omega) (by omega) w
              omega)])
      have h3 := dm_cnt_put Q (f n) (Q n) n (by omega)
      rw [dm_cnt_s, dm_cnt_s, h2, ← h1]
      show dm_cnt Q n + (if Q n = true then 1 else 0) = dm_cnt (fun u => if u = f n then Q n else Q u) n + (if Q (f n) = true then 1 else 0)
      exact h3.symm
theorem dm_surj (n : Nat) (f : Nat → Nat) (hf : ∀ i, i < n → f i < n)
    (hi : ∀ i j, i < n → j < n → f i = f j → i = j) (u : Nat) (hu : u < n) : ∃ i, i < n ∧ f i = u := by
  have h := dm_bij n f (fun x => x == u) hf hi
  have h2 : 0 < dm_cnt (fun x => x == u) n := dm_cnt_mem n u hu (by simp)
  rw [h] at h2
  obtain ⟨i, a, b⟩ := dm_cnt_pos n h2
  exact ⟨i, a, by simpa using b⟩
noncomputable def dm_d (a : Prop) : Bool := @decide a (Classical.propDecidable a)
theorem dm_d_iff {a : Prop} : dm_d a = true ↔ a := @decide_eq_true_iff a (Classical.propDecidable a)
theorem dm_d_congr {a b : Prop} (h : a ↔ b) : dm_d a = dm_d b := by rw [propext h]
